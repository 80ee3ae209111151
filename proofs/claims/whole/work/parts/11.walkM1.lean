section RW
variable {p : Program} {l : Launch} {e : Env} {R : Room} {s : State} {m : MethodId} {args : Array Value} {below : List Frame} {meth : Method} {c : Code} {H : Heap} {locs : List Loc} {Q : State → Prop}
variable {sh : List Sh} {D : va_G} {cA : Nat → ClassId} {ad : Nat → Nat} {H0 : Heap} {M : Mem} {cc : ByteArray} {own : String} {nL : Nat} {ret : Option FieldType} {pc : Nat} {ls : Array Slot} {rest : List Value} {lv : List (Nat × Value)}
def fX8_far (v1 : Int32) (v2 : Int32) (M : Mem) : Option Int32 :=
  ix v1 6 <|
  some (jirem ((v2 - (M 14 v1.toNatClampNeg)) + (64 : Int32)) (64 : Int32))
set_option maxHeartbeats 4000000 in
set_option maxRecDepth 100000 in
theorem cX8_far_ok (l : Launch) (D : va_G) (cA : Nat → ClassId) (ad : Nat → Nat) (M : Mem) (v1 : Int32) (v2 : Int32) (r : Int32) (hf : fX8_far v1 v2 M = some r) : Ctg l yX8_far cX8_far 3 (some .int) 0 0 shM D cA ad [.ref (ad 0), .int v1, .int v2] M (Qzi shM D cA ad .int r M) := by
  refine ct_in (by decide) (Nat.le_of_ble_eq_true rfl) ?_
  intro p e s m below meth c ls F hl hw
  have hl : lv_has ls 3 [(0, .ref (ad 0)), (1, .int v1), (2, .int v2)] := hl
  unfold fX8_far at hf
  refine lv_iload_n F.1 F.2.1 dX8_far_0 rfl (lv_at hl 2 rfl) ?_
  refine lv_aload_n F.1 F.2.1 dX8_far_1 rfl (lv_at hl 0 rfl) ?_
  refine gX8_59 F hw rfl dX8_far_2 ?_
  refine lv_iload_n F.1 F.2.1 dX8_far_5 rfl (lv_at hl 1 rfl) ?_
  refine r_iald F hw (n := 6) rfl dX8_far_6 hf (fun hi1 hf => ?_)
  refine lv_isub F.1 F.2.1 dX8_far_7 ?_
  refine k_bipush_64 F dX8_far_8 ?_
  refine lv_iadd F.1 F.2.1 dX8_far_10 ?_
  refine k_bipush_64 F dX8_far_11 ?_
  refine k_irem F dX8_far_13 (by decide) ?_
  exact r_iret_o F hw (vp_nar_int _) dX8_far_14 hf
theorem clX8_180 (F : Fx D cA RX8 cc nL ret p s m args meth c) (hw : Wd shM D cA ad H0 M H locs) (hl : lv_has ls nL lv) {v1 : Int32} {v2 : Int32} (hR : 1 ≤ R.frames ∧ 22 ≤ R.locals) (hrm : (rest.map fun v => v.category).sum ≤ 8) (hd : decode cc pc = .ok (.invokevirtual 180, 3)) {α : Type} {K : Int32 → Option α} {res : α} (hf : bnd1 (fX8_far v1 v2 M) K = some res) (kk : ∀ (t : Int32) (H1 : Heap) (locs1 : List Loc), Wd shM D cA ad H0 M H1 locs1 → narrow .int (.int t) = .int t → K t = some res → W p l e R s m args below meth c H1 locs1 0 0 Q (F0 m (pc + 3) ls (.int t :: rest))) : W p l e R s m args below meth c H locs 0 0 Q (F0 m pc ls (.int v2 :: .int v1 :: .ref (ad 0) :: rest)) := by
  obtain ⟨t, h1, h2⟩ := bnd1_some hf
  exact r_afti hw (r_runV (As := [.int v1, .int v2]) F hw hl (cX8_far_ok l D cA ad M v1 v2 t h1) cz8 (show shM[0]? = some (.inr (8, sf8)) from rfl) cwX8_180 hR hrm hd) (fun H1 o1 hw1 hn => kk t H1 o1 hw1 hn h2)
def fX8_isOn (v1 : Int32) (v2 : Int32) (M : Mem) : Option Int32 :=
  bnd1 (fX8_far v1 v2 M) fun t4 =>
  some (fX8_in t4 (1 : Int32) (32 : Int32))
set_option maxHeartbeats 4000000 in
set_option maxRecDepth 100000 in
theorem cX8_isOn_ok (l : Launch) (D : va_G) (cA : Nat → ClassId) (ad : Nat → Nat) (M : Mem) (v1 : Int32) (v2 : Int32) (r : Int32) (hf : fX8_isOn v1 v2 M = some r) : Ctg l yX8_isOn cX8_isOn 3 (some .boolean) 1 22 shM D cA ad [.ref (ad 0), .int v1, .int v2] M (Qzi shM D cA ad .boolean r M) := by
  refine ct_in (by decide) (Nat.le_of_ble_eq_true rfl) ?_
  intro p e s m below meth c ls F hl hw
  have hl : lv_has ls 3 [(0, .ref (ad 0)), (1, .int v1), (2, .int v2)] := hl
  unfold fX8_isOn at hf
  refine lv_aload_n F.1 F.2.1 dX8_isOn_0 rfl (lv_at hl 0 rfl) ?_
  refine lv_iload_n F.1 F.2.1 dX8_isOn_1 rfl (lv_at hl 1 rfl) ?_
  refine lv_iload_n F.1 F.2.1 dX8_isOn_2 rfl (lv_at hl 2 rfl) ?_
  refine clX8_180 F hw hl ⟨Nat.le_of_ble_eq_true rfl, Nat.le_of_ble_eq_true rfl⟩ (Nat.le_of_ble_eq_true rfl) dX8_isOn_3 hf (fun t4 H1 o2 hw hn3 hf => ?_)
  refine k_iconst_1 F dX8_isOn_6 ?_
  refine k_bipush_32 F dX8_isOn_7 ?_
  refine clX8_110 F hw hl ⟨Nat.le_of_ble_eq_true rfl, Nat.le_of_ble_eq_true rfl⟩ (Nat.le_of_ble_eq_true rfl) dX8_isOn_9 (fun H5 o6 hw hn7 => ?_)
  exact r_iret_o F hw hn7 dX8_isOn_12 hf
theorem clX8_190 (F : Fx D cA RX8 cc nL ret p s m args meth c) (hw : Wd shM D cA ad H0 M H locs) (hl : lv_has ls nL lv) {v1 : Int32} {v2 : Int32} (hR : 2 ≤ R.frames ∧ 44 ≤ R.locals) (hrm : (rest.map fun v => v.category).sum ≤ 8) (hd : decode cc pc = .ok (.invokevirtual 190, 3)) {α : Type} {K : Int32 → Option α} {res : α} (hf : bnd1 (fX8_isOn v1 v2 M) K = some res) (kk : ∀ (t : Int32) (H1 : Heap) (locs1 : List Loc), Wd shM D cA ad H0 M H1 locs1 → narrow .boolean (.int t) = .int t → K t = some res → W p l e R s m args below meth c H1 locs1 0 0 Q (F0 m (pc + 3) ls (.int t :: rest))) : W p l e R s m args below meth c H locs 0 0 Q (F0 m pc ls (.int v2 :: .int v1 :: .ref (ad 0) :: rest)) := by
  obtain ⟨t, h1, h2⟩ := bnd1_some hf
  exact r_afti hw (r_runV (As := [.int v1, .int v2]) F hw hl (cX8_isOn_ok l D cA ad M v1 v2 t h1) cz8 (show shM[0]? = some (.inr (8, sf8)) from rfl) cwX8_190 hR hrm hd) (fun H1 o1 hw1 hn => kk t H1 o1 hw1 hn h2)
def fX8_windowOf_L2 : Nat → Int32 → Int32 → Int32 → Mem → Option Int32
  | 0, _, _, _, _ => none
  | n + 1, v1, v2, v3, M =>
    if (M 0 28) ≤ v3 then
      some (-1 : Int32)
    else
      ix v3 390 <|
      if (M 24 v3.toNatClampNeg) = v1 then
        if (M 25 v3.toNatClampNeg) = v2 then
          some v3
        else
          fX8_windowOf_L2 n v1 v2 (v3 + (1 : Int32)) M
      else
        fX8_windowOf_L2 n v1 v2 (v3 + (1 : Int32)) M
def fX8_windowOf (v1 : Int32) (v2 : Int32) (M : Mem) : Option Int32 :=
  fX8_windowOf_L2 FUEL v1 v2 (0 : Int32) M
set_option maxHeartbeats 4000000 in
set_option maxRecDepth 100000 in
theorem wX8_windowOf_L2 {p : Program} {l : Launch} {e : Env} {s : State} {m : MethodId} {args : Array Value} {below : List Frame} {meth : Method} {c : Code} {D : va_G} {cA : Nat → ClassId} {ad : Nat → Nat} {r : Int32} (F : Fx D cA RX8 cX8_windowOf 4 (some .int) p s m args meth c) : ∀ (n : Nat) (v1 : Int32) (v2 : Int32) (v3 : Int32) (M : Mem) (H : Heap) (o : List Loc) (ls : Array Slot), lv_has ls 4 [(0, .ref (ad 0)), (1, .int v1), (2, .int v2), (3, .int v3)] → Wd shM D cA ad s.heap M H o → fX8_windowOf_L2 n v1 v2 v3 M = some r → W p l e (rz 0 0) s m args below meth c H o 0 0 (MQ below (Qzi shM D cA ad .int r M) args s 0 0 (Az shM ad)) (F0 m 2 ls []) := by
  intro n
  induction n with
  | zero =>
    intro v1 v2 v3 M H o ls hl hw hf
    cases hf
  | succ n ih =>
    intro v1 v2 v3 M H o ls hl hw hf
    rw [fX8_windowOf_L2] at hf
    refine lv_iload_n F.1 F.2.1 dX8_windowOf_2 rfl (lv_at hl 3 rfl) ?_
    refine lv_aload_n F.1 F.2.1 dX8_windowOf_3 rfl (lv_at hl 0 rfl) ?_
    refine gX8_120 F hw rfl dX8_windowOf_4 ?_
    refine b_icmp_ge F dX8_windowOf_7 (tgt := 38) (by decide) hf (fun hc7 hf => ?_) (fun hc7 hf => ?_)
    · refine k_iconst_m1 F dX8_windowOf_38 ?_
      exact r_iret_o F hw (vp_nar_int _) dX8_windowOf_39 hf
    · refine lv_aload_n F.1 F.2.1 dX8_windowOf_10 rfl (lv_at hl 0 rfl) ?_
      refine gX8_89 F hw rfl dX8_windowOf_11 ?_
      refine lv_iload_n F.1 F.2.1 dX8_windowOf_14 rfl (lv_at hl 3 rfl) ?_
      refine r_iald F hw (n := 390) rfl dX8_windowOf_15 hf (fun hi2 hf => ?_)
      refine lv_iload_n F.1 F.2.1 dX8_windowOf_16 rfl (lv_at hl 1 rfl) ?_
      refine b_icmp_ne F dX8_windowOf_17 (tgt := 32) (by decide) hf (fun hc6 hf => ?_) (fun hc6 hf => ?_)
      · refine lv_aload_n F.1 F.2.1 dX8_windowOf_20 rfl (lv_at hl 0 rfl) ?_
        refine gX8_92 F hw rfl dX8_windowOf_21 ?_
        refine lv_iload_n F.1 F.2.1 dX8_windowOf_24 rfl (lv_at hl 3 rfl) ?_
        refine r_iald0 F hw (n := 390) rfl dX8_windowOf_25 hi2 ?_
        refine lv_iload_n F.1 F.2.1 dX8_windowOf_26 rfl (lv_at hl 2 rfl) ?_
        refine b_icmp_ne F dX8_windowOf_27 (tgt := 32) (by decide) hf (fun hc5 hf => ?_) (fun hc5 hf => ?_)
        · refine lv_iload_n F.1 F.2.1 dX8_windowOf_30 rfl (lv_at hl 3 rfl) ?_
          exact r_iret_o F hw (vp_nar_int _) dX8_windowOf_31 hf
        · refine lv_iinc F.1 F.2.1 dX8_windowOf_32 hl (k := 3) rfl (ki_1 _) (lv' := [(3, .int (v3 + (1 : Int32))), (0, .ref (ad 0)), (1, .int v1), (2, .int v2)]) (Nat.le_of_ble_eq_true rfl) rfl (fun ls4 hl => ?_)
          refine lv_goto F.1 F.2.1 dX8_windowOf_35 (tgt := 2) (by decide) ?_
          exact ih v1 v2 (v3 + (1 : Int32)) M _ _ _ (lv_sub hl [1, 2, 3, 0] rfl) hw hf
      · refine lv_iinc F.1 F.2.1 dX8_windowOf_32 hl (k := 3) rfl (ki_1 _) (lv' := [(3, .int (v3 + (1 : Int32))), (0, .ref (ad 0)), (1, .int v1), (2, .int v2)]) (Nat.le_of_ble_eq_true rfl) rfl (fun ls3 hl => ?_)
        refine lv_goto F.1 F.2.1 dX8_windowOf_35 (tgt := 2) (by decide) ?_
        exact ih v1 v2 (v3 + (1 : Int32)) M _ _ _ (lv_sub hl [1, 2, 3, 0] rfl) hw hf
set_option maxHeartbeats 4000000 in
set_option maxRecDepth 100000 in
theorem cX8_windowOf_ok (l : Launch) (D : va_G) (cA : Nat → ClassId) (ad : Nat → Nat) (M : Mem) (v1 : Int32) (v2 : Int32) (r : Int32) (hf : fX8_windowOf v1 v2 M = some r) : Ctg l yX8_windowOf cX8_windowOf 4 (some .int) 0 0 shM D cA ad [.ref (ad 0), .int v1, .int v2] M (Qzi shM D cA ad .int r M) := by
  refine ct_in (by decide) (Nat.le_of_ble_eq_true rfl) ?_
  intro p e s m below meth c ls F hl hw
  have hl : lv_has ls 4 [(0, .ref (ad 0)), (1, .int v1), (2, .int v2)] := hl
  unfold fX8_windowOf at hf
  refine k_iconst_0 F dX8_windowOf_0 ?_
  refine lv_istore_n F.1 F.2.1 dX8_windowOf_1 rfl hl (lv' := [(3, .int (0 : Int32)), (0, .ref (ad 0)), (1, .int v1), (2, .int v2)]) (Nat.le_of_ble_eq_true rfl) rfl (fun ls1 hl => ?_)
  exact wX8_windowOf_L2 F FUEL v1 v2 (0 : Int32) M _ _ _ (lv_sub hl [1, 2, 3, 0] rfl) hw hf
theorem clX8_183 (F : Fx D cA RX8 cc nL ret p s m args meth c) (hw : Wd shM D cA ad H0 M H locs) (hl : lv_has ls nL lv) {v1 : Int32} {v2 : Int32} (hR : 1 ≤ R.frames ∧ 23 ≤ R.locals) (hrm : (rest.map fun v => v.category).sum ≤ 8) (hd : decode cc pc = .ok (.invokevirtual 183, 3)) {α : Type} {K : Int32 → Option α} {res : α} (hf : bnd1 (fX8_windowOf v1 v2 M) K = some res) (kk : ∀ (t : Int32) (H1 : Heap) (locs1 : List Loc), Wd shM D cA ad H0 M H1 locs1 → narrow .int (.int t) = .int t → K t = some res → W p l e R s m args below meth c H1 locs1 0 0 Q (F0 m (pc + 3) ls (.int t :: rest))) : W p l e R s m args below meth c H locs 0 0 Q (F0 m pc ls (.int v2 :: .int v1 :: .ref (ad 0) :: rest)) := by
  obtain ⟨t, h1, h2⟩ := bnd1_some hf
  exact r_afti hw (r_runV (As := [.int v1, .int v2]) F hw hl (cX8_windowOf_ok l D cA ad M v1 v2 t h1) cz8 (show shM[0]? = some (.inr (8, sf8)) from rfl) cwX8_183 hR hrm hd) (fun H1 o1 hw1 hn => kk t H1 o1 hw1 hn h2)
def fX8_hearsIn (v1 : Int32) (v2 : Int32) (v3 : Int32) (M : Mem) : Option Mem :=
  ix v1 390 <|
  jn (fun (t2 : Int32) =>
    jn (fun (t9 : Int32) =>
      ix (((4 : Int32) * v1) + v2) 1560 <| wr M 28 (((4 : Int32) * v1) + v2).toNatClampNeg t9 fun M15 =>
      wr M15 27 v1.toNatClampNeg ((M15 27 v1.toNatClampNeg) ||| (jshl (1 : Int32) v2)) fun M18 =>
      some M18) fun j13 =>
    if t2 = 0 then
      j13 v3
    else
      ix (((4 : Int32) * v1) + v2) 1560 <|
      if (M 28 (((4 : Int32) * v1) + v2).toNatClampNeg) ≤ v3 then
        j13 v3
      else
        j13 (M 28 (((4 : Int32) * v1) + v2).toNatClampNeg)) fun j6 =>
  if ((jshr (M 27 v1.toNatClampNeg) v2) &&& (1 : Int32)) = (1 : Int32) then
    j6 (1 : Int32)
  else
    j6 (0 : Int32)
set_option maxHeartbeats 4000000 in
set_option maxRecDepth 100000 in
theorem cX8_hearsIn_ok (l : Launch) (D : va_G) (cA : Nat → ClassId) (ad : Nat → Nat) (M : Mem) (v1 : Int32) (v2 : Int32) (v3 : Int32) (M' : Mem) (hf : fX8_hearsIn v1 v2 v3 M = some M') : Ctg l yX8_hearsIn cX8_hearsIn 6 none 0 0 shM D cA ad [.ref (ad 0), .int v1, .int v2, .int v3] M (Qzv shM D cA ad M') := by
  refine ct_in (by decide) (Nat.le_of_ble_eq_true rfl) ?_
  intro p e s m below meth c ls F hl hw
  have hl : lv_has ls 6 [(0, .ref (ad 0)), (1, .int v1), (2, .int v2), (3, .int v3)] := hl
  unfold fX8_hearsIn at hf
  refine lv_aload_n F.1 F.2.1 dX8_hearsIn_0 rfl (lv_at hl 0 rfl) ?_
  refine gX8_98 F hw rfl dX8_hearsIn_1 ?_
  refine lv_iload_n F.1 F.2.1 dX8_hearsIn_4 rfl (lv_at hl 1 rfl) ?_
  refine r_iald F hw (n := 390) rfl dX8_hearsIn_5 hf (fun hi1 hf => ?_)
  refine lv_iload_n F.1 F.2.1 dX8_hearsIn_6 rfl (lv_at hl 2 rfl) ?_
  refine k_ishr F dX8_hearsIn_7 ?_
  refine k_iconst_1 F dX8_hearsIn_8 ?_
  refine lv_iand F.1 F.2.1 dX8_hearsIn_9 ?_
  refine k_iconst_1 F dX8_hearsIn_10 ?_
  refine jn_go1 (fun (t2 : Int32) => ∀ (H3 : Heap) (o4 : List Loc) (ls5 : Array Slot), lv_has ls5 6 [(0, .ref (ad 0)), (1, .int v1), (2, .int v2), (3, .int v3)] → Wd shM D cA ad s.heap M H3 o4 → W p l e (rz 0 0) s m ([.ref (ad 0), .int v1, .int v2, .int v3] : List Value).toArray below meth c H3 o4 0 0 (MQ below (Qzv shM D cA ad M') ([.ref (ad 0), .int v1, .int v2, .int v3] : List Value).toArray s 0 0 (Az shM ad)) (F0 m 19 ls5 [.int t2])) hf (fun t2 hf H3 o4 ls5 hl hw => ?_) (fun j6 Jj6 hf => ?_)
  · refine lv_istore F.1 F.2.1 dX8_hearsIn_19 hl (lv' := [(4, .int t2), (0, .ref (ad 0)), (1, .int v1), (2, .int v2), (3, .int v3)]) (Nat.le_of_ble_eq_true rfl) rfl (fun ls7 hl => ?_)
    refine k_iconst_4 F dX8_hearsIn_21 ?_
    refine lv_iload_n F.1 F.2.1 dX8_hearsIn_22 rfl (lv_at hl 2 rfl) ?_
    refine lv_imul F.1 F.2.1 dX8_hearsIn_23 ?_
    refine lv_iload_n F.1 F.2.1 dX8_hearsIn_24 rfl (lv_at hl 3 rfl) ?_
    refine lv_iadd F.1 F.2.1 dX8_hearsIn_25 ?_
    refine lv_istore F.1 F.2.1 dX8_hearsIn_26 hl (lv' := [(5, .int (((4 : Int32) * v1) + v2)), (4, .int t2), (0, .ref (ad 0)), (1, .int v1), (2, .int v2), (3, .int v3)]) (Nat.le_of_ble_eq_true rfl) rfl (fun ls8 hl => ?_)
    refine lv_aload_n F.1 F.2.1 dX8_hearsIn_28 rfl (lv_at hl 2 rfl) ?_
    refine gX8_101 F hw rfl dX8_hearsIn_29 ?_
    refine lv_iload F.1 F.2.1 dX8_hearsIn_32 (lv_at hl 0 rfl) ?_
    refine lv_iload F.1 F.2.1 dX8_hearsIn_34 (lv_at hl 1 rfl) ?_
    refine jn_go1 (fun (t9 : Int32) => ∀ (H10 : Heap) (o11 : List Loc) (ls12 : Array Slot), lv_has ls12 6 [(0, .ref (ad 0)), (1, .int v1), (2, .int v2)] → Wd shM D cA ad s.heap M H10 o11 → W p l e (rz 0 0) s m ([.ref (ad 0), .int v1, .int v2, .int v3] : List Value).toArray below meth c H10 o11 0 0 (MQ below (Qzv shM D cA ad M') ([.ref (ad 0), .int v1, .int v2, .int v3] : List Value).toArray s 0 0 (Az shM ad)) (F0 m 61 ls12 [.int t9, .int (((4 : Int32) * v1) + v2), .ref (ad 28)])) hf (fun t9 hf H10 o11 ls12 hl hw => ?_) (fun j13 Jj13 hf => ?_)
    · refine r_iast F hw (n := 1560) rfl dX8_hearsIn_61 hf (fun hi14 M15 H16 o17 hw hf => ?_)
      refine lv_aload_n F.1 F.2.1 dX8_hearsIn_62 rfl (lv_at hl 0 rfl) ?_
      refine gX8_98 F hw rfl dX8_hearsIn_63 ?_
      refine lv_iload_n F.1 F.2.1 dX8_hearsIn_66 rfl (lv_at hl 1 rfl) ?_
      refine lv_dup2_11 F.1 F.2.1 dX8_hearsIn_67 rfl rfl ?_
      refine r_iald0 F hw (n := 390) rfl dX8_hearsIn_68 hi1 ?_
      refine k_iconst_1 F dX8_hearsIn_69 ?_
      refine lv_iload_n F.1 F.2.1 dX8_hearsIn_70 rfl (lv_at hl 2 rfl) ?_
      refine k_ishl F dX8_hearsIn_71 ?_
      refine lv_ior F.1 F.2.1 dX8_hearsIn_72 ?_
      refine r_iast0 F hw (n := 390) rfl dX8_hearsIn_73 hi1 hf (fun M18 H19 o20 hw hf => ?_)
      exact r_vret_w F hw dX8_hearsIn_74 hf
    · refine b_if_eq F dX8_hearsIn_36 (tgt := 60) (by decide) hf (fun hc23 hf => ?_) (fun hc23 hf => ?_)
      · refine lv_iload_n F.1 F.2.1 dX8_hearsIn_60 rfl (lv_at hl 5 rfl) ?_
        exact Jj13 v3 hf _ _ _ (lv_sub hl [2, 3, 4] rfl) hw
      · refine lv_aload_n F.1 F.2.1 dX8_hearsIn_39 rfl (lv_at hl 2 rfl) ?_
        refine gX8_101 F hw rfl dX8_hearsIn_40 ?_
        refine lv_iload F.1 F.2.1 dX8_hearsIn_43 (lv_at hl 0 rfl) ?_
        refine r_iald F hw (n := 1560) rfl dX8_hearsIn_45 hf (fun hi21 hf => ?_)
        refine lv_iload_n F.1 F.2.1 dX8_hearsIn_46 rfl (lv_at hl 5 rfl) ?_
        refine b_icmp_le F dX8_hearsIn_47 (tgt := 60) (by decide) hf (fun hc22 hf => ?_) (fun hc22 hf => ?_)
        · refine lv_iload_n F.1 F.2.1 dX8_hearsIn_60 rfl (lv_at hl 5 rfl) ?_
          exact Jj13 v3 hf _ _ _ (lv_sub hl [2, 3, 4] rfl) hw
        · refine lv_aload_n F.1 F.2.1 dX8_hearsIn_50 rfl (lv_at hl 2 rfl) ?_
          refine gX8_101 F hw rfl dX8_hearsIn_51 ?_
          refine lv_iload F.1 F.2.1 dX8_hearsIn_54 (lv_at hl 0 rfl) ?_
          refine r_iald0 F hw (n := 1560) rfl dX8_hearsIn_56 hi21 ?_
          refine lv_goto F.1 F.2.1 dX8_hearsIn_57 (tgt := 61) (by decide) ?_
          exact Jj13 (M 28 (((4 : Int32) * v1) + v2).toNatClampNeg) hf _ _ _ (lv_sub hl [2, 3, 4] rfl) hw
  · refine b_icmp_ne F dX8_hearsIn_11 (tgt := 18) (by decide) hf (fun hc24 hf => ?_) (fun hc24 hf => ?_)
    · refine k_iconst_1 F dX8_hearsIn_14 ?_
      refine lv_goto F.1 F.2.1 dX8_hearsIn_15 (tgt := 19) (by decide) ?_
      exact Jj6 (1 : Int32) hf _ _ _ hl hw
    · refine k_iconst_0 F dX8_hearsIn_18 ?_
      exact Jj6 (0 : Int32) hf _ _ _ hl hw
theorem clX8_186 (F : Fx D cA RX8 cc nL ret p s m args meth c) (hw : Wd shM D cA ad H0 M H locs) (hl : lv_has ls nL lv) {v1 : Int32} {v2 : Int32} {v3 : Int32} (hR : 1 ≤ R.frames ∧ 25 ≤ R.locals) (hrm : (rest.map fun v => v.category).sum ≤ 8) (hd : decode cc pc = .ok (.invokevirtual 186, 3)) {α : Type} {K : Mem → Option α} {res : α} (hf : bnd1 (fX8_hearsIn v1 v2 v3 M) K = some res) (kk : ∀ (M1 : Mem) (H1 : Heap) (locs1 : List Loc), Wd shM D cA ad H0 M1 H1 locs1 → K M1 = some res → W p l e R s m args below meth c H1 locs1 0 0 Q (F0 m (pc + 3) ls rest)) : W p l e R s m args below meth c H locs 0 0 Q (F0 m pc ls (.int v3 :: .int v2 :: .int v1 :: .ref (ad 0) :: rest)) := by
  obtain ⟨M1, h1, h2⟩ := bnd1_some hf
  exact r_aftv hw (r_runV (As := [.int v1, .int v2, .int v3]) F hw hl (cX8_hearsIn_ok l D cA ad M v1 v2 v3 M1 h1) cz8 (show shM[0]? = some (.inr (8, sf8)) from rfl) cwX8_186 hR hrm hd) (fun H1 o1 hw1 => kk M1 H1 o1 hw1 h2)
def fX8_comes (v1 : Int32) (M : Mem) : Option Mem :=
  ix v1 60 <|
  bnd1 (fX8_windowOf (M 19 v1.toNatClampNeg) (M 21 v1.toNatClampNeg) M) fun t6 =>
  if t6 = (-1 : Int32) then
    jn (
      ix (M 0 28) 390 <| wr M 24 (M 0 28).toNatClampNeg (M 19 v1.toNatClampNeg) fun M13 =>
      ix (M13 0 28) 390 <| wr M13 25 (M13 0 28).toNatClampNeg (M13 21 v1.toNatClampNeg) fun M17 =>
      ix (M17 0 28) 390 <| wr M17 26 (M17 0 28).toNatClampNeg (M17 0 4) fun M21 =>
      ix (M21 0 28) 390 <| wr M21 27 (M21 0 28).toNatClampNeg (0 : Int32) fun M25 =>
      bnd1 (fX8_hearsIn (M25 0 28) (M25 20 v1.toNatClampNeg) (M25 22 v1.toNatClampNeg) M25) fun M31 =>
      wr M31 0 28 ((M31 0 28) + (1 : Int32)) fun M32 =>
      some M32) fun j11 =>
    if (M 21 v1.toNatClampNeg) = (-1 : Int32) then
      j11
    else
      bnd1 (fX8_isOn (M 19 v1.toNatClampNeg) (M 21 v1.toNatClampNeg) M) fun t38 =>
      if t38 = 0 then
        wr M 29 (2 : Int32).toNatClampNeg ((M 29 (2 : Int32).toNatClampNeg) + (1 : Int32)) fun M39 =>
        some M39
      else
        j11
  else
    wr M 29 (5 : Int32).toNatClampNeg ((M 29 (5 : Int32).toNatClampNeg) + (1 : Int32)) fun M44 =>
    bnd1 (fX8_hearsIn t6 (M44 20 v1.toNatClampNeg) (M44 22 v1.toNatClampNeg) M44) fun M50 =>
    some M50
set_option maxHeartbeats 4000000 in
set_option maxRecDepth 100000 in
theorem cX8_comes_ok (l : Launch) (D : va_G) (cA : Nat → ClassId) (ad : Nat → Nat) (M : Mem) (v1 : Int32) (M' : Mem) (hf : fX8_comes v1 M = some M') : Ctg l yX8_comes cX8_comes 4 none 2 44 shM D cA ad [.ref (ad 0), .int v1] M (Qzv shM D cA ad M') := by
  refine ct_in (by decide) (Nat.le_of_ble_eq_true rfl) ?_
  intro p e s m below meth c ls F hl hw
  have hl : lv_has ls 4 [(0, .ref (ad 0)), (1, .int v1)] := hl
  unfold fX8_comes at hf
  refine lv_aload_n F.1 F.2.1 dX8_comes_0 rfl (lv_at hl 0 rfl) ?_
  refine gX8_74 F hw rfl dX8_comes_1 ?_
  refine lv_iload_n F.1 F.2.1 dX8_comes_4 rfl (lv_at hl 1 rfl) ?_
  refine r_iald F hw (n := 60) rfl dX8_comes_5 hf (fun hi1 hf => ?_)
  refine lv_istore_n F.1 F.2.1 dX8_comes_6 rfl hl (lv' := [(2, .int (M 19 v1.toNatClampNeg)), (0, .ref (ad 0)), (1, .int v1)]) (Nat.le_of_ble_eq_true rfl) rfl (fun ls2 hl => ?_)
  refine lv_aload_n F.1 F.2.1 dX8_comes_7 rfl (lv_at hl 1 rfl) ?_
  refine lv_iload_n F.1 F.2.1 dX8_comes_8 rfl (lv_at hl 0 rfl) ?_
  refine lv_aload_n F.1 F.2.1 dX8_comes_9 rfl (lv_at hl 1 rfl) ?_
  refine gX8_80 F hw rfl dX8_comes_10 ?_
  refine lv_iload_n F.1 F.2.1 dX8_comes_13 rfl (lv_at hl 2 rfl) ?_
  refine r_iald0 F hw (n := 60) rfl dX8_comes_14 hi1 ?_
  refine clX8_183 F hw hl ⟨Nat.le_of_ble_eq_true rfl, Nat.le_of_ble_eq_true rfl⟩ (Nat.le_of_ble_eq_true rfl) dX8_comes_15 hf (fun t6 H3 o4 hw hn5 hf => ?_)
  refine lv_istore_n F.1 F.2.1 dX8_comes_18 rfl hl (lv' := [(3, .int t6), (2, .int (M 19 v1.toNatClampNeg)), (0, .ref (ad 0)), (1, .int v1)]) (Nat.le_of_ble_eq_true rfl) rfl (fun ls7 hl => ?_)
  refine lv_iload_n F.1 F.2.1 dX8_comes_19 rfl (lv_at hl 0 rfl) ?_
  refine k_iconst_m1 F dX8_comes_20 ?_
  refine b_icmp_eq F dX8_comes_21 (tgt := 54) (by decide) hf (fun hc51 hf => ?_) (fun hc51 hf => ?_)
  · refine lv_aload_n F.1 F.2.1 dX8_comes_54 rfl (lv_at hl 2 rfl) ?_
    refine gX8_80 F hw rfl dX8_comes_55 ?_
    refine lv_iload_n F.1 F.2.1 dX8_comes_58 rfl (lv_at hl 3 rfl) ?_
    refine r_iald0 F hw (n := 60) rfl dX8_comes_59 hi1 ?_
    refine k_iconst_m1 F dX8_comes_60 ?_
    refine jn_go0 (∀ (H8 : Heap) (o9 : List Loc) (ls10 : Array Slot), lv_has ls10 4 [(2, .int (M 19 v1.toNatClampNeg)), (0, .ref (ad 0)), (1, .int v1)] → Wd shM D cA ad s.heap M H8 o9 → W p l e (rz 2 44) s m ([.ref (ad 0), .int v1] : List Value).toArray below meth c H8 o9 0 0 (MQ below (Qzv shM D cA ad M') ([.ref (ad 0), .int v1] : List Value).toArray s 0 0 (Az shM ad)) (F0 m 78 ls10 [])) hf (fun hf H8 o9 ls10 hl hw => ?_) (fun j11 Jj11 hf => ?_)
    · refine lv_aload_n F.1 F.2.1 dX8_comes_78 rfl (lv_at hl 1 rfl) ?_
      refine gX8_89 F hw rfl dX8_comes_79 ?_
      refine lv_aload_n F.1 F.2.1 dX8_comes_82 rfl (lv_at hl 1 rfl) ?_
      refine gX8_120 F hw rfl dX8_comes_83 ?_
      refine lv_iload_n F.1 F.2.1 dX8_comes_86 rfl (lv_at hl 0 rfl) ?_
      refine r_iast F hw (n := 390) rfl dX8_comes_87 hf (fun hi12 M13 H14 o15 hw hf => ?_)
      refine lv_aload_n F.1 F.2.1 dX8_comes_88 rfl (lv_at hl 1 rfl) ?_
      refine gX8_92 F hw rfl dX8_comes_89 ?_
      refine lv_aload_n F.1 F.2.1 dX8_comes_92 rfl (lv_at hl 1 rfl) ?_
      refine gX8_120 F hw rfl dX8_comes_93 ?_
      refine lv_aload_n F.1 F.2.1 dX8_comes_96 rfl (lv_at hl 1 rfl) ?_
      refine gX8_80 F hw rfl dX8_comes_97 ?_
      refine lv_iload_n F.1 F.2.1 dX8_comes_100 rfl (lv_at hl 2 rfl) ?_
      refine r_iald0 F hw (n := 60) rfl dX8_comes_101 hi1 ?_
      refine r_iast F hw (n := 390) rfl dX8_comes_102 hf (fun hi16 M17 H18 o19 hw hf => ?_)
      refine lv_aload_n F.1 F.2.1 dX8_comes_103 rfl (lv_at hl 1 rfl) ?_
      refine gX8_95 F hw rfl dX8_comes_104 ?_
      refine lv_aload_n F.1 F.2.1 dX8_comes_107 rfl (lv_at hl 1 rfl) ?_
      refine gX8_120 F hw rfl dX8_comes_108 ?_
      refine lv_aload_n F.1 F.2.1 dX8_comes_111 rfl (lv_at hl 1 rfl) ?_
      refine gX8_114 F hw rfl dX8_comes_112 ?_
      refine r_iast F hw (n := 390) rfl dX8_comes_115 hf (fun hi20 M21 H22 o23 hw hf => ?_)
      refine lv_aload_n F.1 F.2.1 dX8_comes_116 rfl (lv_at hl 1 rfl) ?_
      refine gX8_98 F hw rfl dX8_comes_117 ?_
      refine lv_aload_n F.1 F.2.1 dX8_comes_120 rfl (lv_at hl 1 rfl) ?_
      refine gX8_120 F hw rfl dX8_comes_121 ?_
      refine k_iconst_0 F dX8_comes_124 ?_
      refine r_iast F hw (n := 390) rfl dX8_comes_125 hf (fun hi24 M25 H26 o27 hw hf => ?_)
      refine lv_aload_n F.1 F.2.1 dX8_comes_126 rfl (lv_at hl 1 rfl) ?_
      refine lv_aload_n F.1 F.2.1 dX8_comes_127 rfl (lv_at hl 1 rfl) ?_
      refine gX8_120 F hw rfl dX8_comes_128 ?_
      refine lv_aload_n F.1 F.2.1 dX8_comes_131 rfl (lv_at hl 1 rfl) ?_
      refine gX8_77 F hw rfl dX8_comes_132 ?_
      refine lv_iload_n F.1 F.2.1 dX8_comes_135 rfl (lv_at hl 2 rfl) ?_
      refine r_iald0 F hw (n := 60) rfl dX8_comes_136 hi1 ?_
      refine lv_aload_n F.1 F.2.1 dX8_comes_137 rfl (lv_at hl 1 rfl) ?_
      refine gX8_83 F hw rfl dX8_comes_138 ?_
      refine lv_iload_n F.1 F.2.1 dX8_comes_141 rfl (lv_at hl 2 rfl) ?_
      refine r_iald0 F hw (n := 60) rfl dX8_comes_142 hi1 ?_
      refine clX8_186 F hw hl ⟨Nat.le_of_ble_eq_true rfl, Nat.le_of_ble_eq_true rfl⟩ (Nat.le_of_ble_eq_true rfl) dX8_comes_143 hf (fun M31 H28 o29 hw hf => ?_)
      refine lv_aload_n F.1 F.2.1 dX8_comes_146 rfl (lv_at hl 1 rfl) ?_
      refine lv_dup F.1 F.2.1 dX8_comes_147 rfl ?_
      refine gX8_120 F hw rfl dX8_comes_148 ?_
      refine k_iconst_1 F dX8_comes_151 ?_
      refine lv_iadd F.1 F.2.1 dX8_comes_152 ?_
      refine qX8_120 F hw rfl dX8_comes_153 hf (fun M32 H33 o34 hw hf => ?_)
      refine lv_goto F.1 F.2.1 dX8_comes_156 (tgt := 169) (by decide) ?_
      exact r_vret_w F hw dX8_comes_169 hf
    · refine b_icmp_eq F dX8_comes_61 (tgt := 78) (by decide) hf (fun hc43 hf => ?_) (fun hc43 hf => ?_)
      · exact Jj11 hf _ _ _ (lv_sub hl [1, 2, 3] rfl) hw
      · refine lv_aload_n F.1 F.2.1 dX8_comes_64 rfl (lv_at hl 2 rfl) ?_
        refine lv_iload_n F.1 F.2.1 dX8_comes_65 rfl (lv_at hl 1 rfl) ?_
        refine lv_aload_n F.1 F.2.1 dX8_comes_66 rfl (lv_at hl 2 rfl) ?_
        refine gX8_80 F hw rfl dX8_comes_67 ?_
        refine lv_iload_n F.1 F.2.1 dX8_comes_70 rfl (lv_at hl 3 rfl) ?_
        refine r_iald0 F hw (n := 60) rfl dX8_comes_71 hi1 ?_
        refine clX8_190 F hw hl ⟨Nat.le_of_ble_eq_true rfl, Nat.le_of_ble_eq_true rfl⟩ (Nat.le_of_ble_eq_true rfl) dX8_comes_72 hf (fun t38 H35 o36 hw hn37 hf => ?_)
        refine b_if_eq F dX8_comes_75 (tgt := 159) (by decide) hf (fun hc42 hf => ?_) (fun hc42 hf => ?_)
        · refine lv_aload_n F.1 F.2.1 dX8_comes_159 rfl (lv_at hl 2 rfl) ?_
          refine gX8_104 F hw rfl dX8_comes_160 ?_
          refine k_iconst_2 F dX8_comes_163 ?_
          refine lv_dup2_11 F.1 F.2.1 dX8_comes_164 rfl rfl ?_
          refine r_iald0 F hw (n := 6) rfl dX8_comes_165 (by unfold vp_in; decide) ?_
          refine k_iconst_1 F dX8_comes_166 ?_
          refine lv_iadd F.1 F.2.1 dX8_comes_167 ?_
          refine r_iast0 F hw (n := 6) rfl dX8_comes_168 (by unfold vp_in; decide) hf (fun M39 H40 o41 hw hf => ?_)
          exact r_vret_w F hw dX8_comes_169 hf
        · exact Jj11 hf _ _ _ (lv_sub hl [1, 2, 3] rfl) hw
  · refine lv_aload_n F.1 F.2.1 dX8_comes_24 rfl (lv_at hl 2 rfl) ?_
    refine gX8_104 F hw rfl dX8_comes_25 ?_
    refine k_iconst_5 F dX8_comes_28 ?_
    refine lv_dup2_11 F.1 F.2.1 dX8_comes_29 rfl rfl ?_
    refine r_iald0 F hw (n := 6) rfl dX8_comes_30 (by unfold vp_in; decide) ?_
    refine k_iconst_1 F dX8_comes_31 ?_
    refine lv_iadd F.1 F.2.1 dX8_comes_32 ?_
    refine r_iast0 F hw (n := 6) rfl dX8_comes_33 (by unfold vp_in; decide) hf (fun M44 H45 o46 hw hf => ?_)
    refine lv_aload_n F.1 F.2.1 dX8_comes_34 rfl (lv_at hl 2 rfl) ?_
    refine lv_iload_n F.1 F.2.1 dX8_comes_35 rfl (lv_at hl 0 rfl) ?_
    refine lv_aload_n F.1 F.2.1 dX8_comes_36 rfl (lv_at hl 2 rfl) ?_
    refine gX8_77 F hw rfl dX8_comes_37 ?_
    refine lv_iload_n F.1 F.2.1 dX8_comes_40 rfl (lv_at hl 3 rfl) ?_
    refine r_iald0 F hw (n := 60) rfl dX8_comes_41 hi1 ?_
    refine lv_aload_n F.1 F.2.1 dX8_comes_42 rfl (lv_at hl 2 rfl) ?_
    refine gX8_83 F hw rfl dX8_comes_43 ?_
    refine lv_iload_n F.1 F.2.1 dX8_comes_46 rfl (lv_at hl 3 rfl) ?_
    refine r_iald0 F hw (n := 60) rfl dX8_comes_47 hi1 ?_
    refine clX8_186 F hw hl ⟨Nat.le_of_ble_eq_true rfl, Nat.le_of_ble_eq_true rfl⟩ (Nat.le_of_ble_eq_true rfl) dX8_comes_48 hf (fun M50 H47 o48 hw hf => ?_)
    refine lv_goto F.1 F.2.1 dX8_comes_51 (tgt := 169) (by decide) ?_
    exact r_vret_w F hw dX8_comes_169 hf
theorem clX8_194 (F : Fx D cA RX8 cc nL ret p s m args meth c) (hw : Wd shM D cA ad H0 M H locs) (hl : lv_has ls nL lv) {v1 : Int32} (hR : 3 ≤ R.frames ∧ 67 ≤ R.locals) (hrm : (rest.map fun v => v.category).sum ≤ 8) (hd : decode cc pc = .ok (.invokevirtual 194, 3)) {α : Type} {K : Mem → Option α} {res : α} (hf : bnd1 (fX8_comes v1 M) K = some res) (kk : ∀ (M1 : Mem) (H1 : Heap) (locs1 : List Loc), Wd shM D cA ad H0 M1 H1 locs1 → K M1 = some res → W p l e R s m args below meth c H1 locs1 0 0 Q (F0 m (pc + 3) ls rest)) : W p l e R s m args below meth c H locs 0 0 Q (F0 m pc ls (.int v1 :: .ref (ad 0) :: rest)) := by
  obtain ⟨M1, h1, h2⟩ := bnd1_some hf
  exact r_aftv hw (r_runV (As := [.int v1]) F hw hl (cX8_comes_ok l D cA ad M v1 M1 h1) cz8 (show shM[0]? = some (.inr (8, sf8)) from rfl) cwX8_194 hR hrm hd) (fun H1 o1 hw1 => kk M1 H1 o1 hw1 h2)
def fX8_allCome_L4 : Nat → Int32 → Int32 → Mem → Option (Int32 × Mem)
  | 0, _, _, _ => none
  | n + 1, v1, v2, M =>
    if (M 0 22) ≤ v2 then
      some (v1, M)
    else
      ix v2 60 <|
      if (M 23 v2.toNatClampNeg) = (M 0 4) then
        bnd1 (fX8_comes v2 M) fun M25 =>
        fX8_allCome_L4 n v1 (v2 + (1 : Int32)) M25
      else
        ix v1 60 <| wr M 19 v1.toNatClampNeg (M 19 v2.toNatClampNeg) fun M5 =>
        wr M5 20 v1.toNatClampNeg (M5 20 v2.toNatClampNeg) fun M8 =>
        wr M8 21 v1.toNatClampNeg (M8 21 v2.toNatClampNeg) fun M11 =>
        wr M11 22 v1.toNatClampNeg (M11 22 v2.toNatClampNeg) fun M14 =>
        wr M14 23 v1.toNatClampNeg (M14 23 v2.toNatClampNeg) fun M17 =>
        fX8_allCome_L4 n (v1 + (1 : Int32)) (v2 + (1 : Int32)) M17
def fX8_allCome (M : Mem) : Option Mem :=
  bnd2 (fX8_allCome_L4 FUEL (0 : Int32) (0 : Int32) M) fun w29 M30 =>
  wr M30 0 22 w29 fun M34 =>
  some M34
set_option maxHeartbeats 4000000 in
set_option maxRecDepth 100000 in
theorem wX8_allCome_L4 {p : Program} {l : Launch} {e : Env} {s : State} {m : MethodId} {args : Array Value} {below : List Frame} {meth : Method} {c : Code} {D : va_G} {cA : Nat → ClassId} {ad : Nat → Nat} {Q : State → Prop} (F : Fx D cA RX8 cX8_allCome 3 none p s m args meth c) : ∀ (n : Nat) (v1 : Int32) (v2 : Int32) (M : Mem) (H : Heap) (o : List Loc) (ls : Array Slot), lv_has ls 3 [(0, .ref (ad 0)), (1, .int v1), (2, .int v2)] → Wd shM D cA ad s.heap M H o → ∀ (u1 : Int32) (M' : Mem), fX8_allCome_L4 n v1 v2 M = some (u1, M') → (∀ (H1 : Heap) (o1 : List Loc) (ls1 : Array Slot), lv_has ls1 3 [(1, .int u1), (0, .ref (ad 0))] → Wd shM D cA ad s.heap M' H1 o1 → W p l e (rz 3 67) s m args below meth c H1 o1 0 0 Q (F0 m 102 ls1 [])) → W p l e (rz 3 67) s m args below meth c H o 0 0 Q (F0 m 4 ls []) := by
  intro n
  induction n with
  | zero =>
    intro v1 v2 M H o ls hl hw u1 M' hf kk
    cases hf
  | succ n ih =>
    intro v1 v2 M H o ls hl hw u1 M' hf kk
    rw [fX8_allCome_L4] at hf
    refine lv_iload_n F.1 F.2.1 dX8_allCome_4 rfl (lv_at hl 2 rfl) ?_
    refine lv_aload_n F.1 F.2.1 dX8_allCome_5 rfl (lv_at hl 0 rfl) ?_
    refine gX8_117 F hw rfl dX8_allCome_6 ?_
    refine b_icmp_ge F dX8_allCome_9 (tgt := 102) (by decide) hf (fun hc28 hf => ?_) (fun hc28 hf => ?_)
    · cases hf
      exact kk _ _ _ (lv_sub hl [1, 0] rfl) hw
    · refine lv_aload_n F.1 F.2.1 dX8_allCome_12 rfl (lv_at hl 0 rfl) ?_
      refine gX8_86 F hw rfl dX8_allCome_13 ?_
      refine lv_iload_n F.1 F.2.1 dX8_allCome_16 rfl (lv_at hl 2 rfl) ?_
      refine r_iald F hw (n := 60) rfl dX8_allCome_17 hf (fun hi3 hf => ?_)
      refine lv_aload_n F.1 F.2.1 dX8_allCome_18 rfl (lv_at hl 0 rfl) ?_
      refine gX8_114 F hw rfl dX8_allCome_19 ?_
      refine b_icmp_ne F dX8_allCome_22 (tgt := 33) (by decide) hf (fun hc27 hf => ?_) (fun hc27 hf => ?_)
      · refine lv_aload_n F.1 F.2.1 dX8_allCome_25 rfl (lv_at hl 0 rfl) ?_
        refine lv_iload_n F.1 F.2.1 dX8_allCome_26 rfl (lv_at hl 2 rfl) ?_
        refine clX8_194 F hw hl ⟨Nat.le_of_ble_eq_true rfl, Nat.le_of_ble_eq_true rfl⟩ (Nat.le_of_ble_eq_true rfl) dX8_allCome_27 hf (fun M25 H22 o23 hw hf => ?_)
        refine lv_goto F.1 F.2.1 dX8_allCome_30 (tgt := 96) (by decide) ?_
        refine lv_iinc F.1 F.2.1 dX8_allCome_96 hl (k := 2) rfl (ki_1 _) (lv' := [(2, .int (v2 + (1 : Int32))), (0, .ref (ad 0)), (1, .int v1)]) (Nat.le_of_ble_eq_true rfl) rfl (fun ls26 hl => ?_)
        refine lv_goto F.1 F.2.1 dX8_allCome_99 (tgt := 4) (by decide) ?_
        exact ih v1 (v2 + (1 : Int32)) M25 _ _ _ (lv_sub hl [1, 2, 0] rfl) hw u1 M' hf kk
      · refine lv_aload_n F.1 F.2.1 dX8_allCome_33 rfl (lv_at hl 0 rfl) ?_
        refine gX8_74 F hw rfl dX8_allCome_34 ?_
        refine lv_iload_n F.1 F.2.1 dX8_allCome_37 rfl (lv_at hl 1 rfl) ?_
        refine lv_aload_n F.1 F.2.1 dX8_allCome_38 rfl (lv_at hl 0 rfl) ?_
        refine gX8_74 F hw rfl dX8_allCome_39 ?_
        refine lv_iload_n F.1 F.2.1 dX8_allCome_42 rfl (lv_at hl 2 rfl) ?_
        refine r_iald0 F hw (n := 60) rfl dX8_allCome_43 hi3 ?_
        refine r_iast F hw (n := 60) rfl dX8_allCome_44 hf (fun hi4 M5 H6 o7 hw hf => ?_)
        refine lv_aload_n F.1 F.2.1 dX8_allCome_45 rfl (lv_at hl 0 rfl) ?_
        refine gX8_77 F hw rfl dX8_allCome_46 ?_
        refine lv_iload_n F.1 F.2.1 dX8_allCome_49 rfl (lv_at hl 1 rfl) ?_
        refine lv_aload_n F.1 F.2.1 dX8_allCome_50 rfl (lv_at hl 0 rfl) ?_
        refine gX8_77 F hw rfl dX8_allCome_51 ?_
        refine lv_iload_n F.1 F.2.1 dX8_allCome_54 rfl (lv_at hl 2 rfl) ?_
        refine r_iald0 F hw (n := 60) rfl dX8_allCome_55 hi3 ?_
        refine r_iast0 F hw (n := 60) rfl dX8_allCome_56 hi4 hf (fun M8 H9 o10 hw hf => ?_)
        refine lv_aload_n F.1 F.2.1 dX8_allCome_57 rfl (lv_at hl 0 rfl) ?_
        refine gX8_80 F hw rfl dX8_allCome_58 ?_
        refine lv_iload_n F.1 F.2.1 dX8_allCome_61 rfl (lv_at hl 1 rfl) ?_
        refine lv_aload_n F.1 F.2.1 dX8_allCome_62 rfl (lv_at hl 0 rfl) ?_
        refine gX8_80 F hw rfl dX8_allCome_63 ?_
        refine lv_iload_n F.1 F.2.1 dX8_allCome_66 rfl (lv_at hl 2 rfl) ?_
        refine r_iald0 F hw (n := 60) rfl dX8_allCome_67 hi3 ?_
        refine r_iast0 F hw (n := 60) rfl dX8_allCome_68 hi4 hf (fun M11 H12 o13 hw hf => ?_)
        refine lv_aload_n F.1 F.2.1 dX8_allCome_69 rfl (lv_at hl 0 rfl) ?_
        refine gX8_83 F hw rfl dX8_allCome_70 ?_
        refine lv_iload_n F.1 F.2.1 dX8_allCome_73 rfl (lv_at hl 1 rfl) ?_
        refine lv_aload_n F.1 F.2.1 dX8_allCome_74 rfl (lv_at hl 0 rfl) ?_
        refine gX8_83 F hw rfl dX8_allCome_75 ?_
        refine lv_iload_n F.1 F.2.1 dX8_allCome_78 rfl (lv_at hl 2 rfl) ?_
        refine r_iald0 F hw (n := 60) rfl dX8_allCome_79 hi3 ?_
        refine r_iast0 F hw (n := 60) rfl dX8_allCome_80 hi4 hf (fun M14 H15 o16 hw hf => ?_)
        refine lv_aload_n F.1 F.2.1 dX8_allCome_81 rfl (lv_at hl 0 rfl) ?_
        refine gX8_86 F hw rfl dX8_allCome_82 ?_
        refine lv_iload_n F.1 F.2.1 dX8_allCome_85 rfl (lv_at hl 1 rfl) ?_
        refine lv_aload_n F.1 F.2.1 dX8_allCome_86 rfl (lv_at hl 0 rfl) ?_
        refine gX8_86 F hw rfl dX8_allCome_87 ?_
        refine lv_iload_n F.1 F.2.1 dX8_allCome_90 rfl (lv_at hl 2 rfl) ?_
        refine r_iald0 F hw (n := 60) rfl dX8_allCome_91 hi3 ?_
        refine r_iast0 F hw (n := 60) rfl dX8_allCome_92 hi4 hf (fun M17 H18 o19 hw hf => ?_)
        refine lv_iinc F.1 F.2.1 dX8_allCome_93 hl (k := 1) rfl (ki_1 _) (lv' := [(1, .int (v1 + (1 : Int32))), (0, .ref (ad 0)), (2, .int v2)]) (Nat.le_of_ble_eq_true rfl) rfl (fun ls20 hl => ?_)
        refine lv_iinc F.1 F.2.1 dX8_allCome_96 hl (k := 2) rfl (ki_1 _) (lv' := [(2, .int (v2 + (1 : Int32))), (1, .int (v1 + (1 : Int32))), (0, .ref (ad 0))]) (Nat.le_of_ble_eq_true rfl) rfl (fun ls21 hl => ?_)
        refine lv_goto F.1 F.2.1 dX8_allCome_99 (tgt := 4) (by decide) ?_
        exact ih (v1 + (1 : Int32)) (v2 + (1 : Int32)) M17 _ _ _ (lv_sub hl [2, 1, 0] rfl) hw u1 M' hf kk
set_option maxHeartbeats 4000000 in
set_option maxRecDepth 100000 in
theorem cX8_allCome_ok (l : Launch) (D : va_G) (cA : Nat → ClassId) (ad : Nat → Nat) (M : Mem)  (M' : Mem) (hf : fX8_allCome M = some M') : Ctg l yX8_allCome cX8_allCome 3 none 3 67 shM D cA ad [.ref (ad 0)] M (Qzv shM D cA ad M') := by
  refine ct_in (by decide) (Nat.le_of_ble_eq_true rfl) ?_
  intro p e s m below meth c ls F hl hw
  have hl : lv_has ls 3 [(0, .ref (ad 0))] := hl
  unfold fX8_allCome at hf
  refine k_iconst_0 F dX8_allCome_0 ?_
  refine lv_istore_n F.1 F.2.1 dX8_allCome_1 rfl hl (lv' := [(1, .int (0 : Int32)), (0, .ref (ad 0))]) (Nat.le_of_ble_eq_true rfl) rfl (fun ls1 hl => ?_)
  refine k_iconst_0 F dX8_allCome_2 ?_
  refine lv_istore_n F.1 F.2.1 dX8_allCome_3 rfl hl (lv' := [(2, .int (0 : Int32)), (1, .int (0 : Int32)), (0, .ref (ad 0))]) (Nat.le_of_ble_eq_true rfl) rfl (fun ls2 hl => ?_)
  obtain ⟨w29, M30, hq37, hf⟩ := bnd2_some hf
  refine wX8_allCome_L4 F FUEL (0 : Int32) (0 : Int32) M _ _ _ (lv_sub hl [2, 1, 0] rfl) hw w29 M30 hq37 (fun H31 o32 ls33 hl hw => ?_)
  refine lv_aload_n F.1 F.2.1 dX8_allCome_102 rfl (lv_at hl 1 rfl) ?_
  refine lv_iload_n F.1 F.2.1 dX8_allCome_103 rfl (lv_at hl 0 rfl) ?_
  refine qX8_117 F hw rfl dX8_allCome_104 hf (fun M34 H35 o36 hw hf => ?_)
  exact r_vret_w F hw dX8_allCome_107 hf
theorem clX8_219 (F : Fx D cA RX8 cc nL ret p s m args meth c) (hw : Wd shM D cA ad H0 M H locs) (hl : lv_has ls nL lv) (hR : 4 ≤ R.frames ∧ 89 ≤ R.locals) (hrm : (rest.map fun v => v.category).sum ≤ 8) (hd : decode cc pc = .ok (.invokevirtual 219, 3)) {α : Type} {K : Mem → Option α} {res : α} (hf : bnd1 (fX8_allCome M) K = some res) (kk : ∀ (M1 : Mem) (H1 : Heap) (locs1 : List Loc), Wd shM D cA ad H0 M1 H1 locs1 → K M1 = some res → W p l e R s m args below meth c H1 locs1 0 0 Q (F0 m (pc + 3) ls rest)) : W p l e R s m args below meth c H locs 0 0 Q (F0 m pc ls (.ref (ad 0) :: rest)) := by
  obtain ⟨M1, h1, h2⟩ := bnd1_some hf
  exact r_aftv hw (r_runV (As := []) F hw hl (cX8_allCome_ok l D cA ad M M1 h1) cz8 (show shM[0]? = some (.inr (8, sf8)) from rfl) cwX8_219 hR hrm hd) (fun H1 o1 hw1 => kk M1 H1 o1 hw1 h2)
def fX8_firstGoes_L78 : Nat → Int32 → Int32 → Mem → Option (Mem)
  | 0, _, _, _ => none
  | n + 1, v1, v2, M =>
    if (4 : Int32) ≤ v2 then
      some M
    else
      ix ((((4 : Int32) * v1) + (4 : Int32)) + v2) 1560 <|
      ix (((4 : Int32) * v1) + v2) 1560 <| wr M 28 (((4 : Int32) * v1) + v2).toNatClampNeg (M 28 ((((4 : Int32) * v1) + (4 : Int32)) + v2).toNatClampNeg) fun M22 =>
      fX8_firstGoes_L78 n v1 (v2 + (1 : Int32)) M22
def fX8_firstGoes_L12 : Nat → Int32 → Mem → Option (Mem)
  | 0, _, _ => none
  | n + 1, v1, M =>
    if (M 0 28) ≤ v1 then
      some M
    else
      ix (v1 + (1 : Int32)) 390 <|
      ix v1 390 <| wr M 24 v1.toNatClampNeg (M 24 (v1 + (1 : Int32)).toNatClampNeg) fun M7 =>
      wr M7 25 v1.toNatClampNeg (M7 25 (v1 + (1 : Int32)).toNatClampNeg) fun M10 =>
      wr M10 26 v1.toNatClampNeg (M10 26 (v1 + (1 : Int32)).toNatClampNeg) fun M13 =>
      wr M13 27 v1.toNatClampNeg (M13 27 (v1 + (1 : Int32)).toNatClampNeg) fun M16 =>
      bnd1 (fX8_firstGoes_L78 FUEL v1 (0 : Int32) M16) fun M27 =>
      fX8_firstGoes_L12 n (v1 + (1 : Int32)) M27
def fX8_firstGoes (M : Mem) : Option Mem :=
  wr M 0 28 ((M 0 28) - (1 : Int32)) fun M1 =>
  bnd1 (fX8_firstGoes_L12 FUEL (0 : Int32) M1) fun M34 =>
  some M34
set_option maxHeartbeats 4000000 in
set_option maxRecDepth 100000 in
theorem wX8_firstGoes_L78 {p : Program} {l : Launch} {e : Env} {s : State} {m : MethodId} {args : Array Value} {below : List Frame} {meth : Method} {c : Code} {D : va_G} {cA : Nat → ClassId} {ad : Nat → Nat} {Q : State → Prop} (F : Fx D cA RX8 cX8_firstGoes 3 none p s m args meth c) : ∀ (n : Nat) (v1 : Int32) (v2 : Int32) (M : Mem) (H : Heap) (o : List Loc) (ls : Array Slot), lv_has ls 3 [(0, .ref (ad 0)), (1, .int v1), (2, .int v2)] → Wd shM D cA ad s.heap M H o → ∀ (M' : Mem), fX8_firstGoes_L78 n v1 v2 M = some M' → (∀ (H1 : Heap) (o1 : List Loc) (ls1 : Array Slot), lv_has ls1 3 [(0, .ref (ad 0)), (1, .int v1)] → Wd shM D cA ad s.heap M' H1 o1 → W p l e (rz 0 0) s m args below meth c H1 o1 0 0 Q (F0 m 111 ls1 [])) → W p l e (rz 0 0) s m args below meth c H o 0 0 Q (F0 m 78 ls []) := by
  intro n
  induction n with
  | zero =>
    intro v1 v2 M H o ls hl hw M' hf kk
    cases hf
  | succ n ih =>
    intro v1 v2 M H o ls hl hw M' hf kk
    rw [fX8_firstGoes_L78] at hf
    refine lv_iload_n F.1 F.2.1 dX8_firstGoes_78 rfl (lv_at hl 2 rfl) ?_
    refine k_iconst_4 F dX8_firstGoes_79 ?_
    refine b_icmp_ge F dX8_firstGoes_80 (tgt := 111) (by decide) hf (fun hc26 hf => ?_) (fun hc26 hf => ?_)
    · cases hf
      exact kk _ _ _ (lv_sub hl [0, 1] rfl) hw
    · refine lv_aload_n F.1 F.2.1 dX8_firstGoes_83 rfl (lv_at hl 0 rfl) ?_
      refine gX8_101 F hw rfl dX8_firstGoes_84 ?_
      refine k_iconst_4 F dX8_firstGoes_87 ?_
      refine lv_iload_n F.1 F.2.1 dX8_firstGoes_88 rfl (lv_at hl 1 rfl) ?_
      refine lv_imul F.1 F.2.1 dX8_firstGoes_89 ?_
      refine lv_iload_n F.1 F.2.1 dX8_firstGoes_90 rfl (lv_at hl 2 rfl) ?_
      refine lv_iadd F.1 F.2.1 dX8_firstGoes_91 ?_
      refine lv_aload_n F.1 F.2.1 dX8_firstGoes_92 rfl (lv_at hl 0 rfl) ?_
      refine gX8_101 F hw rfl dX8_firstGoes_93 ?_
      refine k_iconst_4 F dX8_firstGoes_96 ?_
      refine lv_iload_n F.1 F.2.1 dX8_firstGoes_97 rfl (lv_at hl 1 rfl) ?_
      refine lv_imul F.1 F.2.1 dX8_firstGoes_98 ?_
      refine k_iconst_4 F dX8_firstGoes_99 ?_
      refine lv_iadd F.1 F.2.1 dX8_firstGoes_100 ?_
      refine lv_iload_n F.1 F.2.1 dX8_firstGoes_101 rfl (lv_at hl 2 rfl) ?_
      refine lv_iadd F.1 F.2.1 dX8_firstGoes_102 ?_
      refine r_iald F hw (n := 1560) rfl dX8_firstGoes_103 hf (fun hi20 hf => ?_)
      refine r_iast F hw (n := 1560) rfl dX8_firstGoes_104 hf (fun hi21 M22 H23 o24 hw hf => ?_)
      refine lv_iinc F.1 F.2.1 dX8_firstGoes_105 hl (k := 2) rfl (ki_1 _) (lv' := [(2, .int (v2 + (1 : Int32))), (0, .ref (ad 0)), (1, .int v1)]) (Nat.le_of_ble_eq_true rfl) rfl (fun ls25 hl => ?_)
      refine lv_goto F.1 F.2.1 dX8_firstGoes_108 (tgt := 78) (by decide) ?_
      exact ih v1 (v2 + (1 : Int32)) M22 _ _ _ (lv_sub hl [1, 2, 0] rfl) hw  M' hf kk
set_option maxHeartbeats 4000000 in
set_option maxRecDepth 100000 in
theorem wX8_firstGoes_L12 {p : Program} {l : Launch} {e : Env} {s : State} {m : MethodId} {args : Array Value} {below : List Frame} {meth : Method} {c : Code} {D : va_G} {cA : Nat → ClassId} {ad : Nat → Nat} {Q : State → Prop} (F : Fx D cA RX8 cX8_firstGoes 3 none p s m args meth c) : ∀ (n : Nat) (v1 : Int32) (M : Mem) (H : Heap) (o : List Loc) (ls : Array Slot), lv_has ls 3 [(0, .ref (ad 0)), (1, .int v1)] → Wd shM D cA ad s.heap M H o → ∀ (M' : Mem), fX8_firstGoes_L12 n v1 M = some M' → (∀ (H1 : Heap) (o1 : List Loc) (ls1 : Array Slot), lv_has ls1 3 [] → Wd shM D cA ad s.heap M' H1 o1 → W p l e (rz 0 0) s m args below meth c H1 o1 0 0 Q (F0 m 117 ls1 [])) → W p l e (rz 0 0) s m args below meth c H o 0 0 Q (F0 m 12 ls []) := by
  intro n
  induction n with
  | zero =>
    intro v1 M H o ls hl hw M' hf kk
    cases hf
  | succ n ih =>
    intro v1 M H o ls hl hw M' hf kk
    rw [fX8_firstGoes_L12] at hf
    refine lv_iload_n F.1 F.2.1 dX8_firstGoes_12 rfl (lv_at hl 1 rfl) ?_
    refine lv_aload_n F.1 F.2.1 dX8_firstGoes_13 rfl (lv_at hl 0 rfl) ?_
    refine gX8_120 F hw rfl dX8_firstGoes_14 ?_
    refine b_icmp_ge F dX8_firstGoes_17 (tgt := 117) (by decide) hf (fun hc33 hf => ?_) (fun hc33 hf => ?_)
    · cases hf
      exact kk _ _ _ (lv_sub hl [] rfl) hw
    · refine lv_aload_n F.1 F.2.1 dX8_firstGoes_20 rfl (lv_at hl 0 rfl) ?_
      refine gX8_89 F hw rfl dX8_firstGoes_21 ?_
      refine lv_iload_n F.1 F.2.1 dX8_firstGoes_24 rfl (lv_at hl 1 rfl) ?_
      refine lv_aload_n F.1 F.2.1 dX8_firstGoes_25 rfl (lv_at hl 0 rfl) ?_
      refine gX8_89 F hw rfl dX8_firstGoes_26 ?_
      refine lv_iload_n F.1 F.2.1 dX8_firstGoes_29 rfl (lv_at hl 1 rfl) ?_
      refine k_iconst_1 F dX8_firstGoes_30 ?_
      refine lv_iadd F.1 F.2.1 dX8_firstGoes_31 ?_
      refine r_iald F hw (n := 390) rfl dX8_firstGoes_32 hf (fun hi5 hf => ?_)
      refine r_iast F hw (n := 390) rfl dX8_firstGoes_33 hf (fun hi6 M7 H8 o9 hw hf => ?_)
      refine lv_aload_n F.1 F.2.1 dX8_firstGoes_34 rfl (lv_at hl 0 rfl) ?_
      refine gX8_92 F hw rfl dX8_firstGoes_35 ?_
      refine lv_iload_n F.1 F.2.1 dX8_firstGoes_38 rfl (lv_at hl 1 rfl) ?_
      refine lv_aload_n F.1 F.2.1 dX8_firstGoes_39 rfl (lv_at hl 0 rfl) ?_
      refine gX8_92 F hw rfl dX8_firstGoes_40 ?_
      refine lv_iload_n F.1 F.2.1 dX8_firstGoes_43 rfl (lv_at hl 1 rfl) ?_
      refine k_iconst_1 F dX8_firstGoes_44 ?_
      refine lv_iadd F.1 F.2.1 dX8_firstGoes_45 ?_
      refine r_iald0 F hw (n := 390) rfl dX8_firstGoes_46 hi5 ?_
      refine r_iast0 F hw (n := 390) rfl dX8_firstGoes_47 hi6 hf (fun M10 H11 o12 hw hf => ?_)
      refine lv_aload_n F.1 F.2.1 dX8_firstGoes_48 rfl (lv_at hl 0 rfl) ?_
      refine gX8_95 F hw rfl dX8_firstGoes_49 ?_
      refine lv_iload_n F.1 F.2.1 dX8_firstGoes_52 rfl (lv_at hl 1 rfl) ?_
      refine lv_aload_n F.1 F.2.1 dX8_firstGoes_53 rfl (lv_at hl 0 rfl) ?_
      refine gX8_95 F hw rfl dX8_firstGoes_54 ?_
      refine lv_iload_n F.1 F.2.1 dX8_firstGoes_57 rfl (lv_at hl 1 rfl) ?_
      refine k_iconst_1 F dX8_firstGoes_58 ?_
      refine lv_iadd F.1 F.2.1 dX8_firstGoes_59 ?_
      refine r_iald0 F hw (n := 390) rfl dX8_firstGoes_60 hi5 ?_
      refine r_iast0 F hw (n := 390) rfl dX8_firstGoes_61 hi6 hf (fun M13 H14 o15 hw hf => ?_)
      refine lv_aload_n F.1 F.2.1 dX8_firstGoes_62 rfl (lv_at hl 0 rfl) ?_
      refine gX8_98 F hw rfl dX8_firstGoes_63 ?_
      refine lv_iload_n F.1 F.2.1 dX8_firstGoes_66 rfl (lv_at hl 1 rfl) ?_
      refine lv_aload_n F.1 F.2.1 dX8_firstGoes_67 rfl (lv_at hl 0 rfl) ?_
      refine gX8_98 F hw rfl dX8_firstGoes_68 ?_
      refine lv_iload_n F.1 F.2.1 dX8_firstGoes_71 rfl (lv_at hl 1 rfl) ?_
      refine k_iconst_1 F dX8_firstGoes_72 ?_
      refine lv_iadd F.1 F.2.1 dX8_firstGoes_73 ?_
      refine r_iald0 F hw (n := 390) rfl dX8_firstGoes_74 hi5 ?_
      refine r_iast0 F hw (n := 390) rfl dX8_firstGoes_75 hi6 hf (fun M16 H17 o18 hw hf => ?_)
      refine k_iconst_0 F dX8_firstGoes_76 ?_
      refine lv_istore_n F.1 F.2.1 dX8_firstGoes_77 rfl hl (lv' := [(2, .int (0 : Int32)), (0, .ref (ad 0)), (1, .int v1)]) (Nat.le_of_ble_eq_true rfl) rfl (fun ls19 hl => ?_)
      obtain ⟨M27, hq32, hf⟩ := bnd1_some hf
      refine wX8_firstGoes_L78 F FUEL v1 (0 : Int32) M16 _ _ _ (lv_sub hl [1, 2, 0] rfl) hw M27 hq32 (fun H28 o29 ls30 hl hw => ?_)
      refine lv_iinc F.1 F.2.1 dX8_firstGoes_111 hl (k := 1) rfl (ki_1 _) (lv' := [(1, .int (v1 + (1 : Int32))), (0, .ref (ad 0))]) (Nat.le_of_ble_eq_true rfl) rfl (fun ls31 hl => ?_)
      refine lv_goto F.1 F.2.1 dX8_firstGoes_114 (tgt := 12) (by decide) ?_
      exact ih (v1 + (1 : Int32)) M27 _ _ _ (lv_sub hl [1, 0] rfl) hw  M' hf kk
set_option maxHeartbeats 4000000 in
set_option maxRecDepth 100000 in
theorem cX8_firstGoes_ok (l : Launch) (D : va_G) (cA : Nat → ClassId) (ad : Nat → Nat) (M : Mem)  (M' : Mem) (hf : fX8_firstGoes M = some M') : Ctg l yX8_firstGoes cX8_firstGoes 3 none 0 0 shM D cA ad [.ref (ad 0)] M (Qzv shM D cA ad M') := by
  refine ct_in (by decide) (Nat.le_of_ble_eq_true rfl) ?_
  intro p e s m below meth c ls F hl hw
  have hl : lv_has ls 3 [(0, .ref (ad 0))] := hl
  unfold fX8_firstGoes at hf
  refine lv_aload_n F.1 F.2.1 dX8_firstGoes_0 rfl (lv_at hl 0 rfl) ?_
  refine lv_dup F.1 F.2.1 dX8_firstGoes_1 rfl ?_
  refine gX8_120 F hw rfl dX8_firstGoes_2 ?_
  refine k_iconst_1 F dX8_firstGoes_5 ?_
  refine lv_isub F.1 F.2.1 dX8_firstGoes_6 ?_
  refine qX8_120 F hw rfl dX8_firstGoes_7 hf (fun M1 H2 o3 hw hf => ?_)
  refine k_iconst_0 F dX8_firstGoes_10 ?_
  refine lv_istore_n F.1 F.2.1 dX8_firstGoes_11 rfl hl (lv' := [(1, .int (0 : Int32)), (0, .ref (ad 0))]) (Nat.le_of_ble_eq_true rfl) rfl (fun ls4 hl => ?_)
  obtain ⟨M34, hq38, hf⟩ := bnd1_some hf
  refine wX8_firstGoes_L12 F FUEL (0 : Int32) M1 _ _ _ (lv_sub hl [1, 0] rfl) hw M34 hq38 (fun H35 o36 ls37 hl hw => ?_)
  exact r_vret_w F hw dX8_firstGoes_117 hf
theorem clX8_225 (F : Fx D cA RX8 cc nL ret p s m args meth c) (hw : Wd shM D cA ad H0 M H locs) (hl : lv_has ls nL lv) (hR : 1 ≤ R.frames ∧ 22 ≤ R.locals) (hrm : (rest.map fun v => v.category).sum ≤ 8) (hd : decode cc pc = .ok (.invokevirtual 225, 3)) {α : Type} {K : Mem → Option α} {res : α} (hf : bnd1 (fX8_firstGoes M) K = some res) (kk : ∀ (M1 : Mem) (H1 : Heap) (locs1 : List Loc), Wd shM D cA ad H0 M1 H1 locs1 → K M1 = some res → W p l e R s m args below meth c H1 locs1 0 0 Q (F0 m (pc + 3) ls rest)) : W p l e R s m args below meth c H locs 0 0 Q (F0 m pc ls (.ref (ad 0) :: rest)) := by
  obtain ⟨M1, h1, h2⟩ := bnd1_some hf
  exact r_aftv hw (r_runV (As := []) F hw hl (cX8_firstGoes_ok l D cA ad M M1 h1) cz8 (show shM[0]? = some (.inr (8, sf8)) from rfl) cwX8_225 hR hrm hd) (fun H1 o1 hw1 => kk M1 H1 o1 hw1 h2)
def fX8_gateBehind_L4 : Nat → Int32 → Int32 → Int32 → Mem → Option (Int32)
  | 0, _, _, _, _ => none
  | n + 1, v1, v2, v3, M =>
    if (M 0 2) ≤ v3 then
      some v2
    else
      jn (fun (t3 : Int32) =>
        jn (fun (t9 : Int32) =>
          if t3 = 0 then
            fX8_gateBehind_L4 n v1 v2 (v3 + (1 : Int32)) M
          else
            if t9 = 0 then
              fX8_gateBehind_L4 n v1 v2 (v3 + (1 : Int32)) M
            else
              if v2 = (-1 : Int32) then
                fX8_gateBehind_L4 n v1 v3 (v3 + (1 : Int32)) M
              else
                ix v3 1560 <|
                ix v2 1560 <|
                if (M 28 v3.toNatClampNeg) ≤ (M 28 v2.toNatClampNeg) then
                  fX8_gateBehind_L4 n v1 v2 (v3 + (1 : Int32)) M
                else
                  fX8_gateBehind_L4 n v1 v3 (v3 + (1 : Int32)) M) fun j13 =>
        if v1 = (-1 : Int32) then
          j13 (1 : Int32)
        else
          ix v3 1560 <|
          ix v1 1560 <|
          if (M 28 v3.toNatClampNeg) < (M 28 v1.toNatClampNeg) then
            j13 (1 : Int32)
          else
            if (M 28 v3.toNatClampNeg) = (M 28 v1.toNatClampNeg) then
              if v3 ≤ v1 then
                j13 (0 : Int32)
              else
                j13 (1 : Int32)
            else
              j13 (0 : Int32)) fun j7 =>
      if ((jshr (M 27 (0 : Int32).toNatClampNeg) v3) &&& (1 : Int32)) = (1 : Int32) then
        j7 (1 : Int32)
      else
        j7 (0 : Int32)
def fX8_gateBehind (v1 : Int32) (M : Mem) : Option Int32 :=
  bnd1 (fX8_gateBehind_L4 FUEL v1 (-1 : Int32) (0 : Int32) M) fun w36 =>
  some w36
set_option maxHeartbeats 4000000 in
set_option maxRecDepth 100000 in
theorem wX8_gateBehind_L4 {p : Program} {l : Launch} {e : Env} {s : State} {m : MethodId} {args : Array Value} {below : List Frame} {meth : Method} {c : Code} {D : va_G} {cA : Nat → ClassId} {ad : Nat → Nat} {Q : State → Prop} (F : Fx D cA RX8 cX8_gateBehind 6 (some .int) p s m args meth c) : ∀ (n : Nat) (v1 : Int32) (v2 : Int32) (v3 : Int32) (M : Mem) (H : Heap) (o : List Loc) (ls : Array Slot), lv_has ls 6 [(0, .ref (ad 0)), (1, .int v1), (2, .int v2), (3, .int v3)] → Wd shM D cA ad s.heap M H o → ∀ (u2 : Int32), fX8_gateBehind_L4 n v1 v2 v3 M = some u2 → (∀ (H1 : Heap) (o1 : List Loc) (ls1 : Array Slot), lv_has ls1 6 [(2, .int u2)] → Wd shM D cA ad s.heap M H1 o1 → W p l e (rz 0 0) s m args below meth c H1 o1 0 0 Q (F0 m 118 ls1 [])) → W p l e (rz 0 0) s m args below meth c H o 0 0 Q (F0 m 4 ls []) := by
  intro n
  induction n with
  | zero =>
    intro v1 v2 v3 M H o ls hl hw u2 hf kk
    cases hf
  | succ n ih =>
    intro v1 v2 v3 M H o ls hl hw u2 hf kk
    rw [fX8_gateBehind_L4] at hf
    refine lv_iload_n F.1 F.2.1 dX8_gateBehind_4 rfl (lv_at hl 3 rfl) ?_
    refine lv_aload_n F.1 F.2.1 dX8_gateBehind_5 rfl (lv_at hl 0 rfl) ?_
    refine gX8_17 F hw rfl dX8_gateBehind_6 ?_
    refine b_icmp_ge F dX8_gateBehind_9 (tgt := 118) (by decide) hf (fun hc35 hf => ?_) (fun hc35 hf => ?_)
    · cases hf
      exact kk _ _ _ (lv_sub hl [2] rfl) hw
    · refine lv_aload_n F.1 F.2.1 dX8_gateBehind_12 rfl (lv_at hl 0 rfl) ?_
      refine gX8_98 F hw rfl dX8_gateBehind_13 ?_
      refine k_iconst_0 F dX8_gateBehind_16 ?_
      refine r_iald0 F hw (n := 390) rfl dX8_gateBehind_17 (by unfold vp_in; decide) ?_
      refine lv_iload_n F.1 F.2.1 dX8_gateBehind_18 rfl (lv_at hl 3 rfl) ?_
      refine k_ishr F dX8_gateBehind_19 ?_
      refine k_iconst_1 F dX8_gateBehind_20 ?_
      refine lv_iand F.1 F.2.1 dX8_gateBehind_21 ?_
      refine k_iconst_1 F dX8_gateBehind_22 ?_
      refine jn_go1 (fun (t3 : Int32) => ∀ (H4 : Heap) (o5 : List Loc) (ls6 : Array Slot), lv_has ls6 6 [(0, .ref (ad 0)), (1, .int v1), (2, .int v2), (3, .int v3)] → Wd shM D cA ad s.heap M H4 o5 → W p l e (rz 0 0) s m args below meth c H4 o5 0 0 Q (F0 m 31 ls6 [.int t3])) hf (fun t3 hf H4 o5 ls6 hl hw => ?_) (fun j7 Jj7 hf => ?_)
      · refine lv_istore F.1 F.2.1 dX8_gateBehind_31 hl (lv' := [(4, .int t3), (0, .ref (ad 0)), (1, .int v1), (2, .int v2), (3, .int v3)]) (Nat.le_of_ble_eq_true rfl) rfl (fun ls8 hl => ?_)
        refine lv_iload_n F.1 F.2.1 dX8_gateBehind_33 rfl (lv_at hl 2 rfl) ?_
        refine k_iconst_m1 F dX8_gateBehind_34 ?_
        refine jn_go1 (fun (t9 : Int32) => ∀ (H10 : Heap) (o11 : List Loc) (ls12 : Array Slot), lv_has ls12 6 [(4, .int t3), (0, .ref (ad 0)), (1, .int v1), (2, .int v2), (3, .int v3)] → Wd shM D cA ad s.heap M H10 o11 → W p l e (rz 0 0) s m args below meth c H10 o11 0 0 Q (F0 m 78 ls12 [.int t9])) hf (fun t9 hf H10 o11 ls12 hl hw => ?_) (fun j13 Jj13 hf => ?_)
        · refine lv_istore F.1 F.2.1 dX8_gateBehind_78 hl (lv' := [(5, .int t9), (4, .int t3), (0, .ref (ad 0)), (1, .int v1), (2, .int v2), (3, .int v3)]) (Nat.le_of_ble_eq_true rfl) rfl (fun ls14 hl => ?_)
          refine lv_iload F.1 F.2.1 dX8_gateBehind_80 (lv_at hl 1 rfl) ?_
          refine b_if_eq F dX8_gateBehind_82 (tgt := 112) (by decide) hf (fun hc27 hf => ?_) (fun hc27 hf => ?_)
          · refine lv_iinc F.1 F.2.1 dX8_gateBehind_112 hl (k := 5) rfl (ki_1 _) (lv' := [(3, .int (v3 + (1 : Int32))), (5, .int t9), (4, .int t3), (0, .ref (ad 0)), (1, .int v1), (2, .int v2)]) (Nat.le_of_ble_eq_true rfl) rfl (fun ls15 hl => ?_)
            refine lv_goto F.1 F.2.1 dX8_gateBehind_115 (tgt := 4) (by decide) ?_
            exact ih v1 v2 (v3 + (1 : Int32)) M _ _ _ (lv_sub hl [3, 4, 5, 0] rfl) hw u2 hf kk
          · refine lv_iload F.1 F.2.1 dX8_gateBehind_85 (lv_at hl 0 rfl) ?_
            refine b_if_eq F dX8_gateBehind_87 (tgt := 112) (by decide) hf (fun hc26 hf => ?_) (fun hc26 hf => ?_)
            · refine lv_iinc F.1 F.2.1 dX8_gateBehind_112 hl (k := 5) rfl (ki_1 _) (lv' := [(3, .int (v3 + (1 : Int32))), (5, .int t9), (4, .int t3), (0, .ref (ad 0)), (1, .int v1), (2, .int v2)]) (Nat.le_of_ble_eq_true rfl) rfl (fun ls16 hl => ?_)
              refine lv_goto F.1 F.2.1 dX8_gateBehind_115 (tgt := 4) (by decide) ?_
              exact ih v1 v2 (v3 + (1 : Int32)) M _ _ _ (lv_sub hl [3, 4, 5, 0] rfl) hw u2 hf kk
            · refine lv_iload_n F.1 F.2.1 dX8_gateBehind_90 rfl (lv_at hl 4 rfl) ?_
              refine k_iconst_m1 F dX8_gateBehind_91 ?_
              refine b_icmp_eq F dX8_gateBehind_92 (tgt := 110) (by decide) hf (fun hc25 hf => ?_) (fun hc25 hf => ?_)
              · refine lv_iload_n F.1 F.2.1 dX8_gateBehind_110 rfl (lv_at hl 5 rfl) ?_
                refine lv_istore_n F.1 F.2.1 dX8_gateBehind_111 rfl hl (lv' := [(2, .int v3), (5, .int t9), (4, .int t3), (0, .ref (ad 0)), (1, .int v1), (3, .int v3)]) (Nat.le_of_ble_eq_true rfl) rfl (fun ls17 hl => ?_)
                refine lv_iinc F.1 F.2.1 dX8_gateBehind_112 hl (k := 5) rfl (ki_1 _) (lv' := [(3, .int (v3 + (1 : Int32))), (2, .int v3), (5, .int t9), (4, .int t3), (0, .ref (ad 0)), (1, .int v1)]) (Nat.le_of_ble_eq_true rfl) rfl (fun ls18 hl => ?_)
                refine lv_goto F.1 F.2.1 dX8_gateBehind_115 (tgt := 4) (by decide) ?_
                exact ih v1 v3 (v3 + (1 : Int32)) M _ _ _ (lv_sub hl [4, 5, 1, 0] rfl) hw u2 hf kk
              · refine lv_aload_n F.1 F.2.1 dX8_gateBehind_95 rfl (lv_at hl 2 rfl) ?_
                refine gX8_101 F hw rfl dX8_gateBehind_96 ?_
                refine lv_iload_n F.1 F.2.1 dX8_gateBehind_99 rfl (lv_at hl 5 rfl) ?_
                refine r_iald F hw (n := 1560) rfl dX8_gateBehind_100 hf (fun hi19 hf => ?_)
                refine lv_aload_n F.1 F.2.1 dX8_gateBehind_101 rfl (lv_at hl 2 rfl) ?_
                refine gX8_101 F hw rfl dX8_gateBehind_102 ?_
                refine lv_iload_n F.1 F.2.1 dX8_gateBehind_105 rfl (lv_at hl 4 rfl) ?_
                refine r_iald F hw (n := 1560) rfl dX8_gateBehind_106 hf (fun hi20 hf => ?_)
                refine b_icmp_le F dX8_gateBehind_107 (tgt := 112) (by decide) hf (fun hc24 hf => ?_) (fun hc24 hf => ?_)
                · refine lv_iinc F.1 F.2.1 dX8_gateBehind_112 hl (k := 5) rfl (ki_1 _) (lv' := [(3, .int (v3 + (1 : Int32))), (5, .int t9), (4, .int t3), (0, .ref (ad 0)), (1, .int v1), (2, .int v2)]) (Nat.le_of_ble_eq_true rfl) rfl (fun ls21 hl => ?_)
                  refine lv_goto F.1 F.2.1 dX8_gateBehind_115 (tgt := 4) (by decide) ?_
                  exact ih v1 v2 (v3 + (1 : Int32)) M _ _ _ (lv_sub hl [3, 4, 5, 0] rfl) hw u2 hf kk
                · refine lv_iload_n F.1 F.2.1 dX8_gateBehind_110 rfl (lv_at hl 5 rfl) ?_
                  refine lv_istore_n F.1 F.2.1 dX8_gateBehind_111 rfl hl (lv' := [(2, .int v3), (5, .int t9), (4, .int t3), (0, .ref (ad 0)), (1, .int v1), (3, .int v3)]) (Nat.le_of_ble_eq_true rfl) rfl (fun ls22 hl => ?_)
                  refine lv_iinc F.1 F.2.1 dX8_gateBehind_112 hl (k := 5) rfl (ki_1 _) (lv' := [(3, .int (v3 + (1 : Int32))), (2, .int v3), (5, .int t9), (4, .int t3), (0, .ref (ad 0)), (1, .int v1)]) (Nat.le_of_ble_eq_true rfl) rfl (fun ls23 hl => ?_)
                  refine lv_goto F.1 F.2.1 dX8_gateBehind_115 (tgt := 4) (by decide) ?_
                  exact ih v1 v3 (v3 + (1 : Int32)) M _ _ _ (lv_sub hl [4, 5, 1, 0] rfl) hw u2 hf kk
        · refine b_icmp_eq F dX8_gateBehind_35 (tgt := 73) (by decide) hf (fun hc33 hf => ?_) (fun hc33 hf => ?_)
          · refine k_iconst_1 F dX8_gateBehind_73 ?_
            refine lv_goto F.1 F.2.1 dX8_gateBehind_74 (tgt := 78) (by decide) ?_
            exact Jj13 (1 : Int32) hf _ _ _ hl hw
          · refine lv_aload_n F.1 F.2.1 dX8_gateBehind_38 rfl (lv_at hl 1 rfl) ?_
            refine gX8_101 F hw rfl dX8_gateBehind_39 ?_
            refine lv_iload_n F.1 F.2.1 dX8_gateBehind_42 rfl (lv_at hl 4 rfl) ?_
            refine r_iald F hw (n := 1560) rfl dX8_gateBehind_43 hf (fun hi28 hf => ?_)
            refine lv_aload_n F.1 F.2.1 dX8_gateBehind_44 rfl (lv_at hl 1 rfl) ?_
            refine gX8_101 F hw rfl dX8_gateBehind_45 ?_
            refine lv_iload_n F.1 F.2.1 dX8_gateBehind_48 rfl (lv_at hl 2 rfl) ?_
            refine r_iald F hw (n := 1560) rfl dX8_gateBehind_49 hf (fun hi29 hf => ?_)
            refine b_icmp_lt F dX8_gateBehind_50 (tgt := 73) (by decide) hf (fun hc32 hf => ?_) (fun hc32 hf => ?_)
            · refine k_iconst_1 F dX8_gateBehind_73 ?_
              refine lv_goto F.1 F.2.1 dX8_gateBehind_74 (tgt := 78) (by decide) ?_
              exact Jj13 (1 : Int32) hf _ _ _ hl hw
            · refine lv_aload_n F.1 F.2.1 dX8_gateBehind_53 rfl (lv_at hl 1 rfl) ?_
              refine gX8_101 F hw rfl dX8_gateBehind_54 ?_
              refine lv_iload_n F.1 F.2.1 dX8_gateBehind_57 rfl (lv_at hl 4 rfl) ?_
              refine r_iald0 F hw (n := 1560) rfl dX8_gateBehind_58 hi28 ?_
              refine lv_aload_n F.1 F.2.1 dX8_gateBehind_59 rfl (lv_at hl 1 rfl) ?_
              refine gX8_101 F hw rfl dX8_gateBehind_60 ?_
              refine lv_iload_n F.1 F.2.1 dX8_gateBehind_63 rfl (lv_at hl 2 rfl) ?_
              refine r_iald0 F hw (n := 1560) rfl dX8_gateBehind_64 hi29 ?_
              refine b_icmp_ne F dX8_gateBehind_65 (tgt := 77) (by decide) hf (fun hc31 hf => ?_) (fun hc31 hf => ?_)
              · refine lv_iload_n F.1 F.2.1 dX8_gateBehind_68 rfl (lv_at hl 4 rfl) ?_
                refine lv_iload_n F.1 F.2.1 dX8_gateBehind_69 rfl (lv_at hl 2 rfl) ?_
                refine b_icmp_le F dX8_gateBehind_70 (tgt := 77) (by decide) hf (fun hc30 hf => ?_) (fun hc30 hf => ?_)
                · refine k_iconst_0 F dX8_gateBehind_77 ?_
                  exact Jj13 (0 : Int32) hf _ _ _ hl hw
                · refine k_iconst_1 F dX8_gateBehind_73 ?_
                  refine lv_goto F.1 F.2.1 dX8_gateBehind_74 (tgt := 78) (by decide) ?_
                  exact Jj13 (1 : Int32) hf _ _ _ hl hw
              · refine k_iconst_0 F dX8_gateBehind_77 ?_
                exact Jj13 (0 : Int32) hf _ _ _ hl hw
      · refine b_icmp_ne F dX8_gateBehind_23 (tgt := 30) (by decide) hf (fun hc34 hf => ?_) (fun hc34 hf => ?_)
        · refine k_iconst_1 F dX8_gateBehind_26 ?_
          refine lv_goto F.1 F.2.1 dX8_gateBehind_27 (tgt := 31) (by decide) ?_
          exact Jj7 (1 : Int32) hf _ _ _ hl hw
        · refine k_iconst_0 F dX8_gateBehind_30 ?_
          exact Jj7 (0 : Int32) hf _ _ _ hl hw
set_option maxHeartbeats 4000000 in
set_option maxRecDepth 100000 in
theorem cX8_gateBehind_ok (l : Launch) (D : va_G) (cA : Nat → ClassId) (ad : Nat → Nat) (M : Mem) (v1 : Int32) (r : Int32) (hf : fX8_gateBehind v1 M = some r) : Ctg l yX8_gateBehind cX8_gateBehind 6 (some .int) 0 0 shM D cA ad [.ref (ad 0), .int v1] M (Qzi shM D cA ad .int r M) := by
  refine ct_in (by decide) (Nat.le_of_ble_eq_true rfl) ?_
  intro p e s m below meth c ls F hl hw
  have hl : lv_has ls 6 [(0, .ref (ad 0)), (1, .int v1)] := hl
  unfold fX8_gateBehind at hf
  refine k_iconst_m1 F dX8_gateBehind_0 ?_
  refine lv_istore_n F.1 F.2.1 dX8_gateBehind_1 rfl hl (lv' := [(2, .int (-1 : Int32)), (0, .ref (ad 0)), (1, .int v1)]) (Nat.le_of_ble_eq_true rfl) rfl (fun ls1 hl => ?_)
  refine k_iconst_0 F dX8_gateBehind_2 ?_
  refine lv_istore_n F.1 F.2.1 dX8_gateBehind_3 rfl hl (lv' := [(3, .int (0 : Int32)), (2, .int (-1 : Int32)), (0, .ref (ad 0)), (1, .int v1)]) (Nat.le_of_ble_eq_true rfl) rfl (fun ls2 hl => ?_)
  obtain ⟨w36, hq40, hf⟩ := bnd1_some hf
  refine wX8_gateBehind_L4 F FUEL v1 (-1 : Int32) (0 : Int32) M _ _ _ (lv_sub hl [2, 3, 1, 0] rfl) hw w36 hq40 (fun H37 o38 ls39 hl hw => ?_)
  refine lv_iload_n F.1 F.2.1 dX8_gateBehind_118 rfl (lv_at hl 0 rfl) ?_
  exact r_iret_o F hw (vp_nar_int _) dX8_gateBehind_119 hf
theorem clX8_197 (F : Fx D cA RX8 cc nL ret p s m args meth c) (hw : Wd shM D cA ad H0 M H locs) (hl : lv_has ls nL lv) {v1 : Int32} (hR : 1 ≤ R.frames ∧ 25 ≤ R.locals) (hrm : (rest.map fun v => v.category).sum ≤ 8) (hd : decode cc pc = .ok (.invokevirtual 197, 3)) {α : Type} {K : Int32 → Option α} {res : α} (hf : bnd1 (fX8_gateBehind v1 M) K = some res) (kk : ∀ (t : Int32) (H1 : Heap) (locs1 : List Loc), Wd shM D cA ad H0 M H1 locs1 → narrow .int (.int t) = .int t → K t = some res → W p l e R s m args below meth c H1 locs1 0 0 Q (F0 m (pc + 3) ls (.int t :: rest))) : W p l e R s m args below meth c H locs 0 0 Q (F0 m pc ls (.int v1 :: .ref (ad 0) :: rest)) := by
  obtain ⟨t, h1, h2⟩ := bnd1_some hf
  exact r_afti hw (r_runV (As := [.int v1]) F hw hl (cX8_gateBehind_ok l D cA ad M v1 t h1) cz8 (show shM[0]? = some (.inr (8, sf8)) from rfl) cwX8_197 hR hrm hd) (fun H1 o1 hw1 hn => kk t H1 o1 hw1 hn h2)
def fX8_answers_L16 : Nat → Int32 → Int32 → Mem → Option (Int32)
  | 0, _, _, _ => none
  | n + 1, v2, v3, M =>
    if v3 = (-1 : Int32) then
      some v3
    else
      ix v3 4 <|
      if v2 ≤ ((M 3 v3.toNatClampNeg) - (M 4 v3.toNatClampNeg)) then
        some v3
      else
        bnd1 (fX8_gateBehind v3 M) fun t12 =>
        fX8_answers_L16 n v2 t12 M
def fX8_answers (v1 : Int32) (M : Mem) : Option (Int32 × Mem) :=
  ix v1 6 <|
  bnd1 (fX8_gateBehind (-1 : Int32) M) fun t6 =>
  bnd1 (fX8_answers_L16 FUEL ((6 : Int32) - (M 9 v1.toNatClampNeg)) t6 M) fun w16 =>
  if w16 = (-1 : Int32) then
    wr M 29 (4 : Int32).toNatClampNeg ((M 29 (4 : Int32).toNatClampNeg) + (1 : Int32)) fun M30 =>
    some ((0 : Int32), M30)
  else
    ix w16 4 <|
    wr M 4 w16.toNatClampNeg ((M 4 w16.toNatClampNeg) + ((6 : Int32) - (M 9 v1.toNatClampNeg))) fun M21 =>
    wr M21 6 w16.toNatClampNeg ((M21 6 w16.toNatClampNeg) + (1 : Int32)) fun M24 =>
    wr M24 29 (3 : Int32).toNatClampNeg ((M24 29 (3 : Int32).toNatClampNeg) + (1 : Int32)) fun M27 =>
    some ((1 : Int32), M27)
set_option maxHeartbeats 4000000 in
set_option maxRecDepth 100000 in
theorem wX8_answers_L16 {p : Program} {l : Launch} {e : Env} {s : State} {m : MethodId} {args : Array Value} {below : List Frame} {meth : Method} {c : Code} {D : va_G} {cA : Nat → ClassId} {ad : Nat → Nat} {Q : State → Prop} (F : Fx D cA RX8 cX8_answers 4 (some .boolean) p s m args meth c) : ∀ (n : Nat) (v2 : Int32) (v3 : Int32) (M : Mem) (H : Heap) (o : List Loc) (ls : Array Slot), lv_has ls 4 [(0, .ref (ad 0)), (2, .int v2), (3, .int v3)] → Wd shM D cA ad s.heap M H o → ∀ (u3 : Int32), fX8_answers_L16 n v2 v3 M = some u3 → (∀ (H1 : Heap) (o1 : List Loc) (ls1 : Array Slot), lv_has ls1 4 [(3, .int u3), (0, .ref (ad 0)), (2, .int v2)] → Wd shM D cA ad s.heap M H1 o1 → W p l e (rz 1 25) s m args below meth c H1 o1 0 0 Q (F0 m 47 ls1 [])) → W p l e (rz 1 25) s m args below meth c H o 0 0 Q (F0 m 16 ls []) := by
  intro n
  induction n with
  | zero =>
    intro v2 v3 M H o ls hl hw u3 hf kk
    cases hf
  | succ n ih =>
    intro v2 v3 M H o ls hl hw u3 hf kk
    rw [fX8_answers_L16] at hf
    refine lv_iload_n F.1 F.2.1 dX8_answers_16 rfl (lv_at hl 2 rfl) ?_
    refine k_iconst_m1 F dX8_answers_17 ?_
    refine b_icmp_eq F dX8_answers_18 (tgt := 47) (by decide) hf (fun hc15 hf => ?_) (fun hc15 hf => ?_)
    · cases hf
      exact kk _ _ _ (lv_sub hl [2, 0, 1] rfl) hw
    · refine lv_aload_n F.1 F.2.1 dX8_answers_21 rfl (lv_at hl 0 rfl) ?_
      refine gX8_26 F hw rfl dX8_answers_22 ?_
      refine lv_iload_n F.1 F.2.1 dX8_answers_25 rfl (lv_at hl 2 rfl) ?_
      refine r_iald F hw (n := 4) rfl dX8_answers_26 hf (fun hi8 hf => ?_)
      refine lv_aload_n F.1 F.2.1 dX8_answers_27 rfl (lv_at hl 0 rfl) ?_
      refine gX8_29 F hw rfl dX8_answers_28 ?_
      refine lv_iload_n F.1 F.2.1 dX8_answers_31 rfl (lv_at hl 2 rfl) ?_
      refine r_iald0 F hw (n := 4) rfl dX8_answers_32 hi8 ?_
      refine lv_isub F.1 F.2.1 dX8_answers_33 ?_
      refine lv_iload_n F.1 F.2.1 dX8_answers_34 rfl (lv_at hl 1 rfl) ?_
      refine b_icmp_ge F dX8_answers_35 (tgt := 47) (by decide) hf (fun hc14 hf => ?_) (fun hc14 hf => ?_)
      · cases hf
        exact kk _ _ _ (lv_sub hl [2, 0, 1] rfl) hw
      · refine lv_aload_n F.1 F.2.1 dX8_answers_38 rfl (lv_at hl 0 rfl) ?_
        refine lv_iload_n F.1 F.2.1 dX8_answers_39 rfl (lv_at hl 2 rfl) ?_
        refine clX8_197 F hw hl ⟨Nat.le_of_ble_eq_true rfl, Nat.le_of_ble_eq_true rfl⟩ (Nat.le_of_ble_eq_true rfl) dX8_answers_40 hf (fun t12 H9 o10 hw hn11 hf => ?_)
        refine lv_istore_n F.1 F.2.1 dX8_answers_43 rfl hl (lv' := [(3, .int t12), (0, .ref (ad 0)), (2, .int v2)]) (Nat.le_of_ble_eq_true rfl) rfl (fun ls13 hl => ?_)
        refine lv_goto F.1 F.2.1 dX8_answers_44 (tgt := 16) (by decide) ?_
        exact ih v2 t12 M _ _ _ (lv_sub hl [1, 2, 0] rfl) hw u3 hf kk
set_option maxHeartbeats 4000000 in
set_option maxRecDepth 100000 in
theorem cX8_answers_ok (l : Launch) (D : va_G) (cA : Nat → ClassId) (ad : Nat → Nat) (M : Mem) (v1 : Int32) (r : Int32) (M' : Mem) (hf : fX8_answers v1 M = some (r, M')) : Ctg l yX8_answers cX8_answers 4 (some .boolean) 1 25 shM D cA ad [.ref (ad 0), .int v1] M (Qzi shM D cA ad .boolean r M') := by
  refine ct_in (by decide) (Nat.le_of_ble_eq_true rfl) ?_
  intro p e s m below meth c ls F hl hw
  have hl : lv_has ls 4 [(0, .ref (ad 0)), (1, .int v1)] := hl
  unfold fX8_answers at hf
  refine k_bipush_6 F dX8_answers_0 ?_
  refine lv_aload_n F.1 F.2.1 dX8_answers_2 rfl (lv_at hl 0 rfl) ?_
  refine gX8_44 F hw rfl dX8_answers_3 ?_
  refine lv_iload_n F.1 F.2.1 dX8_answers_6 rfl (lv_at hl 1 rfl) ?_
  refine r_iald F hw (n := 6) rfl dX8_answers_7 hf (fun hi1 hf => ?_)
  refine lv_isub F.1 F.2.1 dX8_answers_8 ?_
  refine lv_istore_n F.1 F.2.1 dX8_answers_9 rfl hl (lv' := [(2, .int ((6 : Int32) - (M 9 v1.toNatClampNeg))), (0, .ref (ad 0)), (1, .int v1)]) (Nat.le_of_ble_eq_true rfl) rfl (fun ls2 hl => ?_)
  refine lv_aload_n F.1 F.2.1 dX8_answers_10 rfl (lv_at hl 1 rfl) ?_
  refine k_iconst_m1 F dX8_answers_11 ?_
  refine clX8_197 F hw hl ⟨Nat.le_of_ble_eq_true rfl, Nat.le_of_ble_eq_true rfl⟩ (Nat.le_of_ble_eq_true rfl) dX8_answers_12 hf (fun t6 H3 o4 hw hn5 hf => ?_)
  refine lv_istore_n F.1 F.2.1 dX8_answers_15 rfl hl (lv' := [(3, .int t6), (2, .int ((6 : Int32) - (M 9 v1.toNatClampNeg))), (0, .ref (ad 0)), (1, .int v1)]) (Nat.le_of_ble_eq_true rfl) rfl (fun ls7 hl => ?_)
  obtain ⟨w16, hq34, hf⟩ := bnd1_some hf
  refine wX8_answers_L16 F FUEL ((6 : Int32) - (M 9 v1.toNatClampNeg)) t6 M _ _ _ (lv_sub hl [2, 1, 0] rfl) hw w16 hq34 (fun H17 o18 ls19 hl hw => ?_)
  refine lv_iload_n F.1 F.2.1 dX8_answers_47 rfl (lv_at hl 0 rfl) ?_
  refine k_iconst_m1 F dX8_answers_48 ?_
  refine b_icmp_ne F dX8_answers_49 (tgt := 64) (by decide) hf (fun hc33 hf => ?_) (fun hc33 hf => ?_)
  · refine lv_aload_n F.1 F.2.1 dX8_answers_52 rfl (lv_at hl 1 rfl) ?_
    refine gX8_104 F hw rfl dX8_answers_53 ?_
    refine k_iconst_4 F dX8_answers_56 ?_
    refine lv_dup2_11 F.1 F.2.1 dX8_answers_57 rfl rfl ?_
    refine r_iald0 F hw (n := 6) rfl dX8_answers_58 (by unfold vp_in; decide) ?_
    refine k_iconst_1 F dX8_answers_59 ?_
    refine lv_iadd F.1 F.2.1 dX8_answers_60 ?_
    refine r_iast0 F hw (n := 6) rfl dX8_answers_61 (by unfold vp_in; decide) hf (fun M30 H31 o32 hw hf => ?_)
    refine k_iconst_0 F dX8_answers_62 ?_
    exact r_iret_w F hw rfl dX8_answers_63 hf
  · refine lv_aload_n F.1 F.2.1 dX8_answers_64 rfl (lv_at hl 1 rfl) ?_
    refine gX8_29 F hw rfl dX8_answers_65 ?_
    refine lv_iload_n F.1 F.2.1 dX8_answers_68 rfl (lv_at hl 0 rfl) ?_
    refine lv_dup2_11 F.1 F.2.1 dX8_answers_69 rfl rfl ?_
    refine r_iald F hw (n := 4) rfl dX8_answers_70 hf (fun hi20 hf => ?_)
    refine lv_iload_n F.1 F.2.1 dX8_answers_71 rfl (lv_at hl 2 rfl) ?_
    refine lv_iadd F.1 F.2.1 dX8_answers_72 ?_
    refine r_iast0 F hw (n := 4) rfl dX8_answers_73 hi20 hf (fun M21 H22 o23 hw hf => ?_)
    refine lv_aload_n F.1 F.2.1 dX8_answers_74 rfl (lv_at hl 1 rfl) ?_
    refine gX8_35 F hw rfl dX8_answers_75 ?_
    refine lv_iload_n F.1 F.2.1 dX8_answers_78 rfl (lv_at hl 0 rfl) ?_
    refine lv_dup2_11 F.1 F.2.1 dX8_answers_79 rfl rfl ?_
    refine r_iald0 F hw (n := 4) rfl dX8_answers_80 hi20 ?_
    refine k_iconst_1 F dX8_answers_81 ?_
    refine lv_iadd F.1 F.2.1 dX8_answers_82 ?_
    refine r_iast0 F hw (n := 4) rfl dX8_answers_83 hi20 hf (fun M24 H25 o26 hw hf => ?_)
    refine lv_aload_n F.1 F.2.1 dX8_answers_84 rfl (lv_at hl 1 rfl) ?_
    refine gX8_104 F hw rfl dX8_answers_85 ?_
    refine k_iconst_3 F dX8_answers_88 ?_
    refine lv_dup2_11 F.1 F.2.1 dX8_answers_89 rfl rfl ?_
    refine r_iald0 F hw (n := 6) rfl dX8_answers_90 (by unfold vp_in; decide) ?_
    refine k_iconst_1 F dX8_answers_91 ?_
    refine lv_iadd F.1 F.2.1 dX8_answers_92 ?_
    refine r_iast0 F hw (n := 6) rfl dX8_answers_93 (by unfold vp_in; decide) hf (fun M27 H28 o29 hw hf => ?_)
    refine k_iconst_1 F dX8_answers_94 ?_
    exact r_iret_w F hw rfl dX8_answers_95 hf
theorem clX8_209 (F : Fx D cA RX8 cc nL ret p s m args meth c) (hw : Wd shM D cA ad H0 M H locs) (hl : lv_has ls nL lv) {v1 : Int32} (hR : 2 ≤ R.frames ∧ 48 ≤ R.locals) (hrm : (rest.map fun v => v.category).sum ≤ 8) (hd : decode cc pc = .ok (.invokevirtual 209, 3)) {α : Type} {K : Int32 → Mem → Option α} {res : α} (hf : bnd2 (fX8_answers v1 M) K = some res) (kk : ∀ (t : Int32) (M1 : Mem) (H1 : Heap) (locs1 : List Loc), Wd shM D cA ad H0 M1 H1 locs1 → narrow .boolean (.int t) = .int t → K t M1 = some res → W p l e R s m args below meth c H1 locs1 0 0 Q (F0 m (pc + 3) ls (.int t :: rest))) : W p l e R s m args below meth c H locs 0 0 Q (F0 m pc ls (.int v1 :: .ref (ad 0) :: rest)) := by
  obtain ⟨t, M1, h1, h2⟩ := bnd2_some hf
  exact r_afti hw (r_runV (As := [.int v1]) F hw hl (cX8_answers_ok l D cA ad M v1 t M1 h1) cz8 (show shM[0]? = some (.inr (8, sf8)) from rfl) cwX8_209 hR hrm hd) (fun H1 o1 hw1 hn => kk t M1 H1 o1 hw1 hn h2)
def fX8_notes_L17 : Nat → Int32 → Int32 → Int32 → Int32 → Mem → Option (Mem)
  | 0, _, _, _, _, _ => none
  | n + 1, v1, v2, v3, v4, M =>
    if (3 : Int32) ≤ v4 then
      some M
    else
      ix ((v3 + v4) + (1 : Int32)) 24 <|
      ix (v3 + v4) 24 <| wr M 16 (v3 + v4).toNatClampNeg (M 16 ((v3 + v4) + (1 : Int32)).toNatClampNeg) fun M18 =>
      fX8_notes_L17 n v1 v2 v3 (v4 + (1 : Int32)) M18
def fX8_notes (v1 : Int32) (v2 : Int32) (M : Mem) : Option Mem :=
  ix v1 6 <|
  jn (fun (M3 : Mem) =>
    ix (((4 : Int32) * v1) + (M3 15 v1.toNatClampNeg)) 24 <| wr M3 16 (((4 : Int32) * v1) + (M3 15 v1.toNatClampNeg)).toNatClampNeg v2 fun M9 =>
    wr M9 15 v1.toNatClampNeg ((M9 15 v1.toNatClampNeg) + (1 : Int32)) fun M12 =>
    some M12) fun j7 =>
  if (M 15 v1.toNatClampNeg) = (4 : Int32) then
    bnd1 (fX8_notes_L17 FUEL v1 v2 ((4 : Int32) * v1) (0 : Int32) M) fun M23 =>
    wr M23 15 v1.toNatClampNeg ((M23 15 v1.toNatClampNeg) - (1 : Int32)) fun M27 =>
    j7 M27
  else
    j7 M
set_option maxHeartbeats 4000000 in
set_option maxRecDepth 100000 in
theorem wX8_notes_L17 {p : Program} {l : Launch} {e : Env} {s : State} {m : MethodId} {args : Array Value} {below : List Frame} {meth : Method} {c : Code} {D : va_G} {cA : Nat → ClassId} {ad : Nat → Nat} {Q : State → Prop} (F : Fx D cA RX8 cX8_notes 5 none p s m args meth c) : ∀ (n : Nat) (v1 : Int32) (v2 : Int32) (v3 : Int32) (v4 : Int32) (M : Mem) (H : Heap) (o : List Loc) (ls : Array Slot), lv_has ls 5 [(0, .ref (ad 0)), (1, .int v1), (2, .int v2), (3, .int v3), (4, .int v4)] → Wd shM D cA ad s.heap M H o → ∀ (M' : Mem), fX8_notes_L17 n v1 v2 v3 v4 M = some M' → (∀ (H1 : Heap) (o1 : List Loc) (ls1 : Array Slot), lv_has ls1 5 [(0, .ref (ad 0)), (1, .int v1), (2, .int v2), (3, .int v3)] → Wd shM D cA ad s.heap M' H1 o1 → W p l e (rz 0 0) s m args below meth c H1 o1 0 0 Q (F0 m 49 ls1 [])) → W p l e (rz 0 0) s m args below meth c H o 0 0 Q (F0 m 17 ls []) := by
  intro n
  induction n with
  | zero =>
    intro v1 v2 v3 v4 M H o ls hl hw M' hf kk
    cases hf
  | succ n ih =>
    intro v1 v2 v3 v4 M H o ls hl hw M' hf kk
    rw [fX8_notes_L17] at hf
    refine lv_iload F.1 F.2.1 dX8_notes_17 (lv_at hl 4 rfl) ?_
    refine k_iconst_3 F dX8_notes_19 ?_
    refine b_icmp_ge F dX8_notes_20 (tgt := 49) (by decide) hf (fun hc22 hf => ?_) (fun hc22 hf => ?_)
    · cases hf
      exact kk _ _ _ (lv_sub hl [0, 1, 2, 3] rfl) hw
    · refine lv_aload_n F.1 F.2.1 dX8_notes_23 rfl (lv_at hl 0 rfl) ?_
      refine gX8_65 F hw rfl dX8_notes_24 ?_
      refine lv_iload_n F.1 F.2.1 dX8_notes_27 rfl (lv_at hl 3 rfl) ?_
      refine lv_iload F.1 F.2.1 dX8_notes_28 (lv_at hl 4 rfl) ?_
      refine lv_iadd F.1 F.2.1 dX8_notes_30 ?_
      refine lv_aload_n F.1 F.2.1 dX8_notes_31 rfl (lv_at hl 0 rfl) ?_
      refine gX8_65 F hw rfl dX8_notes_32 ?_
      refine lv_iload_n F.1 F.2.1 dX8_notes_35 rfl (lv_at hl 3 rfl) ?_
      refine lv_iload F.1 F.2.1 dX8_notes_36 (lv_at hl 4 rfl) ?_
      refine lv_iadd F.1 F.2.1 dX8_notes_38 ?_
      refine k_iconst_1 F dX8_notes_39 ?_
      refine lv_iadd F.1 F.2.1 dX8_notes_40 ?_
      refine r_iald F hw (n := 24) rfl dX8_notes_41 hf (fun hi16 hf => ?_)
      refine r_iast F hw (n := 24) rfl dX8_notes_42 hf (fun hi17 M18 H19 o20 hw hf => ?_)
      refine lv_iinc F.1 F.2.1 dX8_notes_43 hl (k := 4) rfl (ki_1 _) (lv' := [(4, .int (v4 + (1 : Int32))), (0, .ref (ad 0)), (1, .int v1), (2, .int v2), (3, .int v3)]) (Nat.le_of_ble_eq_true rfl) rfl (fun ls21 hl => ?_)
      refine lv_goto F.1 F.2.1 dX8_notes_46 (tgt := 17) (by decide) ?_
      exact ih v1 v2 v3 (v4 + (1 : Int32)) M18 _ _ _ (lv_sub hl [1, 2, 3, 4, 0] rfl) hw  M' hf kk
set_option maxHeartbeats 4000000 in
set_option maxRecDepth 100000 in
theorem cX8_notes_ok (l : Launch) (D : va_G) (cA : Nat → ClassId) (ad : Nat → Nat) (M : Mem) (v1 : Int32) (v2 : Int32) (M' : Mem) (hf : fX8_notes v1 v2 M = some M') : Ctg l yX8_notes cX8_notes 5 none 0 0 shM D cA ad [.ref (ad 0), .int v1, .int v2] M (Qzv shM D cA ad M') := by
  refine ct_in (by decide) (Nat.le_of_ble_eq_true rfl) ?_
  intro p e s m below meth c ls F hl hw
  have hl : lv_has ls 5 [(0, .ref (ad 0)), (1, .int v1), (2, .int v2)] := hl
  unfold fX8_notes at hf
  refine k_iconst_4 F dX8_notes_0 ?_
  refine lv_iload_n F.1 F.2.1 dX8_notes_1 rfl (lv_at hl 1 rfl) ?_
  refine lv_imul F.1 F.2.1 dX8_notes_2 ?_
  refine lv_istore_n F.1 F.2.1 dX8_notes_3 rfl hl (lv' := [(3, .int ((4 : Int32) * v1)), (0, .ref (ad 0)), (1, .int v1), (2, .int v2)]) (Nat.le_of_ble_eq_true rfl) rfl (fun ls1 hl => ?_)
  refine lv_aload_n F.1 F.2.1 dX8_notes_4 rfl (lv_at hl 1 rfl) ?_
  refine gX8_62 F hw rfl dX8_notes_5 ?_
  refine lv_iload_n F.1 F.2.1 dX8_notes_8 rfl (lv_at hl 2 rfl) ?_
  refine r_iald F hw (n := 6) rfl dX8_notes_9 hf (fun hi2 hf => ?_)
  refine k_iconst_4 F dX8_notes_10 ?_
  refine jn_go1 (fun (M3 : Mem) => ∀ (H4 : Heap) (o5 : List Loc) (ls6 : Array Slot), lv_has ls6 5 [(3, .int ((4 : Int32) * v1)), (0, .ref (ad 0)), (1, .int v1), (2, .int v2)] → Wd shM D cA ad s.heap M3 H4 o5 → W p l e (rz 0 0) s m ([.ref (ad 0), .int v1, .int v2] : List Value).toArray below meth c H4 o5 0 0 (MQ below (Qzv shM D cA ad M') ([.ref (ad 0), .int v1, .int v2] : List Value).toArray s 0 0 (Az shM ad)) (F0 m 59 ls6 [])) hf (fun M3 hf H4 o5 ls6 hl hw => ?_) (fun j7 Jj7 hf => ?_)
  · refine lv_aload_n F.1 F.2.1 dX8_notes_59 rfl (lv_at hl 1 rfl) ?_
    refine gX8_65 F hw rfl dX8_notes_60 ?_
    refine lv_iload_n F.1 F.2.1 dX8_notes_63 rfl (lv_at hl 0 rfl) ?_
    refine lv_aload_n F.1 F.2.1 dX8_notes_64 rfl (lv_at hl 1 rfl) ?_
    refine gX8_62 F hw rfl dX8_notes_65 ?_
    refine lv_iload_n F.1 F.2.1 dX8_notes_68 rfl (lv_at hl 2 rfl) ?_
    refine r_iald0 F hw (n := 6) rfl dX8_notes_69 hi2 ?_
    refine lv_iadd F.1 F.2.1 dX8_notes_70 ?_
    refine lv_iload_n F.1 F.2.1 dX8_notes_71 rfl (lv_at hl 3 rfl) ?_
    refine r_iast F hw (n := 24) rfl dX8_notes_72 hf (fun hi8 M9 H10 o11 hw hf => ?_)
    refine lv_aload_n F.1 F.2.1 dX8_notes_73 rfl (lv_at hl 1 rfl) ?_
    refine gX8_62 F hw rfl dX8_notes_74 ?_
    refine lv_iload_n F.1 F.2.1 dX8_notes_77 rfl (lv_at hl 2 rfl) ?_
    refine lv_dup2_11 F.1 F.2.1 dX8_notes_78 rfl rfl ?_
    refine r_iald0 F hw (n := 6) rfl dX8_notes_79 hi2 ?_
    refine k_iconst_1 F dX8_notes_80 ?_
    refine lv_iadd F.1 F.2.1 dX8_notes_81 ?_
    refine r_iast0 F hw (n := 6) rfl dX8_notes_82 hi2 hf (fun M12 H13 o14 hw hf => ?_)
    exact r_vret_w F hw dX8_notes_83 hf
  · refine b_icmp_ne F dX8_notes_11 (tgt := 59) (by decide) hf (fun hc31 hf => ?_) (fun hc31 hf => ?_)
    · refine k_iconst_0 F dX8_notes_14 ?_
      refine lv_istore F.1 F.2.1 dX8_notes_15 hl (lv' := [(4, .int (0 : Int32)), (3, .int ((4 : Int32) * v1)), (0, .ref (ad 0)), (1, .int v1), (2, .int v2)]) (Nat.le_of_ble_eq_true rfl) rfl (fun ls15 hl => ?_)
      obtain ⟨M23, hq30, hf⟩ := bnd1_some hf
      refine wX8_notes_L17 F FUEL v1 v2 ((4 : Int32) * v1) (0 : Int32) M _ _ _ (lv_sub hl [2, 3, 4, 1, 0] rfl) hw M23 hq30 (fun H24 o25 ls26 hl hw => ?_)
      refine lv_aload_n F.1 F.2.1 dX8_notes_49 rfl (lv_at hl 0 rfl) ?_
      refine gX8_62 F hw rfl dX8_notes_50 ?_
      refine lv_iload_n F.1 F.2.1 dX8_notes_53 rfl (lv_at hl 1 rfl) ?_
      refine lv_dup2_11 F.1 F.2.1 dX8_notes_54 rfl rfl ?_
      refine r_iald0 F hw (n := 6) rfl dX8_notes_55 hi2 ?_
      refine k_iconst_1 F dX8_notes_56 ?_
      refine lv_isub F.1 F.2.1 dX8_notes_57 ?_
      refine r_iast0 F hw (n := 6) rfl dX8_notes_58 hi2 hf (fun M27 H28 o29 hw hf => ?_)
      exact Jj7 M27 hf _ _ _ (lv_sub hl [3, 0, 1, 2] rfl) hw
    · exact Jj7 M hf _ _ _ hl hw
theorem clX8_212 (F : Fx D cA RX8 cc nL ret p s m args meth c) (hw : Wd shM D cA ad H0 M H locs) (hl : lv_has ls nL lv) {v1 : Int32} {v2 : Int32} (hR : 1 ≤ R.frames ∧ 24 ≤ R.locals) (hrm : (rest.map fun v => v.category).sum ≤ 8) (hd : decode cc pc = .ok (.invokevirtual 212, 3)) {α : Type} {K : Mem → Option α} {res : α} (hf : bnd1 (fX8_notes v1 v2 M) K = some res) (kk : ∀ (M1 : Mem) (H1 : Heap) (locs1 : List Loc), Wd shM D cA ad H0 M1 H1 locs1 → K M1 = some res → W p l e R s m args below meth c H1 locs1 0 0 Q (F0 m (pc + 3) ls rest)) : W p l e R s m args below meth c H locs 0 0 Q (F0 m pc ls (.int v2 :: .int v1 :: .ref (ad 0) :: rest)) := by
  obtain ⟨M1, h1, h2⟩ := bnd1_some hf
  exact r_aftv hw (r_runV (As := [.int v1, .int v2]) F hw hl (cX8_notes_ok l D cA ad M v1 v2 M1 h1) cz8 (show shM[0]? = some (.inr (8, sf8)) from rfl) cwX8_212 hR hrm hd) (fun H1 o1 hw1 => kk M1 H1 o1 hw1 h2)
def fX8_reckons_L6 : Nat → Int32 → Int32 → Int32 → Mem → Option (Int32)
  | 0, _, _, _, _ => none
  | n + 1, v1, v2, v3, M =>
    if (4 : Int32) ≤ v3 then
      some v2
    else
      ix (((4 : Int32) * v1) + v3) 24 <|
      if (M 16 (((4 : Int32) * v1) + v3).toNatClampNeg) ≤ v2 then
        fX8_reckons_L6 n v1 v2 (v3 + (1 : Int32)) M
      else
        fX8_reckons_L6 n v1 (M 16 (((4 : Int32) * v1) + v3).toNatClampNeg) (v3 + (1 : Int32)) M
def fX8_reckons_L65 : Nat → Int32 → Mem → Option (Int32 × Mem)
  | 0, _, _ => none
  | n + 1, v2, M =>
    if v2 < (5 : Int32) then
      some (v2, M)
    else
      if (5 : Int32) ≤ (M 0 35) then
        some (v2, M)
      else
        wr M 0 35 ((M 0 35) + (1 : Int32)) fun M23 =>
        fX8_reckons_L65 n (v2 + (-5 : Int32)) M23
def fX8_reckons_L94 : Nat → Int32 → Mem → Option (Int32 × Mem)
  | 0, _, _ => none
  | n + 1, v2, M =>
    if v2 < (2 : Int32) then
      some (v2, M)
    else
      if (M 0 36) ≤ 0 then
        some (v2, M)
      else
        wr M 0 36 ((M 0 36) - (1 : Int32)) fun M34 =>
        fX8_reckons_L94 n (v2 + (-2 : Int32)) M34
def fX8_reckons_L122 : Nat → Int32 → Mem → Option (Int32 × Mem)
  | 0, _, _ => none
  | n + 1, v2, M =>
    if 0 ≤ v2 then
      some (v2, M)
    else
      if (4 : Int32) ≤ (M 0 36) then
        some (v2, M)
      else
        wr M 0 36 ((M 0 36) + (1 : Int32)) fun M45 =>
        fX8_reckons_L122 n (v2 + (2 : Int32)) M45
def fX8_reckons_L150 : Nat → Int32 → Mem → Option (Mem)
  | 0, _, _ => none
  | n + 1, v2, M =>
    if 0 ≤ v2 then
      some M
    else
      if (M 0 35) ≤ 0 then
        some M
      else
        wr M 0 35 ((M 0 35) - (1 : Int32)) fun M56 =>
        fX8_reckons_L150 n (v2 + (5 : Int32)) M56
def fX8_reckons (v1 : Int32) (M : Mem) : Option Mem :=
  bnd1 (fX8_reckons_L6 FUEL v1 (-1000 : Int32) (0 : Int32) M) fun w11 =>
  ix v1 6 <|
  wr M 0 35 (M 9 v1.toNatClampNeg) fun M17 =>
  wr M17 0 36 (M17 10 v1.toNatClampNeg) fun M20 =>
  bnd2 (fX8_reckons_L65 FUEL (w11 + (-6 : Int32)) M20) fun w29 M30 =>
  bnd2 (fX8_reckons_L94 FUEL w29 M30) fun w40 M41 =>
  bnd2 (fX8_reckons_L122 FUEL w40 M41) fun w51 M52 =>
  bnd1 (fX8_reckons_L150 FUEL w51 M52) fun M62 =>
  some M62
set_option maxHeartbeats 4000000 in
set_option maxRecDepth 100000 in
theorem wX8_reckons_L6 {p : Program} {l : Launch} {e : Env} {s : State} {m : MethodId} {args : Array Value} {below : List Frame} {meth : Method} {c : Code} {D : va_G} {cA : Nat → ClassId} {ad : Nat → Nat} {Q : State → Prop} (F : Fx D cA RX8 cX8_reckons 5 none p s m args meth c) : ∀ (n : Nat) (v1 : Int32) (v2 : Int32) (v3 : Int32) (M : Mem) (H : Heap) (o : List Loc) (ls : Array Slot), lv_has ls 5 [(0, .ref (ad 0)), (1, .int v1), (2, .int v2), (3, .int v3)] → Wd shM D cA ad s.heap M H o → ∀ (u2 : Int32), fX8_reckons_L6 n v1 v2 v3 M = some u2 → (∀ (H1 : Heap) (o1 : List Loc) (ls1 : Array Slot), lv_has ls1 5 [(2, .int u2), (0, .ref (ad 0)), (1, .int v1)] → Wd shM D cA ad s.heap M H1 o1 → W p l e (rz 0 0) s m args below meth c H1 o1 0 0 Q (F0 m 42 ls1 [])) → W p l e (rz 0 0) s m args below meth c H o 0 0 Q (F0 m 6 ls []) := by
  intro n
  induction n with
  | zero =>
    intro v1 v2 v3 M H o ls hl hw u2 hf kk
    cases hf
  | succ n ih =>
    intro v1 v2 v3 M H o ls hl hw u2 hf kk
    rw [fX8_reckons_L6] at hf
    refine lv_iload_n F.1 F.2.1 dX8_reckons_6 rfl (lv_at hl 3 rfl) ?_
    refine k_iconst_4 F dX8_reckons_7 ?_
    refine b_icmp_ge F dX8_reckons_8 (tgt := 42) (by decide) hf (fun hc10 hf => ?_) (fun hc10 hf => ?_)
    · cases hf
      exact kk _ _ _ (lv_sub hl [2, 0, 1] rfl) hw
    · refine lv_aload_n F.1 F.2.1 dX8_reckons_11 rfl (lv_at hl 0 rfl) ?_
      refine gX8_65 F hw rfl dX8_reckons_12 ?_
      refine k_iconst_4 F dX8_reckons_15 ?_
      refine lv_iload_n F.1 F.2.1 dX8_reckons_16 rfl (lv_at hl 1 rfl) ?_
      refine lv_imul F.1 F.2.1 dX8_reckons_17 ?_
      refine lv_iload_n F.1 F.2.1 dX8_reckons_18 rfl (lv_at hl 3 rfl) ?_
      refine lv_iadd F.1 F.2.1 dX8_reckons_19 ?_
      refine r_iald F hw (n := 24) rfl dX8_reckons_20 hf (fun hi3 hf => ?_)
      refine lv_istore F.1 F.2.1 dX8_reckons_21 hl (lv' := [(4, .int (M 16 (((4 : Int32) * v1) + v3).toNatClampNeg)), (0, .ref (ad 0)), (1, .int v1), (2, .int v2), (3, .int v3)]) (Nat.le_of_ble_eq_true rfl) rfl (fun ls4 hl => ?_)
      refine lv_iload F.1 F.2.1 dX8_reckons_23 (lv_at hl 0 rfl) ?_
      refine lv_iload_n F.1 F.2.1 dX8_reckons_25 rfl (lv_at hl 3 rfl) ?_
      refine b_icmp_le F dX8_reckons_26 (tgt := 34) (by decide) hf (fun hc9 hf => ?_) (fun hc9 hf => ?_)
      · refine lv_iload_n F.1 F.2.1 dX8_reckons_34 rfl (lv_at hl 3 rfl) ?_
        refine lv_istore_n F.1 F.2.1 dX8_reckons_35 rfl hl (lv' := [(2, .int v2), (4, .int (M 16 (((4 : Int32) * v1) + v3).toNatClampNeg)), (0, .ref (ad 0)), (1, .int v1), (3, .int v3)]) (Nat.le_of_ble_eq_true rfl) rfl (fun ls5 hl => ?_)
        refine lv_iinc F.1 F.2.1 dX8_reckons_36 hl (k := 4) rfl (ki_1 _) (lv' := [(3, .int (v3 + (1 : Int32))), (2, .int v2), (4, .int (M 16 (((4 : Int32) * v1) + v3).toNatClampNeg)), (0, .ref (ad 0)), (1, .int v1)]) (Nat.le_of_ble_eq_true rfl) rfl (fun ls6 hl => ?_)
        refine lv_goto F.1 F.2.1 dX8_reckons_39 (tgt := 6) (by decide) ?_
        exact ih v1 v2 (v3 + (1 : Int32)) M _ _ _ (lv_sub hl [3, 4, 1, 0] rfl) hw u2 hf kk
      · refine lv_iload F.1 F.2.1 dX8_reckons_29 (lv_at hl 0 rfl) ?_
        refine lv_goto F.1 F.2.1 dX8_reckons_31 (tgt := 35) (by decide) ?_
        refine lv_istore_n F.1 F.2.1 dX8_reckons_35 rfl hl (lv' := [(2, .int (M 16 (((4 : Int32) * v1) + v3).toNatClampNeg)), (4, .int (M 16 (((4 : Int32) * v1) + v3).toNatClampNeg)), (0, .ref (ad 0)), (1, .int v1), (3, .int v3)]) (Nat.le_of_ble_eq_true rfl) rfl (fun ls7 hl => ?_)
        refine lv_iinc F.1 F.2.1 dX8_reckons_36 hl (k := 4) rfl (ki_1 _) (lv' := [(3, .int (v3 + (1 : Int32))), (2, .int (M 16 (((4 : Int32) * v1) + v3).toNatClampNeg)), (4, .int (M 16 (((4 : Int32) * v1) + v3).toNatClampNeg)), (0, .ref (ad 0)), (1, .int v1)]) (Nat.le_of_ble_eq_true rfl) rfl (fun ls8 hl => ?_)
        refine lv_goto F.1 F.2.1 dX8_reckons_39 (tgt := 6) (by decide) ?_
        exact ih v1 (M 16 (((4 : Int32) * v1) + v3).toNatClampNeg) (v3 + (1 : Int32)) M _ _ _ (lv_sub hl [3, 4, 1, 0] rfl) hw u2 hf kk
set_option maxHeartbeats 4000000 in
set_option maxRecDepth 100000 in
theorem wX8_reckons_L65 {p : Program} {l : Launch} {e : Env} {s : State} {m : MethodId} {args : Array Value} {below : List Frame} {meth : Method} {c : Code} {D : va_G} {cA : Nat → ClassId} {ad : Nat → Nat} {Q : State → Prop} (F : Fx D cA RX8 cX8_reckons 5 none p s m args meth c) : ∀ (n : Nat) (v2 : Int32) (M : Mem) (H : Heap) (o : List Loc) (ls : Array Slot), lv_has ls 5 [(0, .ref (ad 0)), (2, .int v2)] → Wd shM D cA ad s.heap M H o → ∀ (u2 : Int32) (M' : Mem), fX8_reckons_L65 n v2 M = some (u2, M') → (∀ (H1 : Heap) (o1 : List Loc) (ls1 : Array Slot), lv_has ls1 5 [(2, .int u2), (0, .ref (ad 0))] → Wd shM D cA ad s.heap M' H1 o1 → W p l e (rz 0 0) s m args below meth c H1 o1 0 0 Q (F0 m 94 ls1 [])) → W p l e (rz 0 0) s m args below meth c H o 0 0 Q (F0 m 65 ls []) := by
  intro n
  induction n with
  | zero =>
    intro v2 M H o ls hl hw u2 M' hf kk
    cases hf
  | succ n ih =>
    intro v2 M H o ls hl hw u2 M' hf kk
    rw [fX8_reckons_L65] at hf
    refine lv_iload_n F.1 F.2.1 dX8_reckons_65 rfl (lv_at hl 1 rfl) ?_
    refine k_iconst_5 F dX8_reckons_66 ?_
    refine b_icmp_lt F dX8_reckons_67 (tgt := 94) (by decide) hf (fun hc28 hf => ?_) (fun hc28 hf => ?_)
    · cases hf
      exact kk _ _ _ (lv_sub hl [1, 0] rfl) hw
    · refine lv_aload_n F.1 F.2.1 dX8_reckons_70 rfl (lv_at hl 0 rfl) ?_
      refine gX8_200 F hw rfl dX8_reckons_71 ?_
      refine k_iconst_5 F dX8_reckons_74 ?_
      refine b_icmp_ge F dX8_reckons_75 (tgt := 94) (by decide) hf (fun hc27 hf => ?_) (fun hc27 hf => ?_)
      · cases hf
        exact kk _ _ _ (lv_sub hl [1, 0] rfl) hw
      · refine lv_aload_n F.1 F.2.1 dX8_reckons_78 rfl (lv_at hl 0 rfl) ?_
        refine lv_dup F.1 F.2.1 dX8_reckons_79 rfl ?_
        refine gX8_200 F hw rfl dX8_reckons_80 ?_
        refine k_iconst_1 F dX8_reckons_83 ?_
        refine lv_iadd F.1 F.2.1 dX8_reckons_84 ?_
        refine qX8_200 F hw rfl dX8_reckons_85 hf (fun M23 H24 o25 hw hf => ?_)
        refine lv_iinc F.1 F.2.1 dX8_reckons_88 hl (k := 1) rfl (ki_m5 _) (lv' := [(2, .int (v2 + (-5 : Int32))), (0, .ref (ad 0))]) (Nat.le_of_ble_eq_true rfl) rfl (fun ls26 hl => ?_)
        refine lv_goto F.1 F.2.1 dX8_reckons_91 (tgt := 65) (by decide) ?_
        exact ih (v2 + (-5 : Int32)) M23 _ _ _ (lv_sub hl [1, 0] rfl) hw u2 M' hf kk
set_option maxHeartbeats 4000000 in
set_option maxRecDepth 100000 in
theorem wX8_reckons_L94 {p : Program} {l : Launch} {e : Env} {s : State} {m : MethodId} {args : Array Value} {below : List Frame} {meth : Method} {c : Code} {D : va_G} {cA : Nat → ClassId} {ad : Nat → Nat} {Q : State → Prop} (F : Fx D cA RX8 cX8_reckons 5 none p s m args meth c) : ∀ (n : Nat) (v2 : Int32) (M : Mem) (H : Heap) (o : List Loc) (ls : Array Slot), lv_has ls 5 [(0, .ref (ad 0)), (2, .int v2)] → Wd shM D cA ad s.heap M H o → ∀ (u2 : Int32) (M' : Mem), fX8_reckons_L94 n v2 M = some (u2, M') → (∀ (H1 : Heap) (o1 : List Loc) (ls1 : Array Slot), lv_has ls1 5 [(2, .int u2), (0, .ref (ad 0))] → Wd shM D cA ad s.heap M' H1 o1 → W p l e (rz 0 0) s m args below meth c H1 o1 0 0 Q (F0 m 122 ls1 [])) → W p l e (rz 0 0) s m args below meth c H o 0 0 Q (F0 m 94 ls []) := by
  intro n
  induction n with
  | zero =>
    intro v2 M H o ls hl hw u2 M' hf kk
    cases hf
  | succ n ih =>
    intro v2 M H o ls hl hw u2 M' hf kk
    rw [fX8_reckons_L94] at hf
    refine lv_iload_n F.1 F.2.1 dX8_reckons_94 rfl (lv_at hl 1 rfl) ?_
    refine k_iconst_2 F dX8_reckons_95 ?_
    refine b_icmp_lt F dX8_reckons_96 (tgt := 122) (by decide) hf (fun hc39 hf => ?_) (fun hc39 hf => ?_)
    · cases hf
      exact kk _ _ _ (lv_sub hl [1, 0] rfl) hw
    · refine lv_aload_n F.1 F.2.1 dX8_reckons_99 rfl (lv_at hl 0 rfl) ?_
      refine gX8_203 F hw rfl dX8_reckons_100 ?_
      refine b_if_le F dX8_reckons_103 (tgt := 122) (by decide) hf (fun hc38 hf => ?_) (fun hc38 hf => ?_)
      · cases hf
        exact kk _ _ _ (lv_sub hl [1, 0] rfl) hw
      · refine lv_aload_n F.1 F.2.1 dX8_reckons_106 rfl (lv_at hl 0 rfl) ?_
        refine lv_dup F.1 F.2.1 dX8_reckons_107 rfl ?_
        refine gX8_203 F hw rfl dX8_reckons_108 ?_
        refine k_iconst_1 F dX8_reckons_111 ?_
        refine lv_isub F.1 F.2.1 dX8_reckons_112 ?_
        refine qX8_203 F hw rfl dX8_reckons_113 hf (fun M34 H35 o36 hw hf => ?_)
        refine lv_iinc F.1 F.2.1 dX8_reckons_116 hl (k := 1) rfl (ki_m2 _) (lv' := [(2, .int (v2 + (-2 : Int32))), (0, .ref (ad 0))]) (Nat.le_of_ble_eq_true rfl) rfl (fun ls37 hl => ?_)
        refine lv_goto F.1 F.2.1 dX8_reckons_119 (tgt := 94) (by decide) ?_
        exact ih (v2 + (-2 : Int32)) M34 _ _ _ (lv_sub hl [1, 0] rfl) hw u2 M' hf kk
set_option maxHeartbeats 4000000 in
set_option maxRecDepth 100000 in
theorem wX8_reckons_L122 {p : Program} {l : Launch} {e : Env} {s : State} {m : MethodId} {args : Array Value} {below : List Frame} {meth : Method} {c : Code} {D : va_G} {cA : Nat → ClassId} {ad : Nat → Nat} {Q : State → Prop} (F : Fx D cA RX8 cX8_reckons 5 none p s m args meth c) : ∀ (n : Nat) (v2 : Int32) (M : Mem) (H : Heap) (o : List Loc) (ls : Array Slot), lv_has ls 5 [(0, .ref (ad 0)), (2, .int v2)] → Wd shM D cA ad s.heap M H o → ∀ (u2 : Int32) (M' : Mem), fX8_reckons_L122 n v2 M = some (u2, M') → (∀ (H1 : Heap) (o1 : List Loc) (ls1 : Array Slot), lv_has ls1 5 [(2, .int u2), (0, .ref (ad 0))] → Wd shM D cA ad s.heap M' H1 o1 → W p l e (rz 0 0) s m args below meth c H1 o1 0 0 Q (F0 m 150 ls1 [])) → W p l e (rz 0 0) s m args below meth c H o 0 0 Q (F0 m 122 ls []) := by
  intro n
  induction n with
  | zero =>
    intro v2 M H o ls hl hw u2 M' hf kk
    cases hf
  | succ n ih =>
    intro v2 M H o ls hl hw u2 M' hf kk
    rw [fX8_reckons_L122] at hf
    refine lv_iload_n F.1 F.2.1 dX8_reckons_122 rfl (lv_at hl 1 rfl) ?_
    refine b_if_ge F dX8_reckons_123 (tgt := 150) (by decide) hf (fun hc50 hf => ?_) (fun hc50 hf => ?_)
    · cases hf
      exact kk _ _ _ (lv_sub hl [1, 0] rfl) hw
    · refine lv_aload_n F.1 F.2.1 dX8_reckons_126 rfl (lv_at hl 0 rfl) ?_
      refine gX8_203 F hw rfl dX8_reckons_127 ?_
      refine k_iconst_4 F dX8_reckons_130 ?_
      refine b_icmp_ge F dX8_reckons_131 (tgt := 150) (by decide) hf (fun hc49 hf => ?_) (fun hc49 hf => ?_)
      · cases hf
        exact kk _ _ _ (lv_sub hl [1, 0] rfl) hw
      · refine lv_aload_n F.1 F.2.1 dX8_reckons_134 rfl (lv_at hl 0 rfl) ?_
        refine lv_dup F.1 F.2.1 dX8_reckons_135 rfl ?_
        refine gX8_203 F hw rfl dX8_reckons_136 ?_
        refine k_iconst_1 F dX8_reckons_139 ?_
        refine lv_iadd F.1 F.2.1 dX8_reckons_140 ?_
        refine qX8_203 F hw rfl dX8_reckons_141 hf (fun M45 H46 o47 hw hf => ?_)
        refine lv_iinc F.1 F.2.1 dX8_reckons_144 hl (k := 1) rfl (ki_2 _) (lv' := [(2, .int (v2 + (2 : Int32))), (0, .ref (ad 0))]) (Nat.le_of_ble_eq_true rfl) rfl (fun ls48 hl => ?_)
        refine lv_goto F.1 F.2.1 dX8_reckons_147 (tgt := 122) (by decide) ?_
        exact ih (v2 + (2 : Int32)) M45 _ _ _ (lv_sub hl [1, 0] rfl) hw u2 M' hf kk
set_option maxHeartbeats 4000000 in
set_option maxRecDepth 100000 in
theorem wX8_reckons_L150 {p : Program} {l : Launch} {e : Env} {s : State} {m : MethodId} {args : Array Value} {below : List Frame} {meth : Method} {c : Code} {D : va_G} {cA : Nat → ClassId} {ad : Nat → Nat} {Q : State → Prop} (F : Fx D cA RX8 cX8_reckons 5 none p s m args meth c) : ∀ (n : Nat) (v2 : Int32) (M : Mem) (H : Heap) (o : List Loc) (ls : Array Slot), lv_has ls 5 [(0, .ref (ad 0)), (2, .int v2)] → Wd shM D cA ad s.heap M H o → ∀ (M' : Mem), fX8_reckons_L150 n v2 M = some M' → (∀ (H1 : Heap) (o1 : List Loc) (ls1 : Array Slot), lv_has ls1 5 [] → Wd shM D cA ad s.heap M' H1 o1 → W p l e (rz 0 0) s m args below meth c H1 o1 0 0 Q (F0 m 177 ls1 [])) → W p l e (rz 0 0) s m args below meth c H o 0 0 Q (F0 m 150 ls []) := by
  intro n
  induction n with
  | zero =>
    intro v2 M H o ls hl hw M' hf kk
    cases hf
  | succ n ih =>
    intro v2 M H o ls hl hw M' hf kk
    rw [fX8_reckons_L150] at hf
    refine lv_iload_n F.1 F.2.1 dX8_reckons_150 rfl (lv_at hl 1 rfl) ?_
    refine b_if_ge F dX8_reckons_151 (tgt := 177) (by decide) hf (fun hc61 hf => ?_) (fun hc61 hf => ?_)
    · cases hf
      exact kk _ _ _ (lv_sub hl [] rfl) hw
    · refine lv_aload_n F.1 F.2.1 dX8_reckons_154 rfl (lv_at hl 0 rfl) ?_
      refine gX8_200 F hw rfl dX8_reckons_155 ?_
      refine b_if_le F dX8_reckons_158 (tgt := 177) (by decide) hf (fun hc60 hf => ?_) (fun hc60 hf => ?_)
      · cases hf
        exact kk _ _ _ (lv_sub hl [] rfl) hw
      · refine lv_aload_n F.1 F.2.1 dX8_reckons_161 rfl (lv_at hl 0 rfl) ?_
        refine lv_dup F.1 F.2.1 dX8_reckons_162 rfl ?_
        refine gX8_200 F hw rfl dX8_reckons_163 ?_
        refine k_iconst_1 F dX8_reckons_166 ?_
        refine lv_isub F.1 F.2.1 dX8_reckons_167 ?_
        refine qX8_200 F hw rfl dX8_reckons_168 hf (fun M56 H57 o58 hw hf => ?_)
        refine lv_iinc F.1 F.2.1 dX8_reckons_171 hl (k := 1) rfl (ki_5 _) (lv' := [(2, .int (v2 + (5 : Int32))), (0, .ref (ad 0))]) (Nat.le_of_ble_eq_true rfl) rfl (fun ls59 hl => ?_)
        refine lv_goto F.1 F.2.1 dX8_reckons_174 (tgt := 150) (by decide) ?_
        exact ih (v2 + (5 : Int32)) M56 _ _ _ (lv_sub hl [1, 0] rfl) hw  M' hf kk
set_option maxHeartbeats 4000000 in
set_option maxRecDepth 100000 in
theorem cX8_reckons_ok (l : Launch) (D : va_G) (cA : Nat → ClassId) (ad : Nat → Nat) (M : Mem) (v1 : Int32) (M' : Mem) (hf : fX8_reckons v1 M = some M') : Ctg l yX8_reckons cX8_reckons 5 none 0 0 shM D cA ad [.ref (ad 0), .int v1] M (Qzv shM D cA ad M') := by
  refine ct_in (by decide) (Nat.le_of_ble_eq_true rfl) ?_
  intro p e s m below meth c ls F hl hw
  have hl : lv_has ls 5 [(0, .ref (ad 0)), (1, .int v1)] := hl
  unfold fX8_reckons at hf
  refine k_sipush_m1000 F dX8_reckons_0 ?_
  refine lv_istore_n F.1 F.2.1 dX8_reckons_3 rfl hl (lv' := [(2, .int (-1000 : Int32)), (0, .ref (ad 0)), (1, .int v1)]) (Nat.le_of_ble_eq_true rfl) rfl (fun ls1 hl => ?_)
  refine k_iconst_0 F dX8_reckons_4 ?_
  refine lv_istore_n F.1 F.2.1 dX8_reckons_5 rfl hl (lv' := [(3, .int (0 : Int32)), (2, .int (-1000 : Int32)), (0, .ref (ad 0)), (1, .int v1)]) (Nat.le_of_ble_eq_true rfl) rfl (fun ls2 hl => ?_)
  obtain ⟨w11, hq70, hf⟩ := bnd1_some hf
  refine wX8_reckons_L6 F FUEL v1 (-1000 : Int32) (0 : Int32) M _ _ _ (lv_sub hl [2, 3, 1, 0] rfl) hw w11 hq70 (fun H12 o13 ls14 hl hw => ?_)
  refine lv_iinc F.1 F.2.1 dX8_reckons_42 hl (k := 0) rfl (ki_m6 _) (lv' := [(2, .int (w11 + (-6 : Int32))), (0, .ref (ad 0)), (1, .int v1)]) (Nat.le_of_ble_eq_true rfl) rfl (fun ls15 hl => ?_)
  refine lv_aload_n F.1 F.2.1 dX8_reckons_45 rfl (lv_at hl 1 rfl) ?_
  refine lv_aload_n F.1 F.2.1 dX8_reckons_46 rfl (lv_at hl 1 rfl) ?_
  refine gX8_44 F hw rfl dX8_reckons_47 ?_
  refine lv_iload_n F.1 F.2.1 dX8_reckons_50 rfl (lv_at hl 2 rfl) ?_
  refine r_iald F hw (n := 6) rfl dX8_reckons_51 hf (fun hi16 hf => ?_)
  refine qX8_200 F hw rfl dX8_reckons_52 hf (fun M17 H18 o19 hw hf => ?_)
  refine lv_aload_n F.1 F.2.1 dX8_reckons_55 rfl (lv_at hl 1 rfl) ?_
  refine lv_aload_n F.1 F.2.1 dX8_reckons_56 rfl (lv_at hl 1 rfl) ?_
  refine gX8_47 F hw rfl dX8_reckons_57 ?_
  refine lv_iload_n F.1 F.2.1 dX8_reckons_60 rfl (lv_at hl 2 rfl) ?_
  refine r_iald0 F hw (n := 6) rfl dX8_reckons_61 hi16 ?_
  refine qX8_203 F hw rfl dX8_reckons_62 hf (fun M20 H21 o22 hw hf => ?_)
  obtain ⟨w29, M30, hq69, hf⟩ := bnd2_some hf
  refine wX8_reckons_L65 F FUEL (w11 + (-6 : Int32)) M20 _ _ _ (lv_sub hl [1, 0] rfl) hw w29 M30 hq69 (fun H31 o32 ls33 hl hw => ?_)
  obtain ⟨w40, M41, hq68, hf⟩ := bnd2_some hf
  refine wX8_reckons_L94 F FUEL w29 M30 _ _ _ (lv_sub hl [1, 0] rfl) hw w40 M41 hq68 (fun H42 o43 ls44 hl hw => ?_)
  obtain ⟨w51, M52, hq67, hf⟩ := bnd2_some hf
  refine wX8_reckons_L122 F FUEL w40 M41 _ _ _ (lv_sub hl [1, 0] rfl) hw w51 M52 hq67 (fun H53 o54 ls55 hl hw => ?_)
  obtain ⟨M62, hq66, hf⟩ := bnd1_some hf
  refine wX8_reckons_L150 F FUEL w51 M52 _ _ _ (lv_sub hl [1, 0] rfl) hw M62 hq66 (fun H63 o64 ls65 hl hw => ?_)
  exact r_vret_w F hw dX8_reckons_177 hf
theorem clX8_206 (F : Fx D cA RX8 cc nL ret p s m args meth c) (hw : Wd shM D cA ad H0 M H locs) (hl : lv_has ls nL lv) {v1 : Int32} (hR : 1 ≤ R.frames ∧ 24 ≤ R.locals) (hrm : (rest.map fun v => v.category).sum ≤ 8) (hd : decode cc pc = .ok (.invokevirtual 206, 3)) {α : Type} {K : Mem → Option α} {res : α} (hf : bnd1 (fX8_reckons v1 M) K = some res) (kk : ∀ (M1 : Mem) (H1 : Heap) (locs1 : List Loc), Wd shM D cA ad H0 M1 H1 locs1 → K M1 = some res → W p l e R s m args below meth c H1 locs1 0 0 Q (F0 m (pc + 3) ls rest)) : W p l e R s m args below meth c H locs 0 0 Q (F0 m pc ls (.int v1 :: .ref (ad 0) :: rest)) := by
  obtain ⟨M1, h1, h2⟩ := bnd1_some hf
  exact r_aftv hw (r_runV (As := [.int v1]) F hw hl (cX8_reckons_ok l D cA ad M v1 M1 h1) cz8 (show shM[0]? = some (.inr (8, sf8)) from rfl) cwX8_206 hR hrm hd) (fun H1 o1 hw1 => kk M1 H1 o1 hw1 h2)
def fX8_adapts (v1 : Int32) (M : Mem) : Option Mem :=
  bnd1 (fX8_reckons v1 M) fun M4 =>
  ix v1 6 <|
  jn (
    wr M4 15 v1.toNatClampNeg (0 : Int32) fun M12 =>
    bnd2 (fX8_answers v1 M12) fun t19 M18 =>
    if t19 = 0 then
      some M18
    else
      if (M18 12 v1.toNatClampNeg) = (1 : Int32) then
        wr M18 9 v1.toNatClampNeg (M4 0 35) fun M20 =>
        wr M20 10 v1.toNatClampNeg (M4 0 36) fun M23 =>
        some M23
      else
        some M18) fun j11 =>
  if (M4 0 35) = (M4 9 v1.toNatClampNeg) then
    if (M4 0 36) = (M4 10 v1.toNatClampNeg) then
      some M4
    else
      j11
  else
    j11
set_option maxHeartbeats 4000000 in
set_option maxRecDepth 100000 in
theorem cX8_adapts_ok (l : Launch) (D : va_G) (cA : Nat → ClassId) (ad : Nat → Nat) (M : Mem) (v1 : Int32) (M' : Mem) (hf : fX8_adapts v1 M = some M') : Ctg l yX8_adapts cX8_adapts 4 none 2 48 shM D cA ad [.ref (ad 0), .int v1] M (Qzv shM D cA ad M') := by
  refine ct_in (by decide) (Nat.le_of_ble_eq_true rfl) ?_
  intro p e s m below meth c ls F hl hw
  have hl : lv_has ls 4 [(0, .ref (ad 0)), (1, .int v1)] := hl
  unfold fX8_adapts at hf
  refine lv_aload_n F.1 F.2.1 dX8_adapts_0 rfl (lv_at hl 0 rfl) ?_
  refine lv_iload_n F.1 F.2.1 dX8_adapts_1 rfl (lv_at hl 1 rfl) ?_
  refine clX8_206 F hw hl ⟨Nat.le_of_ble_eq_true rfl, Nat.le_of_ble_eq_true rfl⟩ (Nat.le_of_ble_eq_true rfl) dX8_adapts_2 hf (fun M4 H1 o2 hw hf => ?_)
  refine lv_aload_n F.1 F.2.1 dX8_adapts_5 rfl (lv_at hl 0 rfl) ?_
  refine gX8_200 F hw rfl dX8_adapts_6 ?_
  refine lv_istore_n F.1 F.2.1 dX8_adapts_9 rfl hl (lv' := [(2, .int (M4 0 35)), (0, .ref (ad 0)), (1, .int v1)]) (Nat.le_of_ble_eq_true rfl) rfl (fun ls5 hl => ?_)
  refine lv_aload_n F.1 F.2.1 dX8_adapts_10 rfl (lv_at hl 1 rfl) ?_
  refine gX8_203 F hw rfl dX8_adapts_11 ?_
  refine lv_istore_n F.1 F.2.1 dX8_adapts_14 rfl hl (lv' := [(3, .int (M4 0 36)), (2, .int (M4 0 35)), (0, .ref (ad 0)), (1, .int v1)]) (Nat.le_of_ble_eq_true rfl) rfl (fun ls6 hl => ?_)
  refine lv_iload_n F.1 F.2.1 dX8_adapts_15 rfl (lv_at hl 1 rfl) ?_
  refine lv_aload_n F.1 F.2.1 dX8_adapts_16 rfl (lv_at hl 2 rfl) ?_
  refine gX8_44 F hw rfl dX8_adapts_17 ?_
  refine lv_iload_n F.1 F.2.1 dX8_adapts_20 rfl (lv_at hl 3 rfl) ?_
  refine r_iald F hw (n := 6) rfl dX8_adapts_21 hf (fun hi7 hf => ?_)
  refine jn_go0 (∀ (H8 : Heap) (o9 : List Loc) (ls10 : Array Slot), lv_has ls10 4 [(3, .int (M4 0 36)), (2, .int (M4 0 35)), (0, .ref (ad 0)), (1, .int v1)] → Wd shM D cA ad s.heap M4 H8 o9 → W p l e (rz 2 48) s m ([.ref (ad 0), .int v1] : List Value).toArray below meth c H8 o9 0 0 (MQ below (Qzv shM D cA ad M') ([.ref (ad 0), .int v1] : List Value).toArray s 0 0 (Az shM ad)) (F0 m 36 ls10 [])) hf (fun hf H8 o9 ls10 hl hw => ?_) (fun j11 Jj11 hf => ?_)
  · refine lv_aload_n F.1 F.2.1 dX8_adapts_36 rfl (lv_at hl 2 rfl) ?_
    refine gX8_62 F hw rfl dX8_adapts_37 ?_
    refine lv_iload_n F.1 F.2.1 dX8_adapts_40 rfl (lv_at hl 3 rfl) ?_
    refine k_iconst_0 F dX8_adapts_41 ?_
    refine r_iast0 F hw (n := 6) rfl dX8_adapts_42 hi7 hf (fun M12 H13 o14 hw hf => ?_)
    refine lv_aload_n F.1 F.2.1 dX8_adapts_43 rfl (lv_at hl 2 rfl) ?_
    refine lv_iload_n F.1 F.2.1 dX8_adapts_44 rfl (lv_at hl 3 rfl) ?_
    refine clX8_209 F hw hl ⟨Nat.le_of_ble_eq_true rfl, Nat.le_of_ble_eq_true rfl⟩ (Nat.le_of_ble_eq_true rfl) dX8_adapts_45 hf (fun t19 M18 H15 o16 hw hn17 hf => ?_)
    refine b_if_eq F dX8_adapts_48 (tgt := 75) (by decide) hf (fun hc27 hf => ?_) (fun hc27 hf => ?_)
    · exact r_vret_w F hw dX8_adapts_75 hf
    · refine lv_aload_n F.1 F.2.1 dX8_adapts_51 rfl (lv_at hl 2 rfl) ?_
      refine gX8_53 F hw rfl dX8_adapts_52 ?_
      refine lv_iload_n F.1 F.2.1 dX8_adapts_55 rfl (lv_at hl 3 rfl) ?_
      refine r_iald0 F hw (n := 6) rfl dX8_adapts_56 hi7 ?_
      refine k_iconst_1 F dX8_adapts_57 ?_
      refine b_icmp_ne F dX8_adapts_58 (tgt := 75) (by decide) hf (fun hc26 hf => ?_) (fun hc26 hf => ?_)
      · refine lv_aload_n F.1 F.2.1 dX8_adapts_61 rfl (lv_at hl 2 rfl) ?_
        refine gX8_44 F hw rfl dX8_adapts_62 ?_
        refine lv_iload_n F.1 F.2.1 dX8_adapts_65 rfl (lv_at hl 3 rfl) ?_
        refine lv_iload_n F.1 F.2.1 dX8_adapts_66 rfl (lv_at hl 1 rfl) ?_
        refine r_iast0 F hw (n := 6) rfl dX8_adapts_67 hi7 hf (fun M20 H21 o22 hw hf => ?_)
        refine lv_aload_n F.1 F.2.1 dX8_adapts_68 rfl (lv_at hl 2 rfl) ?_
        refine gX8_47 F hw rfl dX8_adapts_69 ?_
        refine lv_iload_n F.1 F.2.1 dX8_adapts_72 rfl (lv_at hl 3 rfl) ?_
        refine lv_iload_n F.1 F.2.1 dX8_adapts_73 rfl (lv_at hl 0 rfl) ?_
        refine r_iast0 F hw (n := 6) rfl dX8_adapts_74 hi7 hf (fun M23 H24 o25 hw hf => ?_)
        exact r_vret_w F hw dX8_adapts_75 hf
      · exact r_vret_w F hw dX8_adapts_75 hf
  · refine b_icmp_ne F dX8_adapts_22 (tgt := 36) (by decide) hf (fun hc29 hf => ?_) (fun hc29 hf => ?_)
    · refine lv_iload_n F.1 F.2.1 dX8_adapts_25 rfl (lv_at hl 0 rfl) ?_
      refine lv_aload_n F.1 F.2.1 dX8_adapts_26 rfl (lv_at hl 2 rfl) ?_
      refine gX8_47 F hw rfl dX8_adapts_27 ?_
      refine lv_iload_n F.1 F.2.1 dX8_adapts_30 rfl (lv_at hl 3 rfl) ?_
      refine r_iald0 F hw (n := 6) rfl dX8_adapts_31 hi7 ?_
      refine b_icmp_ne F dX8_adapts_32 (tgt := 36) (by decide) hf (fun hc28 hf => ?_) (fun hc28 hf => ?_)
      · exact r_vret_w F hw dX8_adapts_35 hf
      · exact Jj11 hf _ _ _ hl hw
    · exact Jj11 hf _ _ _ hl hw
theorem clX8_216 (F : Fx D cA RX8 cc nL ret p s m args meth c) (hw : Wd shM D cA ad H0 M H locs) (hl : lv_has ls nL lv) {v1 : Int32} (hR : 3 ≤ R.frames ∧ 71 ≤ R.locals) (hrm : (rest.map fun v => v.category).sum ≤ 8) (hd : decode cc pc = .ok (.invokevirtual 216, 3)) {α : Type} {K : Mem → Option α} {res : α} (hf : bnd1 (fX8_adapts v1 M) K = some res) (kk : ∀ (M1 : Mem) (H1 : Heap) (locs1 : List Loc), Wd shM D cA ad H0 M1 H1 locs1 → K M1 = some res → W p l e R s m args below meth c H1 locs1 0 0 Q (F0 m (pc + 3) ls rest)) : W p l e R s m args below meth c H locs 0 0 Q (F0 m pc ls (.int v1 :: .ref (ad 0) :: rest)) := by
  obtain ⟨M1, h1, h2⟩ := bnd1_some hf
  exact r_aftv hw (r_runV (As := [.int v1]) F hw hl (cX8_adapts_ok l D cA ad M v1 M1 h1) cz8 (show shM[0]? = some (.inr (8, sf8)) from rfl) cwX8_216 hR hrm hd) (fun H1 o1 hw1 => kk M1 H1 o1 hw1 h2)
def fX8_closes (M : Mem) : Option (Int32 × Mem) :=
  if (M 25 (0 : Int32).toNatClampNeg) = (-1 : Int32) then
    ix (M 24 (0 : Int32).toNatClampNeg) 6 <| wr M 14 (M 24 (0 : Int32).toNatClampNeg).toNatClampNeg (63 : Int32) fun M48 =>
    wr M48 15 (M 24 (0 : Int32).toNatClampNeg).toNatClampNeg (0 : Int32) fun M51 =>
    wr M51 29 (1 : Int32).toNatClampNeg ((M51 29 (1 : Int32).toNatClampNeg) + (1 : Int32)) fun M54 =>
    bnd2 (fX8_answers (M 24 (0 : Int32).toNatClampNeg) M54) fun t61 M60 =>
    if t61 = 0 then
      some ((1 : Int32), M60)
    else
      wr M60 12 (M 24 (0 : Int32).toNatClampNeg).toNatClampNeg (1 : Int32) fun M62 =>
      wr M62 11 (M 24 (0 : Int32).toNatClampNeg).toNatClampNeg (0 : Int32) fun M65 =>
      some ((1 : Int32), M65)
  else
    bnd1 (fX8_isOn (M 24 (0 : Int32).toNatClampNeg) (M 25 (0 : Int32).toNatClampNeg) M) fun t6 =>
    if t6 = 0 then
      wr M 29 (2 : Int32).toNatClampNeg ((M 29 (2 : Int32).toNatClampNeg) + (1 : Int32)) fun M43 =>
      some ((0 : Int32), M43)
    else
      ix (M 24 (0 : Int32).toNatClampNeg) 6 <|
      bnd1 (fX8_far (M 24 (0 : Int32).toNatClampNeg) (M 25 (0 : Int32).toNatClampNeg) M) fun t11 =>
      wr M 18 (M 24 (0 : Int32).toNatClampNeg).toNatClampNeg ((M 18 (M 24 (0 : Int32).toNatClampNeg).toNatClampNeg) + (t11 - (1 : Int32))) fun M12 =>
      wr M12 14 (M 24 (0 : Int32).toNatClampNeg).toNatClampNeg (M 25 (0 : Int32).toNatClampNeg) fun M15 =>
      wr M15 17 (M 24 (0 : Int32).toNatClampNeg).toNatClampNeg ((M15 17 (M 24 (0 : Int32).toNatClampNeg).toNatClampNeg) + (1 : Int32)) fun M18 =>
      wr M18 29 (0 : Int32).toNatClampNeg ((M18 29 (0 : Int32).toNatClampNeg) + (1 : Int32)) fun M21 =>
      bnd1 (fX8_gateBehind (-1 : Int32) M21) fun t27 =>
      ix t27 4 <|
      wr M21 7 t27.toNatClampNeg ((M21 7 t27.toNatClampNeg) + (1 : Int32)) fun M30 =>
      ix t27 1560 <|
      bnd1 (fX8_notes (M 24 (0 : Int32).toNatClampNeg) (M30 28 t27.toNatClampNeg) M30) fun M37 =>
      if (M37 15 (M 24 (0 : Int32).toNatClampNeg).toNatClampNeg) = (4 : Int32) then
        bnd1 (fX8_adapts (M 24 (0 : Int32).toNatClampNeg) M37) fun M41 =>
        some ((1 : Int32), M41)
      else
        some ((1 : Int32), M37)
set_option maxHeartbeats 4000000 in
set_option maxRecDepth 100000 in
theorem cX8_closes_ok (l : Launch) (D : va_G) (cA : Nat → ClassId) (ad : Nat → Nat) (M : Mem)  (r : Int32) (M' : Mem) (hf : fX8_closes M = some (r, M')) : Ctg l yX8_closes cX8_closes 4 (some .int) 3 71 shM D cA ad [.ref (ad 0)] M (Qzi shM D cA ad .int r M') := by
  refine ct_in (by decide) (Nat.le_of_ble_eq_true rfl) ?_
  intro p e s m below meth c ls F hl hw
  have hl : lv_has ls 4 [(0, .ref (ad 0))] := hl
  unfold fX8_closes at hf
  refine lv_aload_n F.1 F.2.1 dX8_closes_0 rfl (lv_at hl 0 rfl) ?_
  refine gX8_89 F hw rfl dX8_closes_1 ?_
  refine k_iconst_0 F dX8_closes_4 ?_
  refine r_iald0 F hw (n := 390) rfl dX8_closes_5 (by unfold vp_in; decide) ?_
  refine lv_istore_n F.1 F.2.1 dX8_closes_6 rfl hl (lv' := [(1, .int (M 24 (0 : Int32).toNatClampNeg)), (0, .ref (ad 0))]) (Nat.le_of_ble_eq_true rfl) rfl (fun ls1 hl => ?_)
  refine lv_aload_n F.1 F.2.1 dX8_closes_7 rfl (lv_at hl 1 rfl) ?_
  refine gX8_92 F hw rfl dX8_closes_8 ?_
  refine k_iconst_0 F dX8_closes_11 ?_
  refine r_iald0 F hw (n := 390) rfl dX8_closes_12 (by unfold vp_in; decide) ?_
  refine lv_istore_n F.1 F.2.1 dX8_closes_13 rfl hl (lv' := [(2, .int (M 25 (0 : Int32).toNatClampNeg)), (1, .int (M 24 (0 : Int32).toNatClampNeg)), (0, .ref (ad 0))]) (Nat.le_of_ble_eq_true rfl) rfl (fun ls2 hl => ?_)
  refine lv_iload_n F.1 F.2.1 dX8_closes_14 rfl (lv_at hl 0 rfl) ?_
  refine k_iconst_m1 F dX8_closes_15 ?_
  refine b_icmp_ne F dX8_closes_16 (tgt := 68) (by decide) hf (fun hc69 hf => ?_) (fun hc69 hf => ?_)
  · refine lv_aload_n F.1 F.2.1 dX8_closes_19 rfl (lv_at hl 2 rfl) ?_
    refine gX8_59 F hw rfl dX8_closes_20 ?_
    refine lv_iload_n F.1 F.2.1 dX8_closes_23 rfl (lv_at hl 1 rfl) ?_
    refine k_bipush_63 F dX8_closes_24 ?_
    refine r_iast F hw (n := 6) rfl dX8_closes_26 hf (fun hi47 M48 H49 o50 hw hf => ?_)
    refine lv_aload_n F.1 F.2.1 dX8_closes_27 rfl (lv_at hl 2 rfl) ?_
    refine gX8_62 F hw rfl dX8_closes_28 ?_
    refine lv_iload_n F.1 F.2.1 dX8_closes_31 rfl (lv_at hl 1 rfl) ?_
    refine k_iconst_0 F dX8_closes_32 ?_
    refine r_iast0 F hw (n := 6) rfl dX8_closes_33 hi47 hf (fun M51 H52 o53 hw hf => ?_)
    refine lv_aload_n F.1 F.2.1 dX8_closes_34 rfl (lv_at hl 2 rfl) ?_
    refine gX8_104 F hw rfl dX8_closes_35 ?_
    refine k_iconst_1 F dX8_closes_38 ?_
    refine lv_dup2_11 F.1 F.2.1 dX8_closes_39 rfl rfl ?_
    refine r_iald0 F hw (n := 6) rfl dX8_closes_40 (by unfold vp_in; decide) ?_
    refine k_iconst_1 F dX8_closes_41 ?_
    refine lv_iadd F.1 F.2.1 dX8_closes_42 ?_
    refine r_iast0 F hw (n := 6) rfl dX8_closes_43 (by unfold vp_in; decide) hf (fun M54 H55 o56 hw hf => ?_)
    refine lv_aload_n F.1 F.2.1 dX8_closes_44 rfl (lv_at hl 2 rfl) ?_
    refine lv_iload_n F.1 F.2.1 dX8_closes_45 rfl (lv_at hl 1 rfl) ?_
    refine clX8_209 F hw hl ⟨Nat.le_of_ble_eq_true rfl, Nat.le_of_ble_eq_true rfl⟩ (Nat.le_of_ble_eq_true rfl) dX8_closes_46 hf (fun t61 M60 H57 o58 hw hn59 hf => ?_)
    refine b_if_eq F dX8_closes_49 (tgt := 66) (by decide) hf (fun hc68 hf => ?_) (fun hc68 hf => ?_)
    · refine k_iconst_1 F dX8_closes_66 ?_
      exact r_iret_w F hw (vp_nar_int _) dX8_closes_67 hf
    · refine lv_aload_n F.1 F.2.1 dX8_closes_52 rfl (lv_at hl 2 rfl) ?_
      refine gX8_53 F hw rfl dX8_closes_53 ?_
      refine lv_iload_n F.1 F.2.1 dX8_closes_56 rfl (lv_at hl 1 rfl) ?_
      refine k_iconst_1 F dX8_closes_57 ?_
      refine r_iast0 F hw (n := 6) rfl dX8_closes_58 hi47 hf (fun M62 H63 o64 hw hf => ?_)
      refine lv_aload_n F.1 F.2.1 dX8_closes_59 rfl (lv_at hl 2 rfl) ?_
      refine gX8_50 F hw rfl dX8_closes_60 ?_
      refine lv_iload_n F.1 F.2.1 dX8_closes_63 rfl (lv_at hl 1 rfl) ?_
      refine k_iconst_0 F dX8_closes_64 ?_
      refine r_iast0 F hw (n := 6) rfl dX8_closes_65 hi47 hf (fun M65 H66 o67 hw hf => ?_)
      refine k_iconst_1 F dX8_closes_66 ?_
      exact r_iret_w F hw (vp_nar_int _) dX8_closes_67 hf
  · refine lv_aload_n F.1 F.2.1 dX8_closes_68 rfl (lv_at hl 2 rfl) ?_
    refine lv_iload_n F.1 F.2.1 dX8_closes_69 rfl (lv_at hl 1 rfl) ?_
    refine lv_iload_n F.1 F.2.1 dX8_closes_70 rfl (lv_at hl 0 rfl) ?_
    refine clX8_190 F hw hl ⟨Nat.le_of_ble_eq_true rfl, Nat.le_of_ble_eq_true rfl⟩ (Nat.le_of_ble_eq_true rfl) dX8_closes_71 hf (fun t6 H3 o4 hw hn5 hf => ?_)
    refine b_if_ne F dX8_closes_74 (tgt := 89) (by decide) hf (fun hc46 hf => ?_) (fun hc46 hf => ?_)
    · refine lv_aload_n F.1 F.2.1 dX8_closes_77 rfl (lv_at hl 2 rfl) ?_
      refine gX8_104 F hw rfl dX8_closes_78 ?_
      refine k_iconst_2 F dX8_closes_81 ?_
      refine lv_dup2_11 F.1 F.2.1 dX8_closes_82 rfl rfl ?_
      refine r_iald0 F hw (n := 6) rfl dX8_closes_83 (by unfold vp_in; decide) ?_
      refine k_iconst_1 F dX8_closes_84 ?_
      refine lv_iadd F.1 F.2.1 dX8_closes_85 ?_
      refine r_iast0 F hw (n := 6) rfl dX8_closes_86 (by unfold vp_in; decide) hf (fun M43 H44 o45 hw hf => ?_)
      refine k_iconst_0 F dX8_closes_87 ?_
      exact r_iret_w F hw (vp_nar_int _) dX8_closes_88 hf
    · refine lv_aload_n F.1 F.2.1 dX8_closes_89 rfl (lv_at hl 2 rfl) ?_
      refine gX8_71 F hw rfl dX8_closes_90 ?_
      refine lv_iload_n F.1 F.2.1 dX8_closes_93 rfl (lv_at hl 1 rfl) ?_
      refine lv_dup2_11 F.1 F.2.1 dX8_closes_94 rfl rfl ?_
      refine r_iald F hw (n := 6) rfl dX8_closes_95 hf (fun hi7 hf => ?_)
      refine lv_aload_n F.1 F.2.1 dX8_closes_96 rfl (lv_at hl 2 rfl) ?_
      refine lv_iload_n F.1 F.2.1 dX8_closes_97 rfl (lv_at hl 1 rfl) ?_
      refine lv_iload_n F.1 F.2.1 dX8_closes_98 rfl (lv_at hl 0 rfl) ?_
      refine clX8_180 F hw hl ⟨Nat.le_of_ble_eq_true rfl, Nat.le_of_ble_eq_true rfl⟩ (Nat.le_of_ble_eq_true rfl) dX8_closes_99 hf (fun t11 H8 o9 hw hn10 hf => ?_)
      refine k_iconst_1 F dX8_closes_102 ?_
      refine lv_isub F.1 F.2.1 dX8_closes_103 ?_
      refine lv_iadd F.1 F.2.1 dX8_closes_104 ?_
      refine r_iast0 F hw (n := 6) rfl dX8_closes_105 hi7 hf (fun M12 H13 o14 hw hf => ?_)
      refine lv_aload_n F.1 F.2.1 dX8_closes_106 rfl (lv_at hl 2 rfl) ?_
      refine gX8_59 F hw rfl dX8_closes_107 ?_
      refine lv_iload_n F.1 F.2.1 dX8_closes_110 rfl (lv_at hl 1 rfl) ?_
      refine lv_iload_n F.1 F.2.1 dX8_closes_111 rfl (lv_at hl 0 rfl) ?_
      refine r_iast0 F hw (n := 6) rfl dX8_closes_112 hi7 hf (fun M15 H16 o17 hw hf => ?_)
      refine lv_aload_n F.1 F.2.1 dX8_closes_113 rfl (lv_at hl 2 rfl) ?_
      refine gX8_68 F hw rfl dX8_closes_114 ?_
      refine lv_iload_n F.1 F.2.1 dX8_closes_117 rfl (lv_at hl 1 rfl) ?_
      refine lv_dup2_11 F.1 F.2.1 dX8_closes_118 rfl rfl ?_
      refine r_iald0 F hw (n := 6) rfl dX8_closes_119 hi7 ?_
      refine k_iconst_1 F dX8_closes_120 ?_
      refine lv_iadd F.1 F.2.1 dX8_closes_121 ?_
      refine r_iast0 F hw (n := 6) rfl dX8_closes_122 hi7 hf (fun M18 H19 o20 hw hf => ?_)
      refine lv_aload_n F.1 F.2.1 dX8_closes_123 rfl (lv_at hl 2 rfl) ?_
      refine gX8_104 F hw rfl dX8_closes_124 ?_
      refine k_iconst_0 F dX8_closes_127 ?_
      refine lv_dup2_11 F.1 F.2.1 dX8_closes_128 rfl rfl ?_
      refine r_iald0 F hw (n := 6) rfl dX8_closes_129 (by unfold vp_in; decide) ?_
      refine k_iconst_1 F dX8_closes_130 ?_
      refine lv_iadd F.1 F.2.1 dX8_closes_131 ?_
      refine r_iast0 F hw (n := 6) rfl dX8_closes_132 (by unfold vp_in; decide) hf (fun M21 H22 o23 hw hf => ?_)
      refine lv_aload_n F.1 F.2.1 dX8_closes_133 rfl (lv_at hl 2 rfl) ?_
      refine k_iconst_m1 F dX8_closes_134 ?_
      refine clX8_197 F hw hl ⟨Nat.le_of_ble_eq_true rfl, Nat.le_of_ble_eq_true rfl⟩ (Nat.le_of_ble_eq_true rfl) dX8_closes_135 hf (fun t27 H24 o25 hw hn26 hf => ?_)
      refine lv_istore_n F.1 F.2.1 dX8_closes_138 rfl hl (lv' := [(3, .int t27), (2, .int (M 25 (0 : Int32).toNatClampNeg)), (1, .int (M 24 (0 : Int32).toNatClampNeg)), (0, .ref (ad 0))]) (Nat.le_of_ble_eq_true rfl) rfl (fun ls28 hl => ?_)
      refine lv_aload_n F.1 F.2.1 dX8_closes_139 rfl (lv_at hl 3 rfl) ?_
      refine gX8_38 F hw rfl dX8_closes_140 ?_
      refine lv_iload_n F.1 F.2.1 dX8_closes_143 rfl (lv_at hl 0 rfl) ?_
      refine lv_dup2_11 F.1 F.2.1 dX8_closes_144 rfl rfl ?_
      refine r_iald F hw (n := 4) rfl dX8_closes_145 hf (fun hi29 hf => ?_)
      refine k_iconst_1 F dX8_closes_146 ?_
      refine lv_iadd F.1 F.2.1 dX8_closes_147 ?_
      refine r_iast0 F hw (n := 4) rfl dX8_closes_148 hi29 hf (fun M30 H31 o32 hw hf => ?_)
      refine lv_aload_n F.1 F.2.1 dX8_closes_149 rfl (lv_at hl 3 rfl) ?_
      refine lv_iload_n F.1 F.2.1 dX8_closes_150 rfl (lv_at hl 2 rfl) ?_
      refine lv_aload_n F.1 F.2.1 dX8_closes_151 rfl (lv_at hl 3 rfl) ?_
      refine gX8_101 F hw rfl dX8_closes_152 ?_
      refine lv_iload_n F.1 F.2.1 dX8_closes_155 rfl (lv_at hl 0 rfl) ?_
      refine r_iald F hw (n := 1560) rfl dX8_closes_156 hf (fun hi33 hf => ?_)
      refine clX8_212 F hw hl ⟨Nat.le_of_ble_eq_true rfl, Nat.le_of_ble_eq_true rfl⟩ (Nat.le_of_ble_eq_true rfl) dX8_closes_157 hf (fun M37 H34 o35 hw hf => ?_)
      refine lv_aload_n F.1 F.2.1 dX8_closes_160 rfl (lv_at hl 3 rfl) ?_
      refine gX8_62 F hw rfl dX8_closes_161 ?_
      refine lv_iload_n F.1 F.2.1 dX8_closes_164 rfl (lv_at hl 2 rfl) ?_
      refine r_iald0 F hw (n := 6) rfl dX8_closes_165 hi7 ?_
      refine k_iconst_4 F dX8_closes_166 ?_
      refine b_icmp_ne F dX8_closes_167 (tgt := 175) (by decide) hf (fun hc42 hf => ?_) (fun hc42 hf => ?_)
      · refine lv_aload_n F.1 F.2.1 dX8_closes_170 rfl (lv_at hl 3 rfl) ?_
        refine lv_iload_n F.1 F.2.1 dX8_closes_171 rfl (lv_at hl 2 rfl) ?_
        refine clX8_216 F hw hl ⟨Nat.le_of_ble_eq_true rfl, Nat.le_of_ble_eq_true rfl⟩ (Nat.le_of_ble_eq_true rfl) dX8_closes_172 hf (fun M41 H38 o39 hw hf => ?_)
        refine k_iconst_1 F dX8_closes_175 ?_
        exact r_iret_w F hw (vp_nar_int _) dX8_closes_176 hf
      · refine k_iconst_1 F dX8_closes_175 ?_
        exact r_iret_w F hw (vp_nar_int _) dX8_closes_176 hf
theorem clX8_222 (F : Fx D cA RX8 cc nL ret p s m args meth c) (hw : Wd shM D cA ad H0 M H locs) (hl : lv_has ls nL lv) (hR : 4 ≤ R.frames ∧ 94 ≤ R.locals) (hrm : (rest.map fun v => v.category).sum ≤ 8) (hd : decode cc pc = .ok (.invokevirtual 222, 3)) {α : Type} {K : Int32 → Mem → Option α} {res : α} (hf : bnd2 (fX8_closes M) K = some res) (kk : ∀ (t : Int32) (M1 : Mem) (H1 : Heap) (locs1 : List Loc), Wd shM D cA ad H0 M1 H1 locs1 → narrow .int (.int t) = .int t → K t M1 = some res → W p l e R s m args below meth c H1 locs1 0 0 Q (F0 m (pc + 3) ls (.int t :: rest))) : W p l e R s m args below meth c H locs 0 0 Q (F0 m pc ls (.ref (ad 0) :: rest)) := by
  obtain ⟨t, M1, h1, h2⟩ := bnd2_some hf
  exact r_afti hw (r_runV (As := []) F hw hl (cX8_closes_ok l D cA ad M t M1 h1) cz8 (show shM[0]? = some (.inr (8, sf8)) from rfl) cwX8_222 hR hrm hd) (fun H1 o1 hw1 hn => kk t M1 H1 o1 hw1 hn h2)
def fX8_oneTick_L47 : Nat → Int32 → Mem → Option (Int32 × Mem)
  | 0, _, _ => none
  | n + 1, v1, M =>
    if (M 0 28) ≤ 0 then
      some (v1, M)
    else
      if (M 0 4) < ((M 26 (0 : Int32).toNatClampNeg) + (M 0 3)) then
        some (v1, M)
      else
        bnd2 (fX8_closes M) fun t13 M12 =>
        bnd1 (fX8_firstGoes M12) fun M18 =>
        fX8_oneTick_L47 n (v1 + t13) M18
def fX8_oneTick_L23 : Nat → Int32 → Mem → Option (Mem)
  | 0, _, _ => none
  | n + 1, v1, M =>
    if (4 : Int32) ≤ v1 then
      some M
    else
      ix v1 4 <| wr M 4 v1.toNatClampNeg (0 : Int32) fun M29 =>
      fX8_oneTick_L23 n (v1 + (1 : Int32)) M29
def fX8_oneTick (M : Mem) : Option (Int32 × Mem) :=
  wr M 0 4 ((M 0 4) + (1 : Int32)) fun M1 =>
  if (jirem (M1 0 4) (60 : Int32)) = (1 : Int32) then
    bnd1 (fX8_oneTick_L23 FUEL (0 : Int32) M1) fun M34 =>
    bnd1 (fX8_allCome M34) fun M41 =>
    bnd2 (fX8_oneTick_L47 FUEL (0 : Int32) M41) fun w43 M44 =>
    some (w43, M44)
  else
    bnd1 (fX8_allCome M1) fun M7 =>
    bnd2 (fX8_oneTick_L47 FUEL (0 : Int32) M7) fun w21 M22 =>
    some (w21, M22)
set_option maxHeartbeats 4000000 in
set_option maxRecDepth 100000 in
theorem wX8_oneTick_L47 {p : Program} {l : Launch} {e : Env} {s : State} {m : MethodId} {args : Array Value} {below : List Frame} {meth : Method} {c : Code} {D : va_G} {cA : Nat → ClassId} {ad : Nat → Nat} {Q : State → Prop} (F : Fx D cA RX8 cX8_oneTick 2 (some .int) p s m args meth c) : ∀ (n : Nat) (v1 : Int32) (M : Mem) (H : Heap) (o : List Loc) (ls : Array Slot), lv_has ls 2 [(0, .ref (ad 0)), (1, .int v1)] → Wd shM D cA ad s.heap M H o → ∀ (u1 : Int32) (M' : Mem), fX8_oneTick_L47 n v1 M = some (u1, M') → (∀ (H1 : Heap) (o1 : List Loc) (ls1 : Array Slot), lv_has ls1 2 [(1, .int u1)] → Wd shM D cA ad s.heap M' H1 o1 → W p l e (rz 4 94) s m args below meth c H1 o1 0 0 Q (F0 m 86 ls1 [])) → W p l e (rz 4 94) s m args below meth c H o 0 0 Q (F0 m 47 ls []) := by
  intro n
  induction n with
  | zero =>
    intro v1 M H o ls hl hw u1 M' hf kk
    cases hf
  | succ n ih =>
    intro v1 M H o ls hl hw u1 M' hf kk
    rw [fX8_oneTick_L47] at hf
    refine lv_aload_n F.1 F.2.1 dX8_oneTick_47 rfl (lv_at hl 0 rfl) ?_
    refine gX8_120 F hw rfl dX8_oneTick_48 ?_
    refine b_if_le F dX8_oneTick_51 (tgt := 86) (by decide) hf (fun hc20 hf => ?_) (fun hc20 hf => ?_)
    · cases hf
      exact kk _ _ _ (lv_sub hl [1] rfl) hw
    · refine lv_aload_n F.1 F.2.1 dX8_oneTick_54 rfl (lv_at hl 0 rfl) ?_
      refine gX8_95 F hw rfl dX8_oneTick_55 ?_
      refine k_iconst_0 F dX8_oneTick_58 ?_
      refine r_iald0 F hw (n := 390) rfl dX8_oneTick_59 (by unfold vp_in; decide) ?_
      refine lv_aload_n F.1 F.2.1 dX8_oneTick_60 rfl (lv_at hl 0 rfl) ?_
      refine gX8_20 F hw rfl dX8_oneTick_61 ?_
      refine lv_iadd F.1 F.2.1 dX8_oneTick_64 ?_
      refine lv_aload_n F.1 F.2.1 dX8_oneTick_65 rfl (lv_at hl 0 rfl) ?_
      refine gX8_114 F hw rfl dX8_oneTick_66 ?_
      refine b_icmp_gt F dX8_oneTick_69 (tgt := 86) (by decide) hf (fun hc19 hf => ?_) (fun hc19 hf => ?_)
      · cases hf
        exact kk _ _ _ (lv_sub hl [1] rfl) hw
      · refine lv_iload_n F.1 F.2.1 dX8_oneTick_72 rfl (lv_at hl 1 rfl) ?_
        refine lv_aload_n F.1 F.2.1 dX8_oneTick_73 rfl (lv_at hl 0 rfl) ?_
        refine clX8_222 F hw hl ⟨Nat.le_of_ble_eq_true rfl, Nat.le_of_ble_eq_true rfl⟩ (Nat.le_of_ble_eq_true rfl) dX8_oneTick_74 hf (fun t13 M12 H9 o10 hw hn11 hf => ?_)
        refine lv_iadd F.1 F.2.1 dX8_oneTick_77 ?_
        refine lv_istore_n F.1 F.2.1 dX8_oneTick_78 rfl hl (lv' := [(1, .int (v1 + t13)), (0, .ref (ad 0))]) (Nat.le_of_ble_eq_true rfl) rfl (fun ls14 hl => ?_)
        refine lv_aload_n F.1 F.2.1 dX8_oneTick_79 rfl (lv_at hl 1 rfl) ?_
        refine clX8_225 F hw hl ⟨Nat.le_of_ble_eq_true rfl, Nat.le_of_ble_eq_true rfl⟩ (Nat.le_of_ble_eq_true rfl) dX8_oneTick_80 hf (fun M18 H15 o16 hw hf => ?_)
        refine lv_goto F.1 F.2.1 dX8_oneTick_83 (tgt := 47) (by decide) ?_
        exact ih (v1 + t13) M18 _ _ _ (lv_sub hl [1, 0] rfl) hw u1 M' hf kk
set_option maxHeartbeats 4000000 in
set_option maxRecDepth 100000 in
theorem wX8_oneTick_L23 {p : Program} {l : Launch} {e : Env} {s : State} {m : MethodId} {args : Array Value} {below : List Frame} {meth : Method} {c : Code} {D : va_G} {cA : Nat → ClassId} {ad : Nat → Nat} {Q : State → Prop} (F : Fx D cA RX8 cX8_oneTick 2 (some .int) p s m args meth c) : ∀ (n : Nat) (v1 : Int32) (M : Mem) (H : Heap) (o : List Loc) (ls : Array Slot), lv_has ls 2 [(0, .ref (ad 0)), (1, .int v1)] → Wd shM D cA ad s.heap M H o → ∀ (M' : Mem), fX8_oneTick_L23 n v1 M = some M' → (∀ (H1 : Heap) (o1 : List Loc) (ls1 : Array Slot), lv_has ls1 2 [(0, .ref (ad 0))] → Wd shM D cA ad s.heap M' H1 o1 → W p l e (rz 4 94) s m args below meth c H1 o1 0 0 Q (F0 m 41 ls1 [])) → W p l e (rz 4 94) s m args below meth c H o 0 0 Q (F0 m 23 ls []) := by
  intro n
  induction n with
  | zero =>
    intro v1 M H o ls hl hw M' hf kk
    cases hf
  | succ n ih =>
    intro v1 M H o ls hl hw M' hf kk
    rw [fX8_oneTick_L23] at hf
    refine lv_iload_n F.1 F.2.1 dX8_oneTick_23 rfl (lv_at hl 1 rfl) ?_
    refine k_iconst_4 F dX8_oneTick_24 ?_
    refine b_icmp_ge F dX8_oneTick_25 (tgt := 41) (by decide) hf (fun hc33 hf => ?_) (fun hc33 hf => ?_)
    · cases hf
      exact kk _ _ _ (lv_sub hl [0] rfl) hw
    · refine lv_aload_n F.1 F.2.1 dX8_oneTick_28 rfl (lv_at hl 0 rfl) ?_
      refine gX8_29 F hw rfl dX8_oneTick_29 ?_
      refine lv_iload_n F.1 F.2.1 dX8_oneTick_32 rfl (lv_at hl 1 rfl) ?_
      refine k_iconst_0 F dX8_oneTick_33 ?_
      refine r_iast F hw (n := 4) rfl dX8_oneTick_34 hf (fun hi28 M29 H30 o31 hw hf => ?_)
      refine lv_iinc F.1 F.2.1 dX8_oneTick_35 hl (k := 1) rfl (ki_1 _) (lv' := [(1, .int (v1 + (1 : Int32))), (0, .ref (ad 0))]) (Nat.le_of_ble_eq_true rfl) rfl (fun ls32 hl => ?_)
      refine lv_goto F.1 F.2.1 dX8_oneTick_38 (tgt := 23) (by decide) ?_
      exact ih (v1 + (1 : Int32)) M29 _ _ _ (lv_sub hl [1, 0] rfl) hw  M' hf kk
set_option maxHeartbeats 4000000 in
set_option maxRecDepth 100000 in
theorem cX8_oneTick_ok (l : Launch) (D : va_G) (cA : Nat → ClassId) (ad : Nat → Nat) (M : Mem)  (r : Int32) (M' : Mem) (hf : fX8_oneTick M = some (r, M')) : Ctg l yX8_oneTick cX8_oneTick 2 (some .int) 4 94 shM D cA ad [.ref (ad 0)] M (Qzi shM D cA ad .int r M') := by
  refine ct_in (by decide) (Nat.le_of_ble_eq_true rfl) ?_
  intro p e s m below meth c ls F hl hw
  have hl : lv_has ls 2 [(0, .ref (ad 0))] := hl
  unfold fX8_oneTick at hf
  refine lv_aload_n F.1 F.2.1 dX8_oneTick_0 rfl (lv_at hl 0 rfl) ?_
  refine lv_dup F.1 F.2.1 dX8_oneTick_1 rfl ?_
  refine gX8_114 F hw rfl dX8_oneTick_2 ?_
  refine k_iconst_1 F dX8_oneTick_5 ?_
  refine lv_iadd F.1 F.2.1 dX8_oneTick_6 ?_
  refine qX8_114 F hw rfl dX8_oneTick_7 hf (fun M1 H2 o3 hw hf => ?_)
  refine lv_aload_n F.1 F.2.1 dX8_oneTick_10 rfl (lv_at hl 0 rfl) ?_
  refine gX8_114 F hw rfl dX8_oneTick_11 ?_
  refine k_bipush_60 F dX8_oneTick_14 ?_
  refine k_irem F dX8_oneTick_16 (by decide) ?_
  refine k_iconst_1 F dX8_oneTick_17 ?_
  refine b_icmp_ne F dX8_oneTick_18 (tgt := 41) (by decide) hf (fun hc50 hf => ?_) (fun hc50 hf => ?_)
  · refine k_iconst_0 F dX8_oneTick_21 ?_
    refine lv_istore_n F.1 F.2.1 dX8_oneTick_22 rfl hl (lv' := [(1, .int (0 : Int32)), (0, .ref (ad 0))]) (Nat.le_of_ble_eq_true rfl) rfl (fun ls27 hl => ?_)
    obtain ⟨M34, hq49, hf⟩ := bnd1_some hf
    refine wX8_oneTick_L23 F FUEL (0 : Int32) M1 _ _ _ (lv_sub hl [1, 0] rfl) hw M34 hq49 (fun H35 o36 ls37 hl hw => ?_)
    refine lv_aload_n F.1 F.2.1 dX8_oneTick_41 rfl (lv_at hl 0 rfl) ?_
    refine clX8_219 F hw hl ⟨Nat.le_of_ble_eq_true rfl, Nat.le_of_ble_eq_true rfl⟩ (Nat.le_of_ble_eq_true rfl) dX8_oneTick_42 hf (fun M41 H38 o39 hw hf => ?_)
    refine k_iconst_0 F dX8_oneTick_45 ?_
    refine lv_istore_n F.1 F.2.1 dX8_oneTick_46 rfl hl (lv' := [(1, .int (0 : Int32)), (0, .ref (ad 0))]) (Nat.le_of_ble_eq_true rfl) rfl (fun ls42 hl => ?_)
    obtain ⟨w43, M44, hq48, hf⟩ := bnd2_some hf
    refine wX8_oneTick_L47 F FUEL (0 : Int32) M41 _ _ _ (lv_sub hl [1, 0] rfl) hw w43 M44 hq48 (fun H45 o46 ls47 hl hw => ?_)
    refine lv_iload_n F.1 F.2.1 dX8_oneTick_86 rfl (lv_at hl 0 rfl) ?_
    exact r_iret_w F hw (vp_nar_int _) dX8_oneTick_87 hf
  · refine lv_aload_n F.1 F.2.1 dX8_oneTick_41 rfl (lv_at hl 0 rfl) ?_
    refine clX8_219 F hw hl ⟨Nat.le_of_ble_eq_true rfl, Nat.le_of_ble_eq_true rfl⟩ (Nat.le_of_ble_eq_true rfl) dX8_oneTick_42 hf (fun M7 H4 o5 hw hf => ?_)
    refine k_iconst_0 F dX8_oneTick_45 ?_
    refine lv_istore_n F.1 F.2.1 dX8_oneTick_46 rfl hl (lv' := [(1, .int (0 : Int32)), (0, .ref (ad 0))]) (Nat.le_of_ble_eq_true rfl) rfl (fun ls8 hl => ?_)
    obtain ⟨w21, M22, hq26, hf⟩ := bnd2_some hf
    refine wX8_oneTick_L47 F FUEL (0 : Int32) M7 _ _ _ (lv_sub hl [1, 0] rfl) hw w21 M22 hq26 (fun H23 o24 ls25 hl hw => ?_)
    refine lv_iload_n F.1 F.2.1 dX8_oneTick_86 rfl (lv_at hl 0 rfl) ?_
    exact r_iret_w F hw (vp_nar_int _) dX8_oneTick_87 hf
theorem clX8_228 (F : Fx D cA RX8 cc nL ret p s m args meth c) (hw : Wd shM D cA ad H0 M H locs) (hl : lv_has ls nL lv) (hR : 5 ≤ R.frames ∧ 115 ≤ R.locals) (hrm : (rest.map fun v => v.category).sum ≤ 8) (hd : decode cc pc = .ok (.invokevirtual 228, 3)) {α : Type} {K : Int32 → Mem → Option α} {res : α} (hf : bnd2 (fX8_oneTick M) K = some res) (kk : ∀ (t : Int32) (M1 : Mem) (H1 : Heap) (locs1 : List Loc), Wd shM D cA ad H0 M1 H1 locs1 → narrow .int (.int t) = .int t → K t M1 = some res → W p l e R s m args below meth c H1 locs1 0 0 Q (F0 m (pc + 3) ls (.int t :: rest))) : W p l e R s m args below meth c H locs 0 0 Q (F0 m pc ls (.ref (ad 0) :: rest)) := by
  obtain ⟨t, M1, h1, h2⟩ := bnd2_some hf
  exact r_afti hw (r_runV (As := []) F hw hl (cX8_oneTick_ok l D cA ad M t M1 h1) cz8 (show shM[0]? = some (.inr (8, sf8)) from rfl) cwX8_228 hR hrm hd) (fun H1 o1 hw1 hn => kk t M1 H1 o1 hw1 hn h2)
def fX8_goBy_L4 : Nat → Int32 → Int32 → Int32 → Mem → Option (Int32 × Mem)
  | 0, _, _, _, _ => none
  | n + 1, v1, v2, v3, M =>
    if v1 ≤ v3 then
      some (v2, M)
    else
      bnd2 (fX8_oneTick M) fun t7 M6 =>
      fX8_goBy_L4 n v1 (v2 + t7) (v3 + (1 : Int32)) M6
def fX8_goBy (v1 : Int32) (M : Mem) : Option (Int32 × Mem) :=
  bnd2 (fX8_goBy_L4 FUEL v1 (0 : Int32) (0 : Int32) M) fun w11 M12 =>
  some (w11, M12)
set_option maxHeartbeats 4000000 in
set_option maxRecDepth 100000 in
theorem wX8_goBy_L4 {p : Program} {l : Launch} {e : Env} {s : State} {m : MethodId} {args : Array Value} {below : List Frame} {meth : Method} {c : Code} {D : va_G} {cA : Nat → ClassId} {ad : Nat → Nat} {Q : State → Prop} (F : Fx D cA RX8 cX8_goBy 4 (some .int) p s m args meth c) : ∀ (n : Nat) (v1 : Int32) (v2 : Int32) (v3 : Int32) (M : Mem) (H : Heap) (o : List Loc) (ls : Array Slot), lv_has ls 4 [(0, .ref (ad 0)), (1, .int v1), (2, .int v2), (3, .int v3)] → Wd shM D cA ad s.heap M H o → ∀ (u2 : Int32) (M' : Mem), fX8_goBy_L4 n v1 v2 v3 M = some (u2, M') → (∀ (H1 : Heap) (o1 : List Loc) (ls1 : Array Slot), lv_has ls1 4 [(2, .int u2)] → Wd shM D cA ad s.heap M' H1 o1 → W p l e (rz 5 115) s m args below meth c H1 o1 0 0 Q (F0 m 22 ls1 [])) → W p l e (rz 5 115) s m args below meth c H o 0 0 Q (F0 m 4 ls []) := by
  intro n
  induction n with
  | zero =>
    intro v1 v2 v3 M H o ls hl hw u2 M' hf kk
    cases hf
  | succ n ih =>
    intro v1 v2 v3 M H o ls hl hw u2 M' hf kk
    rw [fX8_goBy_L4] at hf
    refine lv_iload_n F.1 F.2.1 dX8_goBy_4 rfl (lv_at hl 3 rfl) ?_
    refine lv_iload_n F.1 F.2.1 dX8_goBy_5 rfl (lv_at hl 1 rfl) ?_
    refine b_icmp_ge F dX8_goBy_6 (tgt := 22) (by decide) hf (fun hc10 hf => ?_) (fun hc10 hf => ?_)
    · cases hf
      exact kk _ _ _ (lv_sub hl [2] rfl) hw
    · refine lv_iload_n F.1 F.2.1 dX8_goBy_9 rfl (lv_at hl 2 rfl) ?_
      refine lv_aload_n F.1 F.2.1 dX8_goBy_10 rfl (lv_at hl 0 rfl) ?_
      refine clX8_228 F hw hl ⟨Nat.le_of_ble_eq_true rfl, Nat.le_of_ble_eq_true rfl⟩ (Nat.le_of_ble_eq_true rfl) dX8_goBy_11 hf (fun t7 M6 H3 o4 hw hn5 hf => ?_)
      refine lv_iadd F.1 F.2.1 dX8_goBy_14 ?_
      refine lv_istore_n F.1 F.2.1 dX8_goBy_15 rfl hl (lv' := [(2, .int (v2 + t7)), (0, .ref (ad 0)), (1, .int v1), (3, .int v3)]) (Nat.le_of_ble_eq_true rfl) rfl (fun ls8 hl => ?_)
      refine lv_iinc F.1 F.2.1 dX8_goBy_16 hl (k := 3) rfl (ki_1 _) (lv' := [(3, .int (v3 + (1 : Int32))), (2, .int (v2 + t7)), (0, .ref (ad 0)), (1, .int v1)]) (Nat.le_of_ble_eq_true rfl) rfl (fun ls9 hl => ?_)
      refine lv_goto F.1 F.2.1 dX8_goBy_19 (tgt := 4) (by decide) ?_
      exact ih v1 (v2 + t7) (v3 + (1 : Int32)) M6 _ _ _ (lv_sub hl [2, 3, 1, 0] rfl) hw u2 M' hf kk
set_option maxHeartbeats 4000000 in
set_option maxRecDepth 100000 in
theorem cX8_goBy_ok (l : Launch) (D : va_G) (cA : Nat → ClassId) (ad : Nat → Nat) (M : Mem) (v1 : Int32) (r : Int32) (M' : Mem) (hf : fX8_goBy v1 M = some (r, M')) : Ctg l yX8_goBy cX8_goBy 4 (some .int) 5 115 shM D cA ad [.ref (ad 0), .int v1] M (Qzi shM D cA ad .int r M') := by
  refine ct_in (by decide) (Nat.le_of_ble_eq_true rfl) ?_
  intro p e s m below meth c ls F hl hw
  have hl : lv_has ls 4 [(0, .ref (ad 0)), (1, .int v1)] := hl
  unfold fX8_goBy at hf
  refine k_iconst_0 F dX8_goBy_0 ?_
  refine lv_istore_n F.1 F.2.1 dX8_goBy_1 rfl hl (lv' := [(2, .int (0 : Int32)), (0, .ref (ad 0)), (1, .int v1)]) (Nat.le_of_ble_eq_true rfl) rfl (fun ls1 hl => ?_)
  refine k_iconst_0 F dX8_goBy_2 ?_
  refine lv_istore_n F.1 F.2.1 dX8_goBy_3 rfl hl (lv' := [(3, .int (0 : Int32)), (2, .int (0 : Int32)), (0, .ref (ad 0)), (1, .int v1)]) (Nat.le_of_ble_eq_true rfl) rfl (fun ls2 hl => ?_)
  obtain ⟨w11, M12, hq16, hf⟩ := bnd2_some hf
  refine wX8_goBy_L4 F FUEL v1 (0 : Int32) (0 : Int32) M _ _ _ (lv_sub hl [2, 3, 1, 0] rfl) hw w11 M12 hq16 (fun H13 o14 ls15 hl hw => ?_)
  refine lv_iload_n F.1 F.2.1 dX8_goBy_22 rfl (lv_at hl 0 rfl) ?_
  exact r_iret_w F hw (vp_nar_int _) dX8_goBy_23 hf
theorem clX8_231 (F : Fx D cA RX8 cc nL ret p s m args meth c) (hw : Wd shM D cA ad H0 M H locs) (hl : lv_has ls nL lv) {v1 : Int32} (hR : 6 ≤ R.frames ∧ 138 ≤ R.locals) (hrm : (rest.map fun v => v.category).sum ≤ 8) (hd : decode cc pc = .ok (.invokevirtual 231, 3)) {α : Type} {K : Int32 → Mem → Option α} {res : α} (hf : bnd2 (fX8_goBy v1 M) K = some res) (kk : ∀ (t : Int32) (M1 : Mem) (H1 : Heap) (locs1 : List Loc), Wd shM D cA ad H0 M1 H1 locs1 → narrow .int (.int t) = .int t → K t M1 = some res → W p l e R s m args below meth c H1 locs1 0 0 Q (F0 m (pc + 3) ls (.int t :: rest))) : W p l e R s m args below meth c H locs 0 0 Q (F0 m pc ls (.int v1 :: .ref (ad 0) :: rest)) := by
  obtain ⟨t, M1, h1, h2⟩ := bnd2_some hf
  exact r_afti hw (r_runV (As := [.int v1]) F hw hl (cX8_goBy_ok l D cA ad M v1 t M1 h1) cz8 (show shM[0]? = some (.inr (8, sf8)) from rfl) cwX8_231 hR hrm hd) (fun H1 o1 hw1 hn => kk t M1 H1 o1 hw1 hn h2)
def fX8_ticks (v1 : Int32) (M : Mem) : Option (Int32 × Mem) :=
  if (fX8_in v1 (1 : Int32) (99 : Int32)) = 0 then
    bnd2 (fX8_bad M) fun t8 M7 =>
    some (t8, M7)
  else
    bnd2 (fX8_goBy v1 M) fun t13 M12 =>
    some (t13, M12)
set_option maxHeartbeats 4000000 in
set_option maxRecDepth 100000 in
theorem cX8_ticks_ok (l : Launch) (D : va_G) (cA : Nat → ClassId) (ad : Nat → Nat) (M : Mem) (v1 : Int32) (r : Int32) (M' : Mem) (hf : fX8_ticks v1 M = some (r, M')) : Ctg l yX8_ticks cX8_ticks 2 (some .int) 6 138 shM D cA ad [.ref (ad 0), .int v1] M (Qzi shM D cA ad .int r M') := by
  refine ct_in (by decide) (Nat.le_of_ble_eq_true rfl) ?_
  intro p e s m below meth c ls F hl hw
  have hl : lv_has ls 2 [(0, .ref (ad 0)), (1, .int v1)] := hl
  unfold fX8_ticks at hf
  refine lv_iload_n F.1 F.2.1 dX8_ticks_0 rfl (lv_at hl 1 rfl) ?_
  refine k_iconst_1 F dX8_ticks_1 ?_
  refine k_bipush_99 F dX8_ticks_2 ?_
  refine clX8_110 F hw hl ⟨Nat.le_of_ble_eq_true rfl, Nat.le_of_ble_eq_true rfl⟩ (Nat.le_of_ble_eq_true rfl) dX8_ticks_4 (fun H1 o2 hw hn3 => ?_)
  refine b_if_eq F dX8_ticks_7 (tgt := 18) (by decide) hf (fun hc14 hf => ?_) (fun hc14 hf => ?_)
  · refine lv_aload_n F.1 F.2.1 dX8_ticks_18 rfl (lv_at hl 0 rfl) ?_
    refine clX8_127 F hw hl ⟨Nat.le_of_ble_eq_true rfl, Nat.le_of_ble_eq_true rfl⟩ (Nat.le_of_ble_eq_true rfl) dX8_ticks_19 hf (fun t8 M7 H4 o5 hw hn6 hf => ?_)
    exact r_iret_w F hw (vp_nar_int _) dX8_ticks_22 hf
  · refine lv_aload_n F.1 F.2.1 dX8_ticks_10 rfl (lv_at hl 0 rfl) ?_
    refine lv_iload_n F.1 F.2.1 dX8_ticks_11 rfl (lv_at hl 1 rfl) ?_
    refine clX8_231 F hw hl ⟨Nat.le_of_ble_eq_true rfl, Nat.le_of_ble_eq_true rfl⟩ (Nat.le_of_ble_eq_true rfl) dX8_ticks_12 hf (fun t13 M12 H9 o10 hw hn11 hf => ?_)
    refine lv_goto F.1 F.2.1 dX8_ticks_15 (tgt := 22) (by decide) ?_
    exact r_iret_w F hw (vp_nar_int _) dX8_ticks_22 hf
def fX8_ofBy (v1 : Int32) (v2 : Int32) (M : Mem) : Option Int32 :=
  if v2 = (0 : Int32) then
    ix v1 6 <|
    some (M 9 v1.toNatClampNeg)
  else if v2 = (1 : Int32) then
    ix v1 6 <|
    some (M 10 v1.toNatClampNeg)
  else if v2 = (2 : Int32) then
    ix v1 6 <|
    some (M 11 v1.toNatClampNeg)
  else if v2 = (3 : Int32) then
    ix v1 6 <|
    some (M 12 v1.toNatClampNeg)
  else if v2 = (4 : Int32) then
    ix v1 6 <|
    some (M 14 v1.toNatClampNeg)
  else if v2 = (5 : Int32) then
    ix v1 6 <|
    some (M 15 v1.toNatClampNeg)
  else if v2 = (6 : Int32) then
    ix v1 6 <|
    some (M 17 v1.toNatClampNeg)
  else 
    ix v1 6 <|
    some (M 18 v1.toNatClampNeg)
set_option maxHeartbeats 4000000 in
set_option maxRecDepth 100000 in
theorem cX8_ofBy_ok (l : Launch) (D : va_G) (cA : Nat → ClassId) (ad : Nat → Nat) (M : Mem) (v1 : Int32) (v2 : Int32) (r : Int32) (hf : fX8_ofBy v1 v2 M = some r) : Ctg l yX8_ofBy cX8_ofBy 3 (some .int) 0 0 shM D cA ad [.ref (ad 0), .int v1, .int v2] M (Qzi shM D cA ad .int r M) := by
  refine ct_in (by decide) (Nat.le_of_ble_eq_true rfl) ?_
  intro p e s m below meth c ls F hl hw
  have hl : lv_has ls 3 [(0, .ref (ad 0)), (1, .int v1), (2, .int v2)] := hl
  unfold fX8_ofBy at hf
  refine lv_iload_n F.1 F.2.1 dX8_ofBy_0 rfl (lv_at hl 2 rfl) ?_
  by_cases hc1 : v2 = (0 : Int32)
  · rw [if_pos hc1] at hf
    refine lv_tableIn F.1 F.2.1 dX8_ofBy_1 (tgt := 44) (off := 43) (by rw [hc1]; decide) (by rw [hc1]; decide) (by rw [hc1]; decide) (by decide) ?_
    refine lv_aload_n F.1 F.2.1 dX8_ofBy_44 rfl (lv_at hl 0 rfl) ?_
    refine gX8_44 F hw rfl dX8_ofBy_45 ?_
    refine lv_iload_n F.1 F.2.1 dX8_ofBy_48 rfl (lv_at hl 1 rfl) ?_
    refine r_iald F hw (n := 6) rfl dX8_ofBy_49 hf (fun hi2 hf => ?_)
    exact r_iret_o F hw (vp_nar_int _) dX8_ofBy_50 hf
  · rw [if_neg hc1] at hf
    by_cases hc3 : v2 = (1 : Int32)
    · rw [if_pos hc3] at hf
      refine lv_tableIn F.1 F.2.1 dX8_ofBy_1 (tgt := 51) (off := 50) (by rw [hc3]; decide) (by rw [hc3]; decide) (by rw [hc3]; decide) (by decide) ?_
      refine lv_aload_n F.1 F.2.1 dX8_ofBy_51 rfl (lv_at hl 0 rfl) ?_
      refine gX8_47 F hw rfl dX8_ofBy_52 ?_
      refine lv_iload_n F.1 F.2.1 dX8_ofBy_55 rfl (lv_at hl 1 rfl) ?_
      refine r_iald F hw (n := 6) rfl dX8_ofBy_56 hf (fun hi4 hf => ?_)
      exact r_iret_o F hw (vp_nar_int _) dX8_ofBy_57 hf
    · rw [if_neg hc3] at hf
      by_cases hc5 : v2 = (2 : Int32)
      · rw [if_pos hc5] at hf
        refine lv_tableIn F.1 F.2.1 dX8_ofBy_1 (tgt := 58) (off := 57) (by rw [hc5]; decide) (by rw [hc5]; decide) (by rw [hc5]; decide) (by decide) ?_
        refine lv_aload_n F.1 F.2.1 dX8_ofBy_58 rfl (lv_at hl 0 rfl) ?_
        refine gX8_50 F hw rfl dX8_ofBy_59 ?_
        refine lv_iload_n F.1 F.2.1 dX8_ofBy_62 rfl (lv_at hl 1 rfl) ?_
        refine r_iald F hw (n := 6) rfl dX8_ofBy_63 hf (fun hi6 hf => ?_)
        exact r_iret_o F hw (vp_nar_int _) dX8_ofBy_64 hf
      · rw [if_neg hc5] at hf
        by_cases hc7 : v2 = (3 : Int32)
        · rw [if_pos hc7] at hf
          refine lv_tableIn F.1 F.2.1 dX8_ofBy_1 (tgt := 65) (off := 64) (by rw [hc7]; decide) (by rw [hc7]; decide) (by rw [hc7]; decide) (by decide) ?_
          refine lv_aload_n F.1 F.2.1 dX8_ofBy_65 rfl (lv_at hl 0 rfl) ?_
          refine gX8_53 F hw rfl dX8_ofBy_66 ?_
          refine lv_iload_n F.1 F.2.1 dX8_ofBy_69 rfl (lv_at hl 1 rfl) ?_
          refine r_iald F hw (n := 6) rfl dX8_ofBy_70 hf (fun hi8 hf => ?_)
          exact r_iret_o F hw (vp_nar_int _) dX8_ofBy_71 hf
        · rw [if_neg hc7] at hf
          by_cases hc9 : v2 = (4 : Int32)
          · rw [if_pos hc9] at hf
            refine lv_tableIn F.1 F.2.1 dX8_ofBy_1 (tgt := 72) (off := 71) (by rw [hc9]; decide) (by rw [hc9]; decide) (by rw [hc9]; decide) (by decide) ?_
            refine lv_aload_n F.1 F.2.1 dX8_ofBy_72 rfl (lv_at hl 0 rfl) ?_
            refine gX8_59 F hw rfl dX8_ofBy_73 ?_
            refine lv_iload_n F.1 F.2.1 dX8_ofBy_76 rfl (lv_at hl 1 rfl) ?_
            refine r_iald F hw (n := 6) rfl dX8_ofBy_77 hf (fun hi10 hf => ?_)
            exact r_iret_o F hw (vp_nar_int _) dX8_ofBy_78 hf
          · rw [if_neg hc9] at hf
            by_cases hc11 : v2 = (5 : Int32)
            · rw [if_pos hc11] at hf
              refine lv_tableIn F.1 F.2.1 dX8_ofBy_1 (tgt := 79) (off := 78) (by rw [hc11]; decide) (by rw [hc11]; decide) (by rw [hc11]; decide) (by decide) ?_
              refine lv_aload_n F.1 F.2.1 dX8_ofBy_79 rfl (lv_at hl 0 rfl) ?_
              refine gX8_62 F hw rfl dX8_ofBy_80 ?_
              refine lv_iload_n F.1 F.2.1 dX8_ofBy_83 rfl (lv_at hl 1 rfl) ?_
              refine r_iald F hw (n := 6) rfl dX8_ofBy_84 hf (fun hi12 hf => ?_)
              exact r_iret_o F hw (vp_nar_int _) dX8_ofBy_85 hf
            · rw [if_neg hc11] at hf
              by_cases hc13 : v2 = (6 : Int32)
              · rw [if_pos hc13] at hf
                refine lv_tableIn F.1 F.2.1 dX8_ofBy_1 (tgt := 86) (off := 85) (by rw [hc13]; decide) (by rw [hc13]; decide) (by rw [hc13]; decide) (by decide) ?_
                refine lv_aload_n F.1 F.2.1 dX8_ofBy_86 rfl (lv_at hl 0 rfl) ?_
                refine gX8_68 F hw rfl dX8_ofBy_87 ?_
                refine lv_iload_n F.1 F.2.1 dX8_ofBy_90 rfl (lv_at hl 1 rfl) ?_
                refine r_iald F hw (n := 6) rfl dX8_ofBy_91 hf (fun hi14 hf => ?_)
                exact r_iret_o F hw (vp_nar_int _) dX8_ofBy_92 hf
              · rw [if_neg hc13] at hf
                refine lv_tableOut F.1 F.2.1 dX8_ofBy_1 (tgt := 93) (by have hc1t := lv_neT (a := 0) hc1 (by decide); have hc3t := lv_neT (a := 1) hc3 (by decide); have hc5t := lv_neT (a := 2) hc5 (by decide); have hc7t := lv_neT (a := 3) hc7 (by decide); have hc9t := lv_neT (a := 4) hc9 (by decide); have hc11t := lv_neT (a := 5) hc11 (by decide); have hc13t := lv_neT (a := 6) hc13 (by decide); omega) (by decide) ?_
                refine lv_aload_n F.1 F.2.1 dX8_ofBy_93 rfl (lv_at hl 0 rfl) ?_
                refine gX8_71 F hw rfl dX8_ofBy_94 ?_
                refine lv_iload_n F.1 F.2.1 dX8_ofBy_97 rfl (lv_at hl 1 rfl) ?_
                refine r_iald F hw (n := 6) rfl dX8_ofBy_98 hf (fun hi15 hf => ?_)
                exact r_iret_o F hw (vp_nar_int _) dX8_ofBy_99 hf
theorem clX8_234 (F : Fx D cA RX8 cc nL ret p s m args meth c) (hw : Wd shM D cA ad H0 M H locs) (hl : lv_has ls nL lv) {v1 : Int32} {v2 : Int32} (hR : 1 ≤ R.frames ∧ 22 ≤ R.locals) (hrm : (rest.map fun v => v.category).sum ≤ 8) (hd : decode cc pc = .ok (.invokevirtual 234, 3)) {α : Type} {K : Int32 → Option α} {res : α} (hf : bnd1 (fX8_ofBy v1 v2 M) K = some res) (kk : ∀ (t : Int32) (H1 : Heap) (locs1 : List Loc), Wd shM D cA ad H0 M H1 locs1 → narrow .int (.int t) = .int t → K t = some res → W p l e R s m args below meth c H1 locs1 0 0 Q (F0 m (pc + 3) ls (.int t :: rest))) : W p l e R s m args below meth c H locs 0 0 Q (F0 m pc ls (.int v2 :: .int v1 :: .ref (ad 0) :: rest)) := by
  obtain ⟨t, h1, h2⟩ := bnd1_some hf
  exact r_afti hw (r_runV (As := [.int v1, .int v2]) F hw hl (cX8_ofBy_ok l D cA ad M v1 v2 t h1) cz8 (show shM[0]? = some (.inr (8, sf8)) from rfl) cwX8_234 hR hrm hd) (fun H1 o1 hw1 hn => kk t H1 o1 hw1 hn h2)
def fX8_of (v1 : Int32) (v2 : Int32) (M : Mem) : Option (Int32 × Mem) :=
  if (fX8_isSender v1 M) = 0 then
    bnd2 (fX8_bad M) fun t8 M7 =>
    some (t8, M7)
  else
    if (fX8_in v2 (0 : Int32) (7 : Int32)) = 0 then
      bnd2 (fX8_bad M) fun t16 M15 =>
      some (t16, M15)
    else
      bnd1 (fX8_ofBy v1 v2 M) fun t20 =>
      some (t20, M)
set_option maxHeartbeats 4000000 in
set_option maxRecDepth 100000 in
theorem cX8_of_ok (l : Launch) (D : va_G) (cA : Nat → ClassId) (ad : Nat → Nat) (M : Mem) (v1 : Int32) (v2 : Int32) (r : Int32) (M' : Mem) (hf : fX8_of v1 v2 M = some (r, M')) : Ctg l yX8_of cX8_of 3 (some .int) 2 43 shM D cA ad [.ref (ad 0), .int v1, .int v2] M (Qzi shM D cA ad .int r M') := by
  refine ct_in (by decide) (Nat.le_of_ble_eq_true rfl) ?_
  intro p e s m below meth c ls F hl hw
  have hl : lv_has ls 3 [(0, .ref (ad 0)), (1, .int v1), (2, .int v2)] := hl
  unfold fX8_of at hf
  refine lv_aload_n F.1 F.2.1 dX8_of_0 rfl (lv_at hl 0 rfl) ?_
  refine lv_iload_n F.1 F.2.1 dX8_of_1 rfl (lv_at hl 1 rfl) ?_
  refine clX8_142 F hw hl ⟨Nat.le_of_ble_eq_true rfl, Nat.le_of_ble_eq_true rfl⟩ (Nat.le_of_ble_eq_true rfl) dX8_of_2 (fun H1 o2 hw hn3 => ?_)
  refine b_if_eq F dX8_of_5 (tgt := 27) (by decide) hf (fun hc22 hf => ?_) (fun hc22 hf => ?_)
  · refine lv_aload_n F.1 F.2.1 dX8_of_27 rfl (lv_at hl 0 rfl) ?_
    refine clX8_127 F hw hl ⟨Nat.le_of_ble_eq_true rfl, Nat.le_of_ble_eq_true rfl⟩ (Nat.le_of_ble_eq_true rfl) dX8_of_28 hf (fun t8 M7 H4 o5 hw hn6 hf => ?_)
    exact r_iret_w F hw (vp_nar_int _) dX8_of_31 hf
  · refine lv_iload_n F.1 F.2.1 dX8_of_8 rfl (lv_at hl 2 rfl) ?_
    refine k_iconst_0 F dX8_of_9 ?_
    refine k_bipush_7 F dX8_of_10 ?_
    refine clX8_110 F hw hl ⟨Nat.le_of_ble_eq_true rfl, Nat.le_of_ble_eq_true rfl⟩ (Nat.le_of_ble_eq_true rfl) dX8_of_12 (fun H9 o10 hw hn11 => ?_)
    refine b_if_eq F dX8_of_15 (tgt := 27) (by decide) hf (fun hc21 hf => ?_) (fun hc21 hf => ?_)
    · refine lv_aload_n F.1 F.2.1 dX8_of_27 rfl (lv_at hl 0 rfl) ?_
      refine clX8_127 F hw hl ⟨Nat.le_of_ble_eq_true rfl, Nat.le_of_ble_eq_true rfl⟩ (Nat.le_of_ble_eq_true rfl) dX8_of_28 hf (fun t16 M15 H12 o13 hw hn14 hf => ?_)
      exact r_iret_w F hw (vp_nar_int _) dX8_of_31 hf
    · refine lv_aload_n F.1 F.2.1 dX8_of_18 rfl (lv_at hl 0 rfl) ?_
      refine lv_iload_n F.1 F.2.1 dX8_of_19 rfl (lv_at hl 1 rfl) ?_
      refine lv_iload_n F.1 F.2.1 dX8_of_20 rfl (lv_at hl 2 rfl) ?_
      refine clX8_234 F hw hl ⟨Nat.le_of_ble_eq_true rfl, Nat.le_of_ble_eq_true rfl⟩ (Nat.le_of_ble_eq_true rfl) dX8_of_21 hf (fun t20 H17 o18 hw hn19 hf => ?_)
      refine lv_goto F.1 F.2.1 dX8_of_24 (tgt := 31) (by decide) ?_
      exact r_iret_w F hw (vp_nar_int _) dX8_of_31 hf
def fX8_margin (v1 : Int32) (v2 : Int32) (M : Mem) : Option (Int32 × Mem) :=
  if (fX8_isSender v1 M) = 0 then
    bnd2 (fX8_bad M) fun t8 M7 =>
    some (t8, M7)
  else
    if 0 ≤ v2 then
      ix v1 6 <|
      if (M 15 v1.toNatClampNeg) ≤ v2 then
        some ((-1000 : Int32), M)
      else
        ix (((4 : Int32) * v1) + v2) 24 <|
        some ((M 16 (((4 : Int32) * v1) + v2).toNatClampNeg), M)
    else
      bnd2 (fX8_bad M) fun t16 M15 =>
      some (t16, M15)
set_option maxHeartbeats 4000000 in
set_option maxRecDepth 100000 in
theorem cX8_margin_ok (l : Launch) (D : va_G) (cA : Nat → ClassId) (ad : Nat → Nat) (M : Mem) (v1 : Int32) (v2 : Int32) (r : Int32) (M' : Mem) (hf : fX8_margin v1 v2 M = some (r, M')) : Ctg l yX8_margin cX8_margin 3 (some .int) 2 43 shM D cA ad [.ref (ad 0), .int v1, .int v2] M (Qzi shM D cA ad .int r M') := by
  refine ct_in (by decide) (Nat.le_of_ble_eq_true rfl) ?_
  intro p e s m below meth c ls F hl hw
  have hl : lv_has ls 3 [(0, .ref (ad 0)), (1, .int v1), (2, .int v2)] := hl
  unfold fX8_margin at hf
  refine lv_aload_n F.1 F.2.1 dX8_margin_0 rfl (lv_at hl 0 rfl) ?_
  refine lv_iload_n F.1 F.2.1 dX8_margin_1 rfl (lv_at hl 1 rfl) ?_
  refine clX8_142 F hw hl ⟨Nat.le_of_ble_eq_true rfl, Nat.le_of_ble_eq_true rfl⟩ (Nat.le_of_ble_eq_true rfl) dX8_margin_2 (fun H1 o2 hw hn3 => ?_)
  refine b_if_eq F dX8_margin_5 (tgt := 12) (by decide) hf (fun hc18 hf => ?_) (fun hc18 hf => ?_)
  · refine lv_aload_n F.1 F.2.1 dX8_margin_12 rfl (lv_at hl 0 rfl) ?_
    refine clX8_127 F hw hl ⟨Nat.le_of_ble_eq_true rfl, Nat.le_of_ble_eq_true rfl⟩ (Nat.le_of_ble_eq_true rfl) dX8_margin_13 hf (fun t8 M7 H4 o5 hw hn6 hf => ?_)
    exact r_iret_w F hw (vp_nar_int _) dX8_margin_16 hf
  · refine lv_iload_n F.1 F.2.1 dX8_margin_8 rfl (lv_at hl 2 rfl) ?_
    refine b_if_ge F dX8_margin_9 (tgt := 17) (by decide) hf (fun hc17 hf => ?_) (fun hc17 hf => ?_)
    · refine lv_iload_n F.1 F.2.1 dX8_margin_17 rfl (lv_at hl 2 rfl) ?_
      refine lv_aload_n F.1 F.2.1 dX8_margin_18 rfl (lv_at hl 0 rfl) ?_
      refine gX8_62 F hw rfl dX8_margin_19 ?_
      refine lv_iload_n F.1 F.2.1 dX8_margin_22 rfl (lv_at hl 1 rfl) ?_
      refine r_iald F hw (n := 6) rfl dX8_margin_23 hf (fun hi9 hf => ?_)
      refine b_icmp_ge F dX8_margin_24 (tgt := 40) (by decide) hf (fun hc11 hf => ?_) (fun hc11 hf => ?_)
      · refine k_sipush_m1000 F dX8_margin_40 ?_
        exact r_iret_w F hw (vp_nar_int _) dX8_margin_43 hf
      · refine lv_aload_n F.1 F.2.1 dX8_margin_27 rfl (lv_at hl 0 rfl) ?_
        refine gX8_65 F hw rfl dX8_margin_28 ?_
        refine k_iconst_4 F dX8_margin_31 ?_
        refine lv_iload_n F.1 F.2.1 dX8_margin_32 rfl (lv_at hl 1 rfl) ?_
        refine lv_imul F.1 F.2.1 dX8_margin_33 ?_
        refine lv_iload_n F.1 F.2.1 dX8_margin_34 rfl (lv_at hl 2 rfl) ?_
        refine lv_iadd F.1 F.2.1 dX8_margin_35 ?_
        refine r_iald F hw (n := 24) rfl dX8_margin_36 hf (fun hi10 hf => ?_)
        refine lv_goto F.1 F.2.1 dX8_margin_37 (tgt := 43) (by decide) ?_
        exact r_iret_w F hw (vp_nar_int _) dX8_margin_43 hf
    · refine lv_aload_n F.1 F.2.1 dX8_margin_12 rfl (lv_at hl 0 rfl) ?_
      refine clX8_127 F hw hl ⟨Nat.le_of_ble_eq_true rfl, Nat.le_of_ble_eq_true rfl⟩ (Nat.le_of_ble_eq_true rfl) dX8_margin_13 hf (fun t16 M15 H12 o13 hw hn14 hf => ?_)
      exact r_iret_w F hw (vp_nar_int _) dX8_margin_16 hf
def fX8_hears (v1 : Int32) (v2 : Int32) (M : Mem) : Option (Int32 × Mem) :=
  jn (
    wr M 1 (0 : Int32).toNatClampNeg ((M 1 (0 : Int32).toNatClampNeg) + (1 : Int32)) fun M8 =>
    some ((-2000 : Int32), M8)) fun j7 =>
  if (fX8_isSender v1 M) = 0 then
    j7
  else
    if (fX8_isGate v2 M) = 0 then
      j7
    else
      bnd1 (fX8_marginOf v1 v2 M) fun t17 =>
      some (t17, M)
set_option maxHeartbeats 4000000 in
set_option maxRecDepth 100000 in
theorem cX8_hears_ok (l : Launch) (D : va_G) (cA : Nat → ClassId) (ad : Nat → Nat) (M : Mem) (v1 : Int32) (v2 : Int32) (r : Int32) (M' : Mem) (hf : fX8_hears v1 v2 M = some (r, M')) : Ctg l yX8_hears cX8_hears 3 (some .int) 2 43 shM D cA ad [.ref (ad 0), .int v1, .int v2] M (Qzi shM D cA ad .int r M') := by
  refine ct_in (by decide) (Nat.le_of_ble_eq_true rfl) ?_
  intro p e s m below meth c ls F hl hw
  have hl : lv_has ls 3 [(0, .ref (ad 0)), (1, .int v1), (2, .int v2)] := hl
  unfold fX8_hears at hf
  refine lv_aload_n F.1 F.2.1 dX8_hears_0 rfl (lv_at hl 0 rfl) ?_
  refine lv_iload_n F.1 F.2.1 dX8_hears_1 rfl (lv_at hl 1 rfl) ?_
  refine clX8_142 F hw hl ⟨Nat.le_of_ble_eq_true rfl, Nat.le_of_ble_eq_true rfl⟩ (Nat.le_of_ble_eq_true rfl) dX8_hears_2 (fun H1 o2 hw hn3 => ?_)
  refine jn_go0 (∀ (H4 : Heap) (o5 : List Loc) (ls6 : Array Slot), lv_has ls6 3 [(0, .ref (ad 0))] → Wd shM D cA ad s.heap M H4 o5 → W p l e (rz 2 43) s m ([.ref (ad 0), .int v1, .int v2] : List Value).toArray below meth c H4 o5 0 0 (MQ below (Qzi shM D cA ad .int r M') ([.ref (ad 0), .int v1, .int v2] : List Value).toArray s 0 0 (Az shM ad)) (F0 m 16 ls6 [])) hf (fun hf H4 o5 ls6 hl hw => ?_) (fun j7 Jj7 hf => ?_)
  · refine lv_aload_n F.1 F.2.1 dX8_hears_16 rfl (lv_at hl 0 rfl) ?_
    refine gX8_7 F hw rfl dX8_hears_17 ?_
    refine k_iconst_0 F dX8_hears_20 ?_
    refine lv_dup2_11 F.1 F.2.1 dX8_hears_21 rfl rfl ?_
    refine r_iald0 F hw (n := 3) rfl dX8_hears_22 (by unfold vp_in; decide) ?_
    refine k_iconst_1 F dX8_hears_23 ?_
    refine lv_iadd F.1 F.2.1 dX8_hears_24 ?_
    refine r_iast0 F hw (n := 3) rfl dX8_hears_25 (by unfold vp_in; decide) hf (fun M8 H9 o10 hw hf => ?_)
    refine k_sipush_m2000 F dX8_hears_26 ?_
    exact r_iret_w F hw (vp_nar_int _) dX8_hears_29 hf
  · refine b_if_eq F dX8_hears_5 (tgt := 16) (by decide) hf (fun hc19 hf => ?_) (fun hc19 hf => ?_)
    · exact Jj7 hf _ _ _ (lv_sub hl [0] rfl) hw
    · refine lv_aload_n F.1 F.2.1 dX8_hears_8 rfl (lv_at hl 0 rfl) ?_
      refine lv_iload_n F.1 F.2.1 dX8_hears_9 rfl (lv_at hl 2 rfl) ?_
      refine clX8_134 F hw hl ⟨Nat.le_of_ble_eq_true rfl, Nat.le_of_ble_eq_true rfl⟩ (Nat.le_of_ble_eq_true rfl) dX8_hears_10 (fun H11 o12 hw hn13 => ?_)
      refine b_if_ne F dX8_hears_13 (tgt := 30) (by decide) hf (fun hc18 hf => ?_) (fun hc18 hf => ?_)
      · exact Jj7 hf _ _ _ (lv_sub hl [0] rfl) hw
      · refine lv_aload_n F.1 F.2.1 dX8_hears_30 rfl (lv_at hl 0 rfl) ?_
        refine lv_iload_n F.1 F.2.1 dX8_hears_31 rfl (lv_at hl 1 rfl) ?_
        refine lv_iload_n F.1 F.2.1 dX8_hears_32 rfl (lv_at hl 2 rfl) ?_
        refine clX8_160 F hw hl ⟨Nat.le_of_ble_eq_true rfl, Nat.le_of_ble_eq_true rfl⟩ (Nat.le_of_ble_eq_true rfl) dX8_hears_33 hf (fun t17 H14 o15 hw hn16 hf => ?_)
        exact r_iret_w F hw (vp_nar_int _) dX8_hears_36 hf
def fX8_atBy (v1 : Int32) (v2 : Int32) (M : Mem) : Option Int32 :=
  if v2 = 0 then
    ix v1 4 <|
    some (M 5 v1.toNatClampNeg)
  else
    if v2 = (1 : Int32) then
      ix v1 4 <|
      some (M 6 v1.toNatClampNeg)
    else
      if v2 = (2 : Int32) then
        ix v1 4 <|
        some ((M 3 v1.toNatClampNeg) - (M 4 v1.toNatClampNeg))
      else
        ix v1 4 <|
        some (M 7 v1.toNatClampNeg)
set_option maxHeartbeats 4000000 in
set_option maxRecDepth 100000 in
theorem cX8_atBy_ok (l : Launch) (D : va_G) (cA : Nat → ClassId) (ad : Nat → Nat) (M : Mem) (v1 : Int32) (v2 : Int32) (r : Int32) (hf : fX8_atBy v1 v2 M = some r) : Ctg l yX8_atBy cX8_atBy 3 (some .int) 0 0 shM D cA ad [.ref (ad 0), .int v1, .int v2] M (Qzi shM D cA ad .int r M) := by
  refine ct_in (by decide) (Nat.le_of_ble_eq_true rfl) ?_
  intro p e s m below meth c ls F hl hw
  have hl : lv_has ls 3 [(0, .ref (ad 0)), (1, .int v1), (2, .int v2)] := hl
  unfold fX8_atBy at hf
  refine lv_iload_n F.1 F.2.1 dX8_atBy_0 rfl (lv_at hl 2 rfl) ?_
  refine b_if_ne F dX8_atBy_1 (tgt := 13) (by decide) hf (fun hc7 hf => ?_) (fun hc7 hf => ?_)
  · refine lv_aload_n F.1 F.2.1 dX8_atBy_4 rfl (lv_at hl 0 rfl) ?_
    refine gX8_32 F hw rfl dX8_atBy_5 ?_
    refine lv_iload_n F.1 F.2.1 dX8_atBy_8 rfl (lv_at hl 1 rfl) ?_
    refine r_iald F hw (n := 4) rfl dX8_atBy_9 hf (fun hi6 hf => ?_)
    refine lv_goto F.1 F.2.1 dX8_atBy_10 (tgt := 54) (by decide) ?_
    exact r_iret_o F hw (vp_nar_int _) dX8_atBy_54 hf
  · refine lv_iload_n F.1 F.2.1 dX8_atBy_13 rfl (lv_at hl 2 rfl) ?_
    refine k_iconst_1 F dX8_atBy_14 ?_
    refine b_icmp_ne F dX8_atBy_15 (tgt := 27) (by decide) hf (fun hc5 hf => ?_) (fun hc5 hf => ?_)
    · refine lv_aload_n F.1 F.2.1 dX8_atBy_18 rfl (lv_at hl 0 rfl) ?_
      refine gX8_35 F hw rfl dX8_atBy_19 ?_
      refine lv_iload_n F.1 F.2.1 dX8_atBy_22 rfl (lv_at hl 1 rfl) ?_
      refine r_iald F hw (n := 4) rfl dX8_atBy_23 hf (fun hi4 hf => ?_)
      refine lv_goto F.1 F.2.1 dX8_atBy_24 (tgt := 54) (by decide) ?_
      exact r_iret_o F hw (vp_nar_int _) dX8_atBy_54 hf
    · refine lv_iload_n F.1 F.2.1 dX8_atBy_27 rfl (lv_at hl 2 rfl) ?_
      refine k_iconst_2 F dX8_atBy_28 ?_
      refine b_icmp_ne F dX8_atBy_29 (tgt := 48) (by decide) hf (fun hc3 hf => ?_) (fun hc3 hf => ?_)
      · refine lv_aload_n F.1 F.2.1 dX8_atBy_32 rfl (lv_at hl 0 rfl) ?_
        refine gX8_26 F hw rfl dX8_atBy_33 ?_
        refine lv_iload_n F.1 F.2.1 dX8_atBy_36 rfl (lv_at hl 1 rfl) ?_
        refine r_iald F hw (n := 4) rfl dX8_atBy_37 hf (fun hi2 hf => ?_)
        refine lv_aload_n F.1 F.2.1 dX8_atBy_38 rfl (lv_at hl 0 rfl) ?_
        refine gX8_29 F hw rfl dX8_atBy_39 ?_
        refine lv_iload_n F.1 F.2.1 dX8_atBy_42 rfl (lv_at hl 1 rfl) ?_
        refine r_iald0 F hw (n := 4) rfl dX8_atBy_43 hi2 ?_
        refine lv_isub F.1 F.2.1 dX8_atBy_44 ?_
        refine lv_goto F.1 F.2.1 dX8_atBy_45 (tgt := 54) (by decide) ?_
        exact r_iret_o F hw (vp_nar_int _) dX8_atBy_54 hf
      · refine lv_aload_n F.1 F.2.1 dX8_atBy_48 rfl (lv_at hl 0 rfl) ?_
        refine gX8_38 F hw rfl dX8_atBy_49 ?_
        refine lv_iload_n F.1 F.2.1 dX8_atBy_52 rfl (lv_at hl 1 rfl) ?_
        refine r_iald F hw (n := 4) rfl dX8_atBy_53 hf (fun hi1 hf => ?_)
        exact r_iret_o F hw (vp_nar_int _) dX8_atBy_54 hf
theorem clX8_237 (F : Fx D cA RX8 cc nL ret p s m args meth c) (hw : Wd shM D cA ad H0 M H locs) (hl : lv_has ls nL lv) {v1 : Int32} {v2 : Int32} (hR : 1 ≤ R.frames ∧ 22 ≤ R.locals) (hrm : (rest.map fun v => v.category).sum ≤ 8) (hd : decode cc pc = .ok (.invokevirtual 237, 3)) {α : Type} {K : Int32 → Option α} {res : α} (hf : bnd1 (fX8_atBy v1 v2 M) K = some res) (kk : ∀ (t : Int32) (H1 : Heap) (locs1 : List Loc), Wd shM D cA ad H0 M H1 locs1 → narrow .int (.int t) = .int t → K t = some res → W p l e R s m args below meth c H1 locs1 0 0 Q (F0 m (pc + 3) ls (.int t :: rest))) : W p l e R s m args below meth c H locs 0 0 Q (F0 m pc ls (.int v2 :: .int v1 :: .ref (ad 0) :: rest)) := by
  obtain ⟨t, h1, h2⟩ := bnd1_some hf
  exact r_afti hw (r_runV (As := [.int v1, .int v2]) F hw hl (cX8_atBy_ok l D cA ad M v1 v2 t h1) cz8 (show shM[0]? = some (.inr (8, sf8)) from rfl) cwX8_237 hR hrm hd) (fun H1 o1 hw1 hn => kk t H1 o1 hw1 hn h2)
def fX8_at (v1 : Int32) (v2 : Int32) (M : Mem) : Option (Int32 × Mem) :=
  if (fX8_isGate v1 M) = 0 then
    bnd2 (fX8_bad M) fun t8 M7 =>
    some (t8, M7)
  else
    if (fX8_in v2 (0 : Int32) (3 : Int32)) = 0 then
      bnd2 (fX8_bad M) fun t16 M15 =>
      some (t16, M15)
    else
      bnd1 (fX8_atBy v1 v2 M) fun t20 =>
      some (t20, M)
set_option maxHeartbeats 4000000 in
set_option maxRecDepth 100000 in
theorem cX8_at_ok (l : Launch) (D : va_G) (cA : Nat → ClassId) (ad : Nat → Nat) (M : Mem) (v1 : Int32) (v2 : Int32) (r : Int32) (M' : Mem) (hf : fX8_at v1 v2 M = some (r, M')) : Ctg l yX8_at cX8_at 3 (some .int) 2 43 shM D cA ad [.ref (ad 0), .int v1, .int v2] M (Qzi shM D cA ad .int r M') := by
  refine ct_in (by decide) (Nat.le_of_ble_eq_true rfl) ?_
  intro p e s m below meth c ls F hl hw
  have hl : lv_has ls 3 [(0, .ref (ad 0)), (1, .int v1), (2, .int v2)] := hl
  unfold fX8_at at hf
  refine lv_aload_n F.1 F.2.1 dX8_at_0 rfl (lv_at hl 0 rfl) ?_
  refine lv_iload_n F.1 F.2.1 dX8_at_1 rfl (lv_at hl 1 rfl) ?_
  refine clX8_134 F hw hl ⟨Nat.le_of_ble_eq_true rfl, Nat.le_of_ble_eq_true rfl⟩ (Nat.le_of_ble_eq_true rfl) dX8_at_2 (fun H1 o2 hw hn3 => ?_)
  refine b_if_eq F dX8_at_5 (tgt := 26) (by decide) hf (fun hc22 hf => ?_) (fun hc22 hf => ?_)
  · refine lv_aload_n F.1 F.2.1 dX8_at_26 rfl (lv_at hl 0 rfl) ?_
    refine clX8_127 F hw hl ⟨Nat.le_of_ble_eq_true rfl, Nat.le_of_ble_eq_true rfl⟩ (Nat.le_of_ble_eq_true rfl) dX8_at_27 hf (fun t8 M7 H4 o5 hw hn6 hf => ?_)
    exact r_iret_w F hw (vp_nar_int _) dX8_at_30 hf
  · refine lv_iload_n F.1 F.2.1 dX8_at_8 rfl (lv_at hl 2 rfl) ?_
    refine k_iconst_0 F dX8_at_9 ?_
    refine k_iconst_3 F dX8_at_10 ?_
    refine clX8_110 F hw hl ⟨Nat.le_of_ble_eq_true rfl, Nat.le_of_ble_eq_true rfl⟩ (Nat.le_of_ble_eq_true rfl) dX8_at_11 (fun H9 o10 hw hn11 => ?_)
    refine b_if_eq F dX8_at_14 (tgt := 26) (by decide) hf (fun hc21 hf => ?_) (fun hc21 hf => ?_)
    · refine lv_aload_n F.1 F.2.1 dX8_at_26 rfl (lv_at hl 0 rfl) ?_
      refine clX8_127 F hw hl ⟨Nat.le_of_ble_eq_true rfl, Nat.le_of_ble_eq_true rfl⟩ (Nat.le_of_ble_eq_true rfl) dX8_at_27 hf (fun t16 M15 H12 o13 hw hn14 hf => ?_)
      exact r_iret_w F hw (vp_nar_int _) dX8_at_30 hf
    · refine lv_aload_n F.1 F.2.1 dX8_at_17 rfl (lv_at hl 0 rfl) ?_
      refine lv_iload_n F.1 F.2.1 dX8_at_18 rfl (lv_at hl 1 rfl) ?_
      refine lv_iload_n F.1 F.2.1 dX8_at_19 rfl (lv_at hl 2 rfl) ?_
      refine clX8_237 F hw hl ⟨Nat.le_of_ble_eq_true rfl, Nat.le_of_ble_eq_true rfl⟩ (Nat.le_of_ble_eq_true rfl) dX8_at_20 hf (fun t20 H17 o18 hw hn19 hf => ?_)
      refine lv_goto F.1 F.2.1 dX8_at_23 (tgt := 30) (by decide) ?_
      exact r_iret_w F hw (vp_nar_int _) dX8_at_30 hf
end RW
