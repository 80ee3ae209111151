section RW
variable {p : Program} {l : Launch} {e : Env} {R : Room} {s : State} {m : MethodId} {args : Array Value} {below : List Frame} {meth : Method} {c : Code} {H : Heap} {locs : List Loc} {Q : State → Prop}
variable {sh : List Sh} {D : va_G} {cA : Nat → ClassId} {ad : Nat → Nat} {H0 : Heap} {M : Mem} {cc : ByteArray} {own : String} {nL : Nat} {ret : Option FieldType} {pc : Nat} {ls : Array Slot} {rest : List Value} {lv : List (Nat × Value)}
def fX8_bad (M : Mem) : Option (Int32 × Mem) :=
  wr M 1 (0 : Int32).toNatClampNeg ((M 1 (0 : Int32).toNatClampNeg) + (1 : Int32)) fun M1 =>
  some ((-2 : Int32), M1)
set_option maxHeartbeats 4000000 in
set_option maxRecDepth 100000 in
theorem cX8_bad_ok (l : Launch) (D : va_G) (cA : Nat → ClassId) (ad : Nat → Nat) (M : Mem)  (r : Int32) (M' : Mem) (hf : fX8_bad M = some (r, M')) : Ctg l yX8_bad cX8_bad 1 (some .int) 0 0 shM D cA ad [.ref (ad 0)] M (Qzi shM D cA ad .int r M') := by
  refine ct_in (by decide) (Nat.le_of_ble_eq_true rfl) ?_
  intro p e s m below meth c ls F hl hw
  have hl : lv_has ls 1 [(0, .ref (ad 0))] := hl
  unfold fX8_bad at hf
  refine lv_aload_n F.1 F.2.1 dX8_bad_0 rfl (lv_at hl 0 rfl) ?_
  refine gX8_7 F hw rfl dX8_bad_1 ?_
  refine k_iconst_0 F dX8_bad_4 ?_
  refine lv_dup2_11 F.1 F.2.1 dX8_bad_5 rfl rfl ?_
  refine r_iald0 F hw (n := 3) rfl dX8_bad_6 (by unfold vp_in; decide) ?_
  refine k_iconst_1 F dX8_bad_7 ?_
  refine lv_iadd F.1 F.2.1 dX8_bad_8 ?_
  refine r_iast0 F hw (n := 3) rfl dX8_bad_9 (by unfold vp_in; decide) hf (fun M1 H2 o3 hw hf => ?_)
  refine k_bipush_m2 F dX8_bad_10 ?_
  exact r_iret_w F hw (vp_nar_int _) dX8_bad_12 hf
theorem clX8_127 (F : Fx D cA RX8 cc nL ret p s m args meth c) (hw : Wd shM D cA ad H0 M H locs) (hl : lv_has ls nL lv) (hR : 1 ≤ R.frames ∧ 20 ≤ R.locals) (hrm : (rest.map fun v => v.category).sum ≤ 8) (hd : decode cc pc = .ok (.invokevirtual 127, 3)) {α : Type} {K : Int32 → Mem → Option α} {res : α} (hf : bnd2 (fX8_bad M) K = some res) (kk : ∀ (t : Int32) (M1 : Mem) (H1 : Heap) (locs1 : List Loc), Wd shM D cA ad H0 M1 H1 locs1 → narrow .int (.int t) = .int t → K t M1 = some res → W p l e R s m args below meth c H1 locs1 0 0 Q (F0 m (pc + 3) ls (.int t :: rest))) : W p l e R s m args below meth c H locs 0 0 Q (F0 m pc ls (.ref (ad 0) :: rest)) := by
  obtain ⟨t, M1, h1, h2⟩ := bnd2_some hf
  exact r_afti hw (r_runV (As := []) F hw hl (cX8_bad_ok l D cA ad M t M1 h1) cz8 (show shM[0]? = some (.inr (8, sf8)) from rfl) cwX8_127 hR hrm hd) (fun H1 o1 hw1 hn => kk t M1 H1 o1 hw1 hn h2)
def fX8_no (M : Mem) : Option (Int32 × Mem) :=
  wr M 1 (1 : Int32).toNatClampNeg ((M 1 (1 : Int32).toNatClampNeg) + (1 : Int32)) fun M1 =>
  some ((-3 : Int32), M1)
set_option maxHeartbeats 4000000 in
set_option maxRecDepth 100000 in
theorem cX8_no_ok (l : Launch) (D : va_G) (cA : Nat → ClassId) (ad : Nat → Nat) (M : Mem)  (r : Int32) (M' : Mem) (hf : fX8_no M = some (r, M')) : Ctg l yX8_no cX8_no 1 (some .int) 0 0 shM D cA ad [.ref (ad 0)] M (Qzi shM D cA ad .int r M') := by
  refine ct_in (by decide) (Nat.le_of_ble_eq_true rfl) ?_
  intro p e s m below meth c ls F hl hw
  have hl : lv_has ls 1 [(0, .ref (ad 0))] := hl
  unfold fX8_no at hf
  refine lv_aload_n F.1 F.2.1 dX8_no_0 rfl (lv_at hl 0 rfl) ?_
  refine gX8_7 F hw rfl dX8_no_1 ?_
  refine k_iconst_1 F dX8_no_4 ?_
  refine lv_dup2_11 F.1 F.2.1 dX8_no_5 rfl rfl ?_
  refine r_iald0 F hw (n := 3) rfl dX8_no_6 (by unfold vp_in; decide) ?_
  refine k_iconst_1 F dX8_no_7 ?_
  refine lv_iadd F.1 F.2.1 dX8_no_8 ?_
  refine r_iast0 F hw (n := 3) rfl dX8_no_9 (by unfold vp_in; decide) hf (fun M1 H2 o3 hw hf => ?_)
  refine k_bipush_m3 F dX8_no_10 ?_
  exact r_iret_w F hw (vp_nar_int _) dX8_no_12 hf
theorem clX8_177 (F : Fx D cA RX8 cc nL ret p s m args meth c) (hw : Wd shM D cA ad H0 M H locs) (hl : lv_has ls nL lv) (hR : 1 ≤ R.frames ∧ 20 ≤ R.locals) (hrm : (rest.map fun v => v.category).sum ≤ 8) (hd : decode cc pc = .ok (.invokevirtual 177, 3)) {α : Type} {K : Int32 → Mem → Option α} {res : α} (hf : bnd2 (fX8_no M) K = some res) (kk : ∀ (t : Int32) (M1 : Mem) (H1 : Heap) (locs1 : List Loc), Wd shM D cA ad H0 M1 H1 locs1 → narrow .int (.int t) = .int t → K t M1 = some res → W p l e R s m args below meth c H1 locs1 0 0 Q (F0 m (pc + 3) ls (.int t :: rest))) : W p l e R s m args below meth c H locs 0 0 Q (F0 m pc ls (.ref (ad 0) :: rest)) := by
  obtain ⟨t, M1, h1, h2⟩ := bnd2_some hf
  exact r_afti hw (r_runV (As := []) F hw hl (cX8_no_ok l D cA ad M t M1 h1) cz8 (show shM[0]? = some (.inr (8, sf8)) from rfl) cwX8_177 hR hrm hd) (fun H1 o1 hw1 hn => kk t M1 H1 o1 hw1 hn h2)
def fX8_full (M : Mem) : Option (Int32 × Mem) :=
  wr M 1 (2 : Int32).toNatClampNeg ((M 1 (2 : Int32).toNatClampNeg) + (1 : Int32)) fun M1 =>
  some ((-4 : Int32), M1)
set_option maxHeartbeats 4000000 in
set_option maxRecDepth 100000 in
theorem cX8_full_ok (l : Launch) (D : va_G) (cA : Nat → ClassId) (ad : Nat → Nat) (M : Mem)  (r : Int32) (M' : Mem) (hf : fX8_full M = some (r, M')) : Ctg l yX8_full cX8_full 1 (some .int) 0 0 shM D cA ad [.ref (ad 0)] M (Qzi shM D cA ad .int r M') := by
  refine ct_in (by decide) (Nat.le_of_ble_eq_true rfl) ?_
  intro p e s m below meth c ls F hl hw
  have hl : lv_has ls 1 [(0, .ref (ad 0))] := hl
  unfold fX8_full at hf
  refine lv_aload_n F.1 F.2.1 dX8_full_0 rfl (lv_at hl 0 rfl) ?_
  refine gX8_7 F hw rfl dX8_full_1 ?_
  refine k_iconst_2 F dX8_full_4 ?_
  refine lv_dup2_11 F.1 F.2.1 dX8_full_5 rfl rfl ?_
  refine r_iald0 F hw (n := 3) rfl dX8_full_6 (by unfold vp_in; decide) ?_
  refine k_iconst_1 F dX8_full_7 ?_
  refine lv_iadd F.1 F.2.1 dX8_full_8 ?_
  refine r_iast0 F hw (n := 3) rfl dX8_full_9 (by unfold vp_in; decide) hf (fun M1 H2 o3 hw hf => ?_)
  refine k_bipush_m4 F dX8_full_10 ?_
  exact r_iret_w F hw (vp_nar_int _) dX8_full_12 hf
theorem clX8_174 (F : Fx D cA RX8 cc nL ret p s m args meth c) (hw : Wd shM D cA ad H0 M H locs) (hl : lv_has ls nL lv) (hR : 1 ≤ R.frames ∧ 20 ≤ R.locals) (hrm : (rest.map fun v => v.category).sum ≤ 8) (hd : decode cc pc = .ok (.invokevirtual 174, 3)) {α : Type} {K : Int32 → Mem → Option α} {res : α} (hf : bnd2 (fX8_full M) K = some res) (kk : ∀ (t : Int32) (M1 : Mem) (H1 : Heap) (locs1 : List Loc), Wd shM D cA ad H0 M1 H1 locs1 → narrow .int (.int t) = .int t → K t M1 = some res → W p l e R s m args below meth c H1 locs1 0 0 Q (F0 m (pc + 3) ls (.int t :: rest))) : W p l e R s m args below meth c H locs 0 0 Q (F0 m pc ls (.ref (ad 0) :: rest)) := by
  obtain ⟨t, M1, h1, h2⟩ := bnd2_some hf
  exact r_afti hw (r_runV (As := []) F hw hl (cX8_full_ok l D cA ad M t M1 h1) cz8 (show shM[0]? = some (.inr (8, sf8)) from rfl) cwX8_174 hR hrm hd) (fun H1 o1 hw1 hn => kk t M1 H1 o1 hw1 hn h2)
def fX8_in (v0 : Int32) (v1 : Int32) (v2 : Int32) : Int32 :=
  if v0 < v1 then
    (0 : Int32)
  else
    if v2 < v0 then
      (0 : Int32)
    else
      (1 : Int32)
set_option maxHeartbeats 4000000 in
set_option maxRecDepth 100000 in
theorem cX8_in_ok (l : Launch) (D : va_G) (cA : Nat → ClassId) (ad : Nat → Nat) (M : Mem) (v0 : Int32) (v1 : Int32) (v2 : Int32) (r : Int32) (hf : fX8_in v0 v1 v2 = r) : Ctg l yX8_in cX8_in 3 (some .boolean) 0 0 shM D cA ad [.int v0, .int v1, .int v2] M (Qzi shM D cA ad .boolean r M) := by
  refine ct_in (by decide) (Nat.le_of_ble_eq_true rfl) ?_
  intro p e s m below meth c ls F hl hw
  have hl : lv_has ls 3 [(0, .int v0), (1, .int v1), (2, .int v2)] := hl
  unfold fX8_in at hf
  refine lv_iload_n F.1 F.2.1 dX8_in_0 rfl (lv_at hl 0 rfl) ?_
  refine lv_iload_n F.1 F.2.1 dX8_in_1 rfl (lv_at hl 1 rfl) ?_
  refine b_icmp_lt F dX8_in_2 (tgt := 14) (by decide) hf (fun hc2 hf => ?_) (fun hc2 hf => ?_)
  · refine k_iconst_0 F dX8_in_14 ?_
    exact r_iret_t F hw rfl dX8_in_15 hf
  · refine lv_iload_n F.1 F.2.1 dX8_in_5 rfl (lv_at hl 0 rfl) ?_
    refine lv_iload_n F.1 F.2.1 dX8_in_6 rfl (lv_at hl 2 rfl) ?_
    refine b_icmp_gt F dX8_in_7 (tgt := 14) (by decide) hf (fun hc1 hf => ?_) (fun hc1 hf => ?_)
    · refine k_iconst_0 F dX8_in_14 ?_
      exact r_iret_t F hw rfl dX8_in_15 hf
    · refine k_iconst_1 F dX8_in_10 ?_
      refine lv_goto F.1 F.2.1 dX8_in_11 (tgt := 15) (by decide) ?_
      exact r_iret_t F hw rfl dX8_in_15 hf
theorem clX8_110 (F : Fx D cA RX8 cc nL ret p s m args meth c) (hw : Wd shM D cA ad H0 M H locs) (hl : lv_has ls nL lv) {v0 : Int32} {v1 : Int32} {v2 : Int32} (hR : 1 ≤ R.frames ∧ 22 ≤ R.locals) (hrm : (rest.map fun v => v.category).sum ≤ 8) (hd : decode cc pc = .ok (.invokestatic 110, 3)) (kk : ∀ (H1 : Heap) (locs1 : List Loc), Wd shM D cA ad H0 M H1 locs1 → narrow .boolean (.int (fX8_in v0 v1 v2)) = .int (fX8_in v0 v1 v2) → W p l e R s m args below meth c H1 locs1 0 0 Q (F0 m (pc + 3) ls (.int (fX8_in v0 v1 v2) :: rest))) : W p l e R s m args below meth c H locs 0 0 Q (F0 m pc ls (.int v2 :: .int v1 :: .int v0 :: rest)) :=
  r_afti hw (r_runS (As := [.int v0, .int v1, .int v2]) F hw hl (cX8_in_ok l D cA ad M v0 v1 v2 (fX8_in v0 v1 v2) rfl) cwX8_110 hR hrm hd) (fun H1 o1 hw1 hn => kk H1 o1 hw1 hn)
def fX8_isSender (v1 : Int32) (M : Mem) : Int32 :=
  (fX8_in v1 (0 : Int32) ((M 0 1) - (1 : Int32)))
set_option maxHeartbeats 4000000 in
set_option maxRecDepth 100000 in
theorem cX8_isSender_ok (l : Launch) (D : va_G) (cA : Nat → ClassId) (ad : Nat → Nat) (M : Mem) (v1 : Int32) (r : Int32) (hf : fX8_isSender v1 M = r) : Ctg l yX8_isSender cX8_isSender 2 (some .boolean) 1 22 shM D cA ad [.ref (ad 0), .int v1] M (Qzi shM D cA ad .boolean r M) := by
  refine ct_in (by decide) (Nat.le_of_ble_eq_true rfl) ?_
  intro p e s m below meth c ls F hl hw
  have hl : lv_has ls 2 [(0, .ref (ad 0)), (1, .int v1)] := hl
  unfold fX8_isSender at hf
  refine lv_iload_n F.1 F.2.1 dX8_isSender_0 rfl (lv_at hl 1 rfl) ?_
  refine k_iconst_0 F dX8_isSender_1 ?_
  refine lv_aload_n F.1 F.2.1 dX8_isSender_2 rfl (lv_at hl 0 rfl) ?_
  refine gX8_13 F hw rfl dX8_isSender_3 ?_
  refine k_iconst_1 F dX8_isSender_6 ?_
  refine lv_isub F.1 F.2.1 dX8_isSender_7 ?_
  refine clX8_110 F hw hl ⟨Nat.le_of_ble_eq_true rfl, Nat.le_of_ble_eq_true rfl⟩ (Nat.le_of_ble_eq_true rfl) dX8_isSender_8 (fun H1 o2 hw hn3 => ?_)
  exact r_iret_t F hw hn3 dX8_isSender_11 hf
theorem clX8_142 (F : Fx D cA RX8 cc nL ret p s m args meth c) (hw : Wd shM D cA ad H0 M H locs) (hl : lv_has ls nL lv) {v1 : Int32} (hR : 2 ≤ R.frames ∧ 43 ≤ R.locals) (hrm : (rest.map fun v => v.category).sum ≤ 8) (hd : decode cc pc = .ok (.invokevirtual 142, 3)) (kk : ∀ (H1 : Heap) (locs1 : List Loc), Wd shM D cA ad H0 M H1 locs1 → narrow .boolean (.int (fX8_isSender v1 M)) = .int (fX8_isSender v1 M) → W p l e R s m args below meth c H1 locs1 0 0 Q (F0 m (pc + 3) ls (.int (fX8_isSender v1 M) :: rest))) : W p l e R s m args below meth c H locs 0 0 Q (F0 m pc ls (.int v1 :: .ref (ad 0) :: rest)) :=
  r_afti hw (r_runV (As := [.int v1]) F hw hl (cX8_isSender_ok l D cA ad M v1 (fX8_isSender v1 M) rfl) cz8 (show shM[0]? = some (.inr (8, sf8)) from rfl) cwX8_142 hR hrm hd) (fun H1 o1 hw1 hn => kk H1 o1 hw1 hn)
def fX8_isGate (v1 : Int32) (M : Mem) : Int32 :=
  (fX8_in v1 (0 : Int32) ((M 0 2) - (1 : Int32)))
set_option maxHeartbeats 4000000 in
set_option maxRecDepth 100000 in
theorem cX8_isGate_ok (l : Launch) (D : va_G) (cA : Nat → ClassId) (ad : Nat → Nat) (M : Mem) (v1 : Int32) (r : Int32) (hf : fX8_isGate v1 M = r) : Ctg l yX8_isGate cX8_isGate 2 (some .boolean) 1 22 shM D cA ad [.ref (ad 0), .int v1] M (Qzi shM D cA ad .boolean r M) := by
  refine ct_in (by decide) (Nat.le_of_ble_eq_true rfl) ?_
  intro p e s m below meth c ls F hl hw
  have hl : lv_has ls 2 [(0, .ref (ad 0)), (1, .int v1)] := hl
  unfold fX8_isGate at hf
  refine lv_iload_n F.1 F.2.1 dX8_isGate_0 rfl (lv_at hl 1 rfl) ?_
  refine k_iconst_0 F dX8_isGate_1 ?_
  refine lv_aload_n F.1 F.2.1 dX8_isGate_2 rfl (lv_at hl 0 rfl) ?_
  refine gX8_17 F hw rfl dX8_isGate_3 ?_
  refine k_iconst_1 F dX8_isGate_6 ?_
  refine lv_isub F.1 F.2.1 dX8_isGate_7 ?_
  refine clX8_110 F hw hl ⟨Nat.le_of_ble_eq_true rfl, Nat.le_of_ble_eq_true rfl⟩ (Nat.le_of_ble_eq_true rfl) dX8_isGate_8 (fun H1 o2 hw hn3 => ?_)
  exact r_iret_t F hw hn3 dX8_isGate_11 hf
theorem clX8_134 (F : Fx D cA RX8 cc nL ret p s m args meth c) (hw : Wd shM D cA ad H0 M H locs) (hl : lv_has ls nL lv) {v1 : Int32} (hR : 2 ≤ R.frames ∧ 43 ≤ R.locals) (hrm : (rest.map fun v => v.category).sum ≤ 8) (hd : decode cc pc = .ok (.invokevirtual 134, 3)) (kk : ∀ (H1 : Heap) (locs1 : List Loc), Wd shM D cA ad H0 M H1 locs1 → narrow .boolean (.int (fX8_isGate v1 M)) = .int (fX8_isGate v1 M) → W p l e R s m args below meth c H1 locs1 0 0 Q (F0 m (pc + 3) ls (.int (fX8_isGate v1 M) :: rest))) : W p l e R s m args below meth c H locs 0 0 Q (F0 m pc ls (.int v1 :: .ref (ad 0) :: rest)) :=
  r_afti hw (r_runV (As := [.int v1]) F hw hl (cX8_isGate_ok l D cA ad M v1 (fX8_isGate v1 M) rfl) cz8 (show shM[0]? = some (.inr (8, sf8)) from rfl) cwX8_134 hR hrm hd) (fun H1 o1 hw1 hn => kk H1 o1 hw1 hn)
def fX8_comesNew (v1 : Int32) (M : Mem) : Option Mem :=
  ix v1 6 <| wr M 9 v1.toNatClampNeg (0 : Int32) fun M2 =>
  wr M2 10 v1.toNatClampNeg (4 : Int32) fun M5 =>
  wr M5 11 v1.toNatClampNeg (0 : Int32) fun M8 =>
  wr M8 12 v1.toNatClampNeg (0 : Int32) fun M11 =>
  wr M11 13 v1.toNatClampNeg (-2 : Int32) fun M14 =>
  some M14
set_option maxHeartbeats 4000000 in
set_option maxRecDepth 100000 in
theorem cX8_comesNew_ok (l : Launch) (D : va_G) (cA : Nat → ClassId) (ad : Nat → Nat) (M : Mem) (v1 : Int32) (M' : Mem) (hf : fX8_comesNew v1 M = some M') : Ctg l yX8_comesNew cX8_comesNew 2 none 0 0 shM D cA ad [.ref (ad 0), .int v1] M (Qzv shM D cA ad M') := by
  refine ct_in (by decide) (Nat.le_of_ble_eq_true rfl) ?_
  intro p e s m below meth c ls F hl hw
  have hl : lv_has ls 2 [(0, .ref (ad 0)), (1, .int v1)] := hl
  unfold fX8_comesNew at hf
  refine lv_aload_n F.1 F.2.1 dX8_comesNew_0 rfl (lv_at hl 0 rfl) ?_
  refine gX8_44 F hw rfl dX8_comesNew_1 ?_
  refine lv_iload_n F.1 F.2.1 dX8_comesNew_4 rfl (lv_at hl 1 rfl) ?_
  refine k_iconst_0 F dX8_comesNew_5 ?_
  refine r_iast F hw (n := 6) rfl dX8_comesNew_6 hf (fun hi1 M2 H3 o4 hw hf => ?_)
  refine lv_aload_n F.1 F.2.1 dX8_comesNew_7 rfl (lv_at hl 0 rfl) ?_
  refine gX8_47 F hw rfl dX8_comesNew_8 ?_
  refine lv_iload_n F.1 F.2.1 dX8_comesNew_11 rfl (lv_at hl 1 rfl) ?_
  refine k_iconst_4 F dX8_comesNew_12 ?_
  refine r_iast0 F hw (n := 6) rfl dX8_comesNew_13 hi1 hf (fun M5 H6 o7 hw hf => ?_)
  refine lv_aload_n F.1 F.2.1 dX8_comesNew_14 rfl (lv_at hl 0 rfl) ?_
  refine gX8_50 F hw rfl dX8_comesNew_15 ?_
  refine lv_iload_n F.1 F.2.1 dX8_comesNew_18 rfl (lv_at hl 1 rfl) ?_
  refine k_iconst_0 F dX8_comesNew_19 ?_
  refine r_iast0 F hw (n := 6) rfl dX8_comesNew_20 hi1 hf (fun M8 H9 o10 hw hf => ?_)
  refine lv_aload_n F.1 F.2.1 dX8_comesNew_21 rfl (lv_at hl 0 rfl) ?_
  refine gX8_53 F hw rfl dX8_comesNew_22 ?_
  refine lv_iload_n F.1 F.2.1 dX8_comesNew_25 rfl (lv_at hl 1 rfl) ?_
  refine k_iconst_0 F dX8_comesNew_26 ?_
  refine r_iast0 F hw (n := 6) rfl dX8_comesNew_27 hi1 hf (fun M11 H12 o13 hw hf => ?_)
  refine lv_aload_n F.1 F.2.1 dX8_comesNew_28 rfl (lv_at hl 0 rfl) ?_
  refine gX8_56 F hw rfl dX8_comesNew_29 ?_
  refine lv_iload_n F.1 F.2.1 dX8_comesNew_32 rfl (lv_at hl 1 rfl) ?_
  refine k_bipush_m2 F dX8_comesNew_33 ?_
  refine r_iast0 F hw (n := 6) rfl dX8_comesNew_35 hi1 hf (fun M14 H15 o16 hw hf => ?_)
  exact r_vret_w F hw dX8_comesNew_36 hf
theorem clX8_123 (F : Fx D cA RX8 cc nL ret p s m args meth c) (hw : Wd shM D cA ad H0 M H locs) (hl : lv_has ls nL lv) {v1 : Int32} (hR : 1 ≤ R.frames ∧ 21 ≤ R.locals) (hrm : (rest.map fun v => v.category).sum ≤ 8) (hd : decode cc pc = .ok (.invokevirtual 123, 3)) {α : Type} {K : Mem → Option α} {res : α} (hf : bnd1 (fX8_comesNew v1 M) K = some res) (kk : ∀ (M1 : Mem) (H1 : Heap) (locs1 : List Loc), Wd shM D cA ad H0 M1 H1 locs1 → K M1 = some res → W p l e R s m args below meth c H1 locs1 0 0 Q (F0 m (pc + 3) ls rest)) : W p l e R s m args below meth c H locs 0 0 Q (F0 m pc ls (.int v1 :: .ref (ad 0) :: rest)) := by
  obtain ⟨M1, h1, h2⟩ := bnd1_some hf
  exact r_aftv hw (r_runV (As := [.int v1]) F hw hl (cX8_comesNew_ok l D cA ad M v1 M1 h1) cz8 (show shM[0]? = some (.inr (8, sf8)) from rfl) cwX8_123 hR hrm hd) (fun H1 o1 hw1 => kk M1 H1 o1 hw1 h2)
def fX8_begins_L17 : Nat → Int32 → Mem → Option (Mem)
  | 0, _, _ => none
  | n + 1, v1, M =>
    if (4 : Int32) ≤ v1 then
      some M
    else
      ix v1 4 <| wr M 2 v1.toNatClampNeg (0 : Int32) fun M12 =>
      wr M12 3 v1.toNatClampNeg (10 : Int32) fun M15 =>
      wr M15 4 v1.toNatClampNeg (0 : Int32) fun M18 =>
      wr M18 5 v1.toNatClampNeg (0 : Int32) fun M21 =>
      wr M21 6 v1.toNatClampNeg (0 : Int32) fun M24 =>
      wr M24 7 v1.toNatClampNeg (0 : Int32) fun M27 =>
      fX8_begins_L17 n (v1 + (1 : Int32)) M27
def fX8_begins_L73 : Nat → Int32 → Mem → Option (Mem)
  | 0, _, _ => none
  | n + 1, v1, M =>
    if (24 : Int32) ≤ v1 then
      some M
    else
      ix v1 24 <| wr M 8 v1.toNatClampNeg (20 : Int32) fun M38 =>
      fX8_begins_L73 n (v1 + (1 : Int32)) M38
def fX8_begins_L95 : Nat → Int32 → Mem → Option (Mem)
  | 0, _, _ => none
  | n + 1, v1, M =>
    if (6 : Int32) ≤ v1 then
      some M
    else
      ix v1 6 <| wr M 14 v1.toNatClampNeg (63 : Int32) fun M49 =>
      wr M49 15 v1.toNatClampNeg (0 : Int32) fun M52 =>
      wr M52 17 v1.toNatClampNeg (0 : Int32) fun M55 =>
      wr M55 18 v1.toNatClampNeg (0 : Int32) fun M58 =>
      bnd1 (fX8_comesNew v1 M58) fun M64 =>
      fX8_begins_L95 n (v1 + (1 : Int32)) M64
def fX8_begins_L143 : Nat → Int32 → Mem → Option (Mem)
  | 0, _, _ => none
  | n + 1, v1, M =>
    if (6 : Int32) ≤ v1 then
      some M
    else
      ix v1 6 <| wr M 29 v1.toNatClampNeg (0 : Int32) fun M73 =>
      fX8_begins_L143 n (v1 + (1 : Int32)) M73
def fX8_begins (M : Mem) : Option Mem :=
  wr M 0 4 (0 : Int32) fun M1 =>
  wr M1 0 22 (0 : Int32) fun M4 =>
  wr M4 0 28 (0 : Int32) fun M7 =>
  bnd1 (fX8_begins_L17 FUEL (0 : Int32) M7) fun M32 =>
  bnd1 (fX8_begins_L73 FUEL (0 : Int32) M32) fun M43 =>
  bnd1 (fX8_begins_L95 FUEL (0 : Int32) M43) fun M67 =>
  bnd1 (fX8_begins_L143 FUEL (0 : Int32) M67) fun M78 =>
  some M78
set_option maxHeartbeats 4000000 in
set_option maxRecDepth 100000 in
theorem wX8_begins_L17 {p : Program} {l : Launch} {e : Env} {s : State} {m : MethodId} {args : Array Value} {below : List Frame} {meth : Method} {c : Code} {D : va_G} {cA : Nat → ClassId} {ad : Nat → Nat} {Q : State → Prop} (F : Fx D cA RX8 cX8_begins 2 none p s m args meth c) : ∀ (n : Nat) (v1 : Int32) (M : Mem) (H : Heap) (o : List Loc) (ls : Array Slot), lv_has ls 2 [(0, .ref (ad 0)), (1, .int v1)] → Wd shM D cA ad s.heap M H o → ∀ (M' : Mem), fX8_begins_L17 n v1 M = some M' → (∀ (H1 : Heap) (o1 : List Loc) (ls1 : Array Slot), lv_has ls1 2 [(0, .ref (ad 0))] → Wd shM D cA ad s.heap M' H1 o1 → W p l e (rz 1 21) s m args below meth c H1 o1 0 0 Q (F0 m 71 ls1 [])) → W p l e (rz 1 21) s m args below meth c H o 0 0 Q (F0 m 17 ls []) := by
  intro n
  induction n with
  | zero =>
    intro v1 M H o ls hl hw M' hf kk
    cases hf
  | succ n ih =>
    intro v1 M H o ls hl hw M' hf kk
    rw [fX8_begins_L17] at hf
    refine lv_iload_n F.1 F.2.1 dX8_begins_17 rfl (lv_at hl 1 rfl) ?_
    refine k_iconst_4 F dX8_begins_18 ?_
    refine b_icmp_ge F dX8_begins_19 (tgt := 71) (by decide) hf (fun hc31 hf => ?_) (fun hc31 hf => ?_)
    · cases hf
      exact kk _ _ _ (lv_sub hl [0] rfl) hw
    · refine lv_aload_n F.1 F.2.1 dX8_begins_22 rfl (lv_at hl 0 rfl) ?_
      refine gX8_23 F hw rfl dX8_begins_23 ?_
      refine lv_iload_n F.1 F.2.1 dX8_begins_26 rfl (lv_at hl 1 rfl) ?_
      refine k_iconst_0 F dX8_begins_27 ?_
      refine r_iast F hw (n := 4) rfl dX8_begins_28 hf (fun hi11 M12 H13 o14 hw hf => ?_)
      refine lv_aload_n F.1 F.2.1 dX8_begins_29 rfl (lv_at hl 0 rfl) ?_
      refine gX8_26 F hw rfl dX8_begins_30 ?_
      refine lv_iload_n F.1 F.2.1 dX8_begins_33 rfl (lv_at hl 1 rfl) ?_
      refine k_bipush_10 F dX8_begins_34 ?_
      refine r_iast0 F hw (n := 4) rfl dX8_begins_36 hi11 hf (fun M15 H16 o17 hw hf => ?_)
      refine lv_aload_n F.1 F.2.1 dX8_begins_37 rfl (lv_at hl 0 rfl) ?_
      refine gX8_29 F hw rfl dX8_begins_38 ?_
      refine lv_iload_n F.1 F.2.1 dX8_begins_41 rfl (lv_at hl 1 rfl) ?_
      refine k_iconst_0 F dX8_begins_42 ?_
      refine r_iast0 F hw (n := 4) rfl dX8_begins_43 hi11 hf (fun M18 H19 o20 hw hf => ?_)
      refine lv_aload_n F.1 F.2.1 dX8_begins_44 rfl (lv_at hl 0 rfl) ?_
      refine gX8_32 F hw rfl dX8_begins_45 ?_
      refine lv_iload_n F.1 F.2.1 dX8_begins_48 rfl (lv_at hl 1 rfl) ?_
      refine k_iconst_0 F dX8_begins_49 ?_
      refine r_iast0 F hw (n := 4) rfl dX8_begins_50 hi11 hf (fun M21 H22 o23 hw hf => ?_)
      refine lv_aload_n F.1 F.2.1 dX8_begins_51 rfl (lv_at hl 0 rfl) ?_
      refine gX8_35 F hw rfl dX8_begins_52 ?_
      refine lv_iload_n F.1 F.2.1 dX8_begins_55 rfl (lv_at hl 1 rfl) ?_
      refine k_iconst_0 F dX8_begins_56 ?_
      refine r_iast0 F hw (n := 4) rfl dX8_begins_57 hi11 hf (fun M24 H25 o26 hw hf => ?_)
      refine lv_aload_n F.1 F.2.1 dX8_begins_58 rfl (lv_at hl 0 rfl) ?_
      refine gX8_38 F hw rfl dX8_begins_59 ?_
      refine lv_iload_n F.1 F.2.1 dX8_begins_62 rfl (lv_at hl 1 rfl) ?_
      refine k_iconst_0 F dX8_begins_63 ?_
      refine r_iast0 F hw (n := 4) rfl dX8_begins_64 hi11 hf (fun M27 H28 o29 hw hf => ?_)
      refine lv_iinc F.1 F.2.1 dX8_begins_65 hl (k := 1) rfl (ki_1 _) (lv' := [(1, .int (v1 + (1 : Int32))), (0, .ref (ad 0))]) (Nat.le_of_ble_eq_true rfl) rfl (fun ls30 hl => ?_)
      refine lv_goto F.1 F.2.1 dX8_begins_68 (tgt := 17) (by decide) ?_
      exact ih (v1 + (1 : Int32)) M27 _ _ _ (lv_sub hl [1, 0] rfl) hw  M' hf kk
set_option maxHeartbeats 4000000 in
set_option maxRecDepth 100000 in
theorem wX8_begins_L73 {p : Program} {l : Launch} {e : Env} {s : State} {m : MethodId} {args : Array Value} {below : List Frame} {meth : Method} {c : Code} {D : va_G} {cA : Nat → ClassId} {ad : Nat → Nat} {Q : State → Prop} (F : Fx D cA RX8 cX8_begins 2 none p s m args meth c) : ∀ (n : Nat) (v1 : Int32) (M : Mem) (H : Heap) (o : List Loc) (ls : Array Slot), lv_has ls 2 [(0, .ref (ad 0)), (1, .int v1)] → Wd shM D cA ad s.heap M H o → ∀ (M' : Mem), fX8_begins_L73 n v1 M = some M' → (∀ (H1 : Heap) (o1 : List Loc) (ls1 : Array Slot), lv_has ls1 2 [(0, .ref (ad 0))] → Wd shM D cA ad s.heap M' H1 o1 → W p l e (rz 1 21) s m args below meth c H1 o1 0 0 Q (F0 m 93 ls1 [])) → W p l e (rz 1 21) s m args below meth c H o 0 0 Q (F0 m 73 ls []) := by
  intro n
  induction n with
  | zero =>
    intro v1 M H o ls hl hw M' hf kk
    cases hf
  | succ n ih =>
    intro v1 M H o ls hl hw M' hf kk
    rw [fX8_begins_L73] at hf
    refine lv_iload_n F.1 F.2.1 dX8_begins_73 rfl (lv_at hl 1 rfl) ?_
    refine k_bipush_24 F dX8_begins_74 ?_
    refine b_icmp_ge F dX8_begins_76 (tgt := 93) (by decide) hf (fun hc42 hf => ?_) (fun hc42 hf => ?_)
    · cases hf
      exact kk _ _ _ (lv_sub hl [0] rfl) hw
    · refine lv_aload_n F.1 F.2.1 dX8_begins_79 rfl (lv_at hl 0 rfl) ?_
      refine gX8_41 F hw rfl dX8_begins_80 ?_
      refine lv_iload_n F.1 F.2.1 dX8_begins_83 rfl (lv_at hl 1 rfl) ?_
      refine k_bipush_20 F dX8_begins_84 ?_
      refine r_iast F hw (n := 24) rfl dX8_begins_86 hf (fun hi37 M38 H39 o40 hw hf => ?_)
      refine lv_iinc F.1 F.2.1 dX8_begins_87 hl (k := 1) rfl (ki_1 _) (lv' := [(1, .int (v1 + (1 : Int32))), (0, .ref (ad 0))]) (Nat.le_of_ble_eq_true rfl) rfl (fun ls41 hl => ?_)
      refine lv_goto F.1 F.2.1 dX8_begins_90 (tgt := 73) (by decide) ?_
      exact ih (v1 + (1 : Int32)) M38 _ _ _ (lv_sub hl [1, 0] rfl) hw  M' hf kk
set_option maxHeartbeats 4000000 in
set_option maxRecDepth 100000 in
theorem wX8_begins_L95 {p : Program} {l : Launch} {e : Env} {s : State} {m : MethodId} {args : Array Value} {below : List Frame} {meth : Method} {c : Code} {D : va_G} {cA : Nat → ClassId} {ad : Nat → Nat} {Q : State → Prop} (F : Fx D cA RX8 cX8_begins 2 none p s m args meth c) : ∀ (n : Nat) (v1 : Int32) (M : Mem) (H : Heap) (o : List Loc) (ls : Array Slot), lv_has ls 2 [(0, .ref (ad 0)), (1, .int v1)] → Wd shM D cA ad s.heap M H o → ∀ (M' : Mem), fX8_begins_L95 n v1 M = some M' → (∀ (H1 : Heap) (o1 : List Loc) (ls1 : Array Slot), lv_has ls1 2 [(0, .ref (ad 0))] → Wd shM D cA ad s.heap M' H1 o1 → W p l e (rz 1 21) s m args below meth c H1 o1 0 0 Q (F0 m 141 ls1 [])) → W p l e (rz 1 21) s m args below meth c H o 0 0 Q (F0 m 95 ls []) := by
  intro n
  induction n with
  | zero =>
    intro v1 M H o ls hl hw M' hf kk
    cases hf
  | succ n ih =>
    intro v1 M H o ls hl hw M' hf kk
    rw [fX8_begins_L95] at hf
    refine lv_iload_n F.1 F.2.1 dX8_begins_95 rfl (lv_at hl 1 rfl) ?_
    refine k_bipush_6 F dX8_begins_96 ?_
    refine b_icmp_ge F dX8_begins_98 (tgt := 141) (by decide) hf (fun hc66 hf => ?_) (fun hc66 hf => ?_)
    · cases hf
      exact kk _ _ _ (lv_sub hl [0] rfl) hw
    · refine lv_aload_n F.1 F.2.1 dX8_begins_101 rfl (lv_at hl 0 rfl) ?_
      refine gX8_59 F hw rfl dX8_begins_102 ?_
      refine lv_iload_n F.1 F.2.1 dX8_begins_105 rfl (lv_at hl 1 rfl) ?_
      refine k_bipush_63 F dX8_begins_106 ?_
      refine r_iast F hw (n := 6) rfl dX8_begins_108 hf (fun hi48 M49 H50 o51 hw hf => ?_)
      refine lv_aload_n F.1 F.2.1 dX8_begins_109 rfl (lv_at hl 0 rfl) ?_
      refine gX8_62 F hw rfl dX8_begins_110 ?_
      refine lv_iload_n F.1 F.2.1 dX8_begins_113 rfl (lv_at hl 1 rfl) ?_
      refine k_iconst_0 F dX8_begins_114 ?_
      refine r_iast0 F hw (n := 6) rfl dX8_begins_115 hi48 hf (fun M52 H53 o54 hw hf => ?_)
      refine lv_aload_n F.1 F.2.1 dX8_begins_116 rfl (lv_at hl 0 rfl) ?_
      refine gX8_68 F hw rfl dX8_begins_117 ?_
      refine lv_iload_n F.1 F.2.1 dX8_begins_120 rfl (lv_at hl 1 rfl) ?_
      refine k_iconst_0 F dX8_begins_121 ?_
      refine r_iast0 F hw (n := 6) rfl dX8_begins_122 hi48 hf (fun M55 H56 o57 hw hf => ?_)
      refine lv_aload_n F.1 F.2.1 dX8_begins_123 rfl (lv_at hl 0 rfl) ?_
      refine gX8_71 F hw rfl dX8_begins_124 ?_
      refine lv_iload_n F.1 F.2.1 dX8_begins_127 rfl (lv_at hl 1 rfl) ?_
      refine k_iconst_0 F dX8_begins_128 ?_
      refine r_iast0 F hw (n := 6) rfl dX8_begins_129 hi48 hf (fun M58 H59 o60 hw hf => ?_)
      refine lv_aload_n F.1 F.2.1 dX8_begins_130 rfl (lv_at hl 0 rfl) ?_
      refine lv_iload_n F.1 F.2.1 dX8_begins_131 rfl (lv_at hl 1 rfl) ?_
      refine clX8_123 F hw hl ⟨Nat.le_of_ble_eq_true rfl, Nat.le_of_ble_eq_true rfl⟩ (Nat.le_of_ble_eq_true rfl) dX8_begins_132 hf (fun M64 H61 o62 hw hf => ?_)
      refine lv_iinc F.1 F.2.1 dX8_begins_135 hl (k := 1) rfl (ki_1 _) (lv' := [(1, .int (v1 + (1 : Int32))), (0, .ref (ad 0))]) (Nat.le_of_ble_eq_true rfl) rfl (fun ls65 hl => ?_)
      refine lv_goto F.1 F.2.1 dX8_begins_138 (tgt := 95) (by decide) ?_
      exact ih (v1 + (1 : Int32)) M64 _ _ _ (lv_sub hl [1, 0] rfl) hw  M' hf kk
set_option maxHeartbeats 4000000 in
set_option maxRecDepth 100000 in
theorem wX8_begins_L143 {p : Program} {l : Launch} {e : Env} {s : State} {m : MethodId} {args : Array Value} {below : List Frame} {meth : Method} {c : Code} {D : va_G} {cA : Nat → ClassId} {ad : Nat → Nat} {Q : State → Prop} (F : Fx D cA RX8 cX8_begins 2 none p s m args meth c) : ∀ (n : Nat) (v1 : Int32) (M : Mem) (H : Heap) (o : List Loc) (ls : Array Slot), lv_has ls 2 [(0, .ref (ad 0)), (1, .int v1)] → Wd shM D cA ad s.heap M H o → ∀ (M' : Mem), fX8_begins_L143 n v1 M = some M' → (∀ (H1 : Heap) (o1 : List Loc) (ls1 : Array Slot), lv_has ls1 2 [] → Wd shM D cA ad s.heap M' H1 o1 → W p l e (rz 1 21) s m args below meth c H1 o1 0 0 Q (F0 m 162 ls1 [])) → W p l e (rz 1 21) s m args below meth c H o 0 0 Q (F0 m 143 ls []) := by
  intro n
  induction n with
  | zero =>
    intro v1 M H o ls hl hw M' hf kk
    cases hf
  | succ n ih =>
    intro v1 M H o ls hl hw M' hf kk
    rw [fX8_begins_L143] at hf
    refine lv_iload_n F.1 F.2.1 dX8_begins_143 rfl (lv_at hl 1 rfl) ?_
    refine k_bipush_6 F dX8_begins_144 ?_
    refine b_icmp_ge F dX8_begins_146 (tgt := 162) (by decide) hf (fun hc77 hf => ?_) (fun hc77 hf => ?_)
    · cases hf
      exact kk _ _ _ (lv_sub hl [] rfl) hw
    · refine lv_aload_n F.1 F.2.1 dX8_begins_149 rfl (lv_at hl 0 rfl) ?_
      refine gX8_104 F hw rfl dX8_begins_150 ?_
      refine lv_iload_n F.1 F.2.1 dX8_begins_153 rfl (lv_at hl 1 rfl) ?_
      refine k_iconst_0 F dX8_begins_154 ?_
      refine r_iast F hw (n := 6) rfl dX8_begins_155 hf (fun hi72 M73 H74 o75 hw hf => ?_)
      refine lv_iinc F.1 F.2.1 dX8_begins_156 hl (k := 1) rfl (ki_1 _) (lv' := [(1, .int (v1 + (1 : Int32))), (0, .ref (ad 0))]) (Nat.le_of_ble_eq_true rfl) rfl (fun ls76 hl => ?_)
      refine lv_goto F.1 F.2.1 dX8_begins_159 (tgt := 143) (by decide) ?_
      exact ih (v1 + (1 : Int32)) M73 _ _ _ (lv_sub hl [1, 0] rfl) hw  M' hf kk
set_option maxHeartbeats 4000000 in
set_option maxRecDepth 100000 in
theorem cX8_begins_ok (l : Launch) (D : va_G) (cA : Nat → ClassId) (ad : Nat → Nat) (M : Mem)  (M' : Mem) (hf : fX8_begins M = some M') : Ctg l yX8_begins cX8_begins 2 none 1 21 shM D cA ad [.ref (ad 0)] M (Qzv shM D cA ad M') := by
  refine ct_in (by decide) (Nat.le_of_ble_eq_true rfl) ?_
  intro p e s m below meth c ls F hl hw
  have hl : lv_has ls 2 [(0, .ref (ad 0))] := hl
  unfold fX8_begins at hf
  refine lv_aload_n F.1 F.2.1 dX8_begins_0 rfl (lv_at hl 0 rfl) ?_
  refine k_iconst_0 F dX8_begins_1 ?_
  refine qX8_114 F hw rfl dX8_begins_2 hf (fun M1 H2 o3 hw hf => ?_)
  refine lv_aload_n F.1 F.2.1 dX8_begins_5 rfl (lv_at hl 0 rfl) ?_
  refine k_iconst_0 F dX8_begins_6 ?_
  refine qX8_117 F hw rfl dX8_begins_7 hf (fun M4 H5 o6 hw hf => ?_)
  refine lv_aload_n F.1 F.2.1 dX8_begins_10 rfl (lv_at hl 0 rfl) ?_
  refine k_iconst_0 F dX8_begins_11 ?_
  refine qX8_120 F hw rfl dX8_begins_12 hf (fun M7 H8 o9 hw hf => ?_)
  refine k_iconst_0 F dX8_begins_15 ?_
  refine lv_istore_n F.1 F.2.1 dX8_begins_16 rfl hl (lv' := [(1, .int (0 : Int32)), (0, .ref (ad 0))]) (Nat.le_of_ble_eq_true rfl) rfl (fun ls10 hl => ?_)
  obtain ⟨M32, hq85, hf⟩ := bnd1_some hf
  refine wX8_begins_L17 F FUEL (0 : Int32) M7 _ _ _ (lv_sub hl [1, 0] rfl) hw M32 hq85 (fun H33 o34 ls35 hl hw => ?_)
  refine k_iconst_0 F dX8_begins_71 ?_
  refine lv_istore_n F.1 F.2.1 dX8_begins_72 rfl hl (lv' := [(1, .int (0 : Int32)), (0, .ref (ad 0))]) (Nat.le_of_ble_eq_true rfl) rfl (fun ls36 hl => ?_)
  obtain ⟨M43, hq84, hf⟩ := bnd1_some hf
  refine wX8_begins_L73 F FUEL (0 : Int32) M32 _ _ _ (lv_sub hl [1, 0] rfl) hw M43 hq84 (fun H44 o45 ls46 hl hw => ?_)
  refine k_iconst_0 F dX8_begins_93 ?_
  refine lv_istore_n F.1 F.2.1 dX8_begins_94 rfl hl (lv' := [(1, .int (0 : Int32)), (0, .ref (ad 0))]) (Nat.le_of_ble_eq_true rfl) rfl (fun ls47 hl => ?_)
  obtain ⟨M67, hq83, hf⟩ := bnd1_some hf
  refine wX8_begins_L95 F FUEL (0 : Int32) M43 _ _ _ (lv_sub hl [1, 0] rfl) hw M67 hq83 (fun H68 o69 ls70 hl hw => ?_)
  refine k_iconst_0 F dX8_begins_141 ?_
  refine lv_istore_n F.1 F.2.1 dX8_begins_142 rfl hl (lv' := [(1, .int (0 : Int32)), (0, .ref (ad 0))]) (Nat.le_of_ble_eq_true rfl) rfl (fun ls71 hl => ?_)
  obtain ⟨M78, hq82, hf⟩ := bnd1_some hf
  refine wX8_begins_L143 F FUEL (0 : Int32) M67 _ _ _ (lv_sub hl [1, 0] rfl) hw M78 hq82 (fun H79 o80 ls81 hl hw => ?_)
  exact r_vret_w F hw dX8_begins_162 hf
theorem clX8_131 (F : Fx D cA RX8 cc nL ret p s m args meth c) (hw : Wd shM D cA ad H0 M H locs) (hl : lv_has ls nL lv) (hR : 2 ≤ R.frames ∧ 42 ≤ R.locals) (hrm : (rest.map fun v => v.category).sum ≤ 8) (hd : decode cc pc = .ok (.invokevirtual 131, 3)) {α : Type} {K : Mem → Option α} {res : α} (hf : bnd1 (fX8_begins M) K = some res) (kk : ∀ (M1 : Mem) (H1 : Heap) (locs1 : List Loc), Wd shM D cA ad H0 M1 H1 locs1 → K M1 = some res → W p l e R s m args below meth c H1 locs1 0 0 Q (F0 m (pc + 3) ls rest)) : W p l e R s m args below meth c H locs 0 0 Q (F0 m pc ls (.ref (ad 0) :: rest)) := by
  obtain ⟨M1, h1, h2⟩ := bnd1_some hf
  exact r_aftv hw (r_runV (As := []) F hw hl (cX8_begins_ok l D cA ad M M1 h1) cz8 (show shM[0]? = some (.inr (8, sf8)) from rfl) cwX8_131 hR hrm hd) (fun H1 o1 hw1 => kk M1 H1 o1 hw1 h2)
def fX8_sets (v1 : Int32) (v2 : Int32) (M : Mem) : Option (Int32 × Mem) :=
  if (fX8_in v1 (0 : Int32) (2 : Int32)) = 0 then
    bnd2 (fX8_bad M) fun t8 M7 =>
    some (t8, M7)
  else
    jn (fun (t9 : Int32) =>
      if (fX8_in v2 (1 : Int32) t9) = 0 then
        bnd2 (fX8_bad M) fun t62 M61 =>
        some (t62, M61)
      else
        jn (fun (t17 : Int32) =>
          jn (fun (t23 : Int32) =>
            wr M 0 1 t23 fun M28 =>
            jn (fun (t31 : Int32) =>
              wr M28 0 2 t31 fun M36 =>
              if v1 = (2 : Int32) then
                wr M36 0 3 v2 fun M46 =>
                bnd1 (fX8_begins M46) fun M52 =>
                some (t17, M52)
              else
                wr M36 0 3 (M36 0 3) fun M39 =>
                bnd1 (fX8_begins M39) fun M45 =>
                some (t17, M45)) fun j35 =>
            if v1 = (1 : Int32) then
              j35 v2
            else
              j35 (M28 0 2)) fun j27 =>
          if v1 = 0 then
            j27 v2
          else
            j27 (M 0 1)) fun j21 =>
        if v1 = 0 then
          j21 (M 0 1)
        else
          if v1 = (1 : Int32) then
            j21 (M 0 2)
          else
            j21 (M 0 3)) fun j13 =>
    if v1 = 0 then
      j13 (6 : Int32)
    else
      if v1 = (1 : Int32) then
        j13 (4 : Int32)
      else
        j13 (9 : Int32)
set_option maxHeartbeats 4000000 in
set_option maxRecDepth 100000 in
theorem cX8_sets_ok (l : Launch) (D : va_G) (cA : Nat → ClassId) (ad : Nat → Nat) (M : Mem) (v1 : Int32) (v2 : Int32) (r : Int32) (M' : Mem) (hf : fX8_sets v1 v2 M = some (r, M')) : Ctg l yX8_sets cX8_sets 4 (some .int) 2 42 shM D cA ad [.ref (ad 0), .int v1, .int v2] M (Qzi shM D cA ad .int r M') := by
  refine ct_in (by decide) (Nat.le_of_ble_eq_true rfl) ?_
  intro p e s m below meth c ls F hl hw
  have hl : lv_has ls 4 [(0, .ref (ad 0)), (1, .int v1), (2, .int v2)] := hl
  unfold fX8_sets at hf
  refine lv_iload_n F.1 F.2.1 dX8_sets_0 rfl (lv_at hl 1 rfl) ?_
  refine k_iconst_0 F dX8_sets_1 ?_
  refine k_iconst_2 F dX8_sets_2 ?_
  refine clX8_110 F hw hl ⟨Nat.le_of_ble_eq_true rfl, Nat.le_of_ble_eq_true rfl⟩ (Nat.le_of_ble_eq_true rfl) dX8_sets_3 (fun H1 o2 hw hn3 => ?_)
  refine b_if_eq F dX8_sets_6 (tgt := 37) (by decide) hf (fun hc66 hf => ?_) (fun hc66 hf => ?_)
  · refine lv_aload_n F.1 F.2.1 dX8_sets_37 rfl (lv_at hl 0 rfl) ?_
    refine clX8_127 F hw hl ⟨Nat.le_of_ble_eq_true rfl, Nat.le_of_ble_eq_true rfl⟩ (Nat.le_of_ble_eq_true rfl) dX8_sets_38 hf (fun t8 M7 H4 o5 hw hn6 hf => ?_)
    exact r_iret_w F hw (vp_nar_int _) dX8_sets_41 hf
  · refine lv_iload_n F.1 F.2.1 dX8_sets_9 rfl (lv_at hl 2 rfl) ?_
    refine k_iconst_1 F dX8_sets_10 ?_
    refine lv_iload_n F.1 F.2.1 dX8_sets_11 rfl (lv_at hl 1 rfl) ?_
    refine jn_go1 (fun (t9 : Int32) => ∀ (H10 : Heap) (o11 : List Loc) (ls12 : Array Slot), lv_has ls12 4 [(0, .ref (ad 0)), (1, .int v1), (2, .int v2)] → Wd shM D cA ad s.heap M H10 o11 → W p l e (rz 2 42) s m ([.ref (ad 0), .int v1, .int v2] : List Value).toArray below meth c H10 o11 0 0 (MQ below (Qzi shM D cA ad .int r M') ([.ref (ad 0), .int v1, .int v2] : List Value).toArray s 0 0 (Az shM ad)) (F0 m 31 ls12 [.int t9, .int (1 : Int32), .int v2])) hf (fun t9 hf H10 o11 ls12 hl hw => ?_) (fun j13 Jj13 hf => ?_)
    · refine clX8_110 F hw hl ⟨Nat.le_of_ble_eq_true rfl, Nat.le_of_ble_eq_true rfl⟩ (Nat.le_of_ble_eq_true rfl) dX8_sets_31 (fun H14 o15 hw hn16 => ?_)
      refine b_if_ne F dX8_sets_34 (tgt := 42) (by decide) hf (fun hc63 hf => ?_) (fun hc63 hf => ?_)
      · refine lv_aload_n F.1 F.2.1 dX8_sets_37 rfl (lv_at hl 0 rfl) ?_
        refine clX8_127 F hw hl ⟨Nat.le_of_ble_eq_true rfl, Nat.le_of_ble_eq_true rfl⟩ (Nat.le_of_ble_eq_true rfl) dX8_sets_38 hf (fun t62 M61 H58 o59 hw hn60 hf => ?_)
        exact r_iret_w F hw (vp_nar_int _) dX8_sets_41 hf
      · refine lv_iload_n F.1 F.2.1 dX8_sets_42 rfl (lv_at hl 1 rfl) ?_
        refine jn_go1 (fun (t17 : Int32) => ∀ (H18 : Heap) (o19 : List Loc) (ls20 : Array Slot), lv_has ls20 4 [(0, .ref (ad 0)), (1, .int v1), (2, .int v2)] → Wd shM D cA ad s.heap M H18 o19 → W p l e (rz 2 42) s m ([.ref (ad 0), .int v1, .int v2] : List Value).toArray below meth c H18 o19 0 0 (MQ below (Qzi shM D cA ad .int r M') ([.ref (ad 0), .int v1, .int v2] : List Value).toArray s 0 0 (Az shM ad)) (F0 m 69 ls20 [.int t17])) hf (fun t17 hf H18 o19 ls20 hl hw => ?_) (fun j21 Jj21 hf => ?_)
        · refine lv_istore_n F.1 F.2.1 dX8_sets_69 rfl hl (lv' := [(3, .int t17), (0, .ref (ad 0)), (1, .int v1), (2, .int v2)]) (Nat.le_of_ble_eq_true rfl) rfl (fun ls22 hl => ?_)
          refine lv_aload_n F.1 F.2.1 dX8_sets_70 rfl (lv_at hl 1 rfl) ?_
          refine lv_iload_n F.1 F.2.1 dX8_sets_71 rfl (lv_at hl 2 rfl) ?_
          refine jn_go1 (fun (t23 : Int32) => ∀ (H24 : Heap) (o25 : List Loc) (ls26 : Array Slot), lv_has ls26 4 [(3, .int t17), (0, .ref (ad 0)), (1, .int v1), (2, .int v2)] → Wd shM D cA ad s.heap M H24 o25 → W p l e (rz 2 42) s m ([.ref (ad 0), .int v1, .int v2] : List Value).toArray below meth c H24 o25 0 0 (MQ below (Qzi shM D cA ad .int r M') ([.ref (ad 0), .int v1, .int v2] : List Value).toArray s 0 0 (Az shM ad)) (F0 m 83 ls26 [.int t23, .ref (ad 0)])) hf (fun t23 hf H24 o25 ls26 hl hw => ?_) (fun j27 Jj27 hf => ?_)
          · refine qX8_13 F hw rfl dX8_sets_83 hf (fun M28 H29 o30 hw hf => ?_)
            refine lv_aload_n F.1 F.2.1 dX8_sets_86 rfl (lv_at hl 1 rfl) ?_
            refine lv_iload_n F.1 F.2.1 dX8_sets_87 rfl (lv_at hl 2 rfl) ?_
            refine k_iconst_1 F dX8_sets_88 ?_
            refine jn_go1 (fun (t31 : Int32) => ∀ (H32 : Heap) (o33 : List Loc) (ls34 : Array Slot), lv_has ls34 4 [(3, .int t17), (0, .ref (ad 0)), (1, .int v1), (2, .int v2)] → Wd shM D cA ad s.heap M28 H32 o33 → W p l e (rz 2 42) s m ([.ref (ad 0), .int v1, .int v2] : List Value).toArray below meth c H32 o33 0 0 (MQ below (Qzi shM D cA ad .int r M') ([.ref (ad 0), .int v1, .int v2] : List Value).toArray s 0 0 (Az shM ad)) (F0 m 100 ls34 [.int t31, .ref (ad 0)])) hf (fun t31 hf H32 o33 ls34 hl hw => ?_) (fun j35 Jj35 hf => ?_)
            · refine qX8_17 F hw rfl dX8_sets_100 hf (fun M36 H37 o38 hw hf => ?_)
              refine lv_aload_n F.1 F.2.1 dX8_sets_103 rfl (lv_at hl 1 rfl) ?_
              refine lv_iload_n F.1 F.2.1 dX8_sets_104 rfl (lv_at hl 2 rfl) ?_
              refine k_iconst_2 F dX8_sets_105 ?_
              refine b_icmp_ne F dX8_sets_106 (tgt := 113) (by decide) hf (fun hc53 hf => ?_) (fun hc53 hf => ?_)
              · refine lv_iload_n F.1 F.2.1 dX8_sets_109 rfl (lv_at hl 3 rfl) ?_
                refine lv_goto F.1 F.2.1 dX8_sets_110 (tgt := 117) (by decide) ?_
                refine qX8_20 F hw rfl dX8_sets_117 hf (fun M46 H47 o48 hw hf => ?_)
                refine lv_aload_n F.1 F.2.1 dX8_sets_120 rfl (lv_at hl 1 rfl) ?_
                refine clX8_131 F hw hl ⟨Nat.le_of_ble_eq_true rfl, Nat.le_of_ble_eq_true rfl⟩ (Nat.le_of_ble_eq_true rfl) dX8_sets_121 hf (fun M52 H49 o50 hw hf => ?_)
                refine lv_iload_n F.1 F.2.1 dX8_sets_124 rfl (lv_at hl 0 rfl) ?_
                exact r_iret_w F hw (vp_nar_int _) dX8_sets_125 hf
              · refine lv_aload_n F.1 F.2.1 dX8_sets_113 rfl (lv_at hl 1 rfl) ?_
                refine gX8_20 F hw rfl dX8_sets_114 ?_
                refine qX8_20 F hw rfl dX8_sets_117 hf (fun M39 H40 o41 hw hf => ?_)
                refine lv_aload_n F.1 F.2.1 dX8_sets_120 rfl (lv_at hl 1 rfl) ?_
                refine clX8_131 F hw hl ⟨Nat.le_of_ble_eq_true rfl, Nat.le_of_ble_eq_true rfl⟩ (Nat.le_of_ble_eq_true rfl) dX8_sets_121 hf (fun M45 H42 o43 hw hf => ?_)
                refine lv_iload_n F.1 F.2.1 dX8_sets_124 rfl (lv_at hl 0 rfl) ?_
                exact r_iret_w F hw (vp_nar_int _) dX8_sets_125 hf
            · refine b_icmp_ne F dX8_sets_89 (tgt := 96) (by decide) hf (fun hc54 hf => ?_) (fun hc54 hf => ?_)
              · refine lv_iload_n F.1 F.2.1 dX8_sets_92 rfl (lv_at hl 3 rfl) ?_
                refine lv_goto F.1 F.2.1 dX8_sets_93 (tgt := 100) (by decide) ?_
                exact Jj35 v2 hf _ _ _ hl hw
              · refine lv_aload_n F.1 F.2.1 dX8_sets_96 rfl (lv_at hl 1 rfl) ?_
                refine gX8_17 F hw rfl dX8_sets_97 ?_
                exact Jj35 (M28 0 2) hf _ _ _ hl hw
          · refine b_if_ne F dX8_sets_72 (tgt := 79) (by decide) hf (fun hc55 hf => ?_) (fun hc55 hf => ?_)
            · refine lv_iload_n F.1 F.2.1 dX8_sets_75 rfl (lv_at hl 3 rfl) ?_
              refine lv_goto F.1 F.2.1 dX8_sets_76 (tgt := 83) (by decide) ?_
              exact Jj27 v2 hf _ _ _ hl hw
            · refine lv_aload_n F.1 F.2.1 dX8_sets_79 rfl (lv_at hl 1 rfl) ?_
              refine gX8_13 F hw rfl dX8_sets_80 ?_
              exact Jj27 (M 0 1) hf _ _ _ hl hw
        · refine b_if_ne F dX8_sets_43 (tgt := 53) (by decide) hf (fun hc57 hf => ?_) (fun hc57 hf => ?_)
          · refine lv_aload_n F.1 F.2.1 dX8_sets_46 rfl (lv_at hl 0 rfl) ?_
            refine gX8_13 F hw rfl dX8_sets_47 ?_
            refine lv_goto F.1 F.2.1 dX8_sets_50 (tgt := 69) (by decide) ?_
            exact Jj21 (M 0 1) hf _ _ _ hl hw
          · refine lv_iload_n F.1 F.2.1 dX8_sets_53 rfl (lv_at hl 1 rfl) ?_
            refine k_iconst_1 F dX8_sets_54 ?_
            refine b_icmp_ne F dX8_sets_55 (tgt := 65) (by decide) hf (fun hc56 hf => ?_) (fun hc56 hf => ?_)
            · refine lv_aload_n F.1 F.2.1 dX8_sets_58 rfl (lv_at hl 0 rfl) ?_
              refine gX8_17 F hw rfl dX8_sets_59 ?_
              refine lv_goto F.1 F.2.1 dX8_sets_62 (tgt := 69) (by decide) ?_
              exact Jj21 (M 0 2) hf _ _ _ hl hw
            · refine lv_aload_n F.1 F.2.1 dX8_sets_65 rfl (lv_at hl 0 rfl) ?_
              refine gX8_20 F hw rfl dX8_sets_66 ?_
              exact Jj21 (M 0 3) hf _ _ _ hl hw
    · refine b_if_ne F dX8_sets_12 (tgt := 20) (by decide) hf (fun hc65 hf => ?_) (fun hc65 hf => ?_)
      · refine k_bipush_6 F dX8_sets_15 ?_
        refine lv_goto F.1 F.2.1 dX8_sets_17 (tgt := 31) (by decide) ?_
        exact Jj13 (6 : Int32) hf _ _ _ hl hw
      · refine lv_iload_n F.1 F.2.1 dX8_sets_20 rfl (lv_at hl 1 rfl) ?_
        refine k_iconst_1 F dX8_sets_21 ?_
        refine b_icmp_ne F dX8_sets_22 (tgt := 29) (by decide) hf (fun hc64 hf => ?_) (fun hc64 hf => ?_)
        · refine k_iconst_4 F dX8_sets_25 ?_
          refine lv_goto F.1 F.2.1 dX8_sets_26 (tgt := 31) (by decide) ?_
          exact Jj13 (4 : Int32) hf _ _ _ hl hw
        · refine k_bipush_9 F dX8_sets_29 ?_
          exact Jj13 (9 : Int32) hf _ _ _ hl hw
def fX8_gateBecomes (v1 : Int32) (v2 : Int32) (v3 : Int32) (M : Mem) : Option (Int32 × Mem) :=
  jn (fun (t1 : Int32) =>
    jn (fun (t7 : Int32) =>
      ix v1 4 <| wr M 2 v1.toNatClampNeg t7 fun M13 =>
      if v2 = (1 : Int32) then
        wr M13 3 v1.toNatClampNeg v3 fun M19 =>
        some (t1, M19)
      else
        wr M13 3 v1.toNatClampNeg (M13 3 v1.toNatClampNeg) fun M16 =>
        some (t1, M16)) fun j11 =>
    if v2 = 0 then
      j11 v3
    else
      ix v1 4 <|
      j11 (M 2 v1.toNatClampNeg)) fun j5 =>
  if v2 = 0 then
    ix v1 4 <|
    j5 (M 2 v1.toNatClampNeg)
  else
    ix v1 4 <|
    j5 (M 3 v1.toNatClampNeg)
set_option maxHeartbeats 4000000 in
set_option maxRecDepth 100000 in
theorem cX8_gateBecomes_ok (l : Launch) (D : va_G) (cA : Nat → ClassId) (ad : Nat → Nat) (M : Mem) (v1 : Int32) (v2 : Int32) (v3 : Int32) (r : Int32) (M' : Mem) (hf : fX8_gateBecomes v1 v2 v3 M = some (r, M')) : Ctg l yX8_gateBecomes cX8_gateBecomes 5 (some .int) 0 0 shM D cA ad [.ref (ad 0), .int v1, .int v2, .int v3] M (Qzi shM D cA ad .int r M') := by
  refine ct_in (by decide) (Nat.le_of_ble_eq_true rfl) ?_
  intro p e s m below meth c ls F hl hw
  have hl : lv_has ls 5 [(0, .ref (ad 0)), (1, .int v1), (2, .int v2), (3, .int v3)] := hl
  unfold fX8_gateBecomes at hf
  refine lv_iload_n F.1 F.2.1 dX8_gateBecomes_0 rfl (lv_at hl 2 rfl) ?_
  refine jn_go1 (fun (t1 : Int32) => ∀ (H2 : Heap) (o3 : List Loc) (ls4 : Array Slot), lv_has ls4 5 [(0, .ref (ad 0)), (1, .int v1), (2, .int v2), (3, .int v3)] → Wd shM D cA ad s.heap M H2 o3 → W p l e (rz 0 0) s m ([.ref (ad 0), .int v1, .int v2, .int v3] : List Value).toArray below meth c H2 o3 0 0 (MQ below (Qzi shM D cA ad .int r M') ([.ref (ad 0), .int v1, .int v2, .int v3] : List Value).toArray s 0 0 (Az shM ad)) (F0 m 19 ls4 [.int t1])) hf (fun t1 hf H2 o3 ls4 hl hw => ?_) (fun j5 Jj5 hf => ?_)
  · refine lv_istore F.1 F.2.1 dX8_gateBecomes_19 hl (lv' := [(4, .int t1), (0, .ref (ad 0)), (1, .int v1), (2, .int v2), (3, .int v3)]) (Nat.le_of_ble_eq_true rfl) rfl (fun ls6 hl => ?_)
    refine lv_aload_n F.1 F.2.1 dX8_gateBecomes_21 rfl (lv_at hl 1 rfl) ?_
    refine gX8_23 F hw rfl dX8_gateBecomes_22 ?_
    refine lv_iload_n F.1 F.2.1 dX8_gateBecomes_25 rfl (lv_at hl 2 rfl) ?_
    refine lv_iload_n F.1 F.2.1 dX8_gateBecomes_26 rfl (lv_at hl 3 rfl) ?_
    refine jn_go1 (fun (t7 : Int32) => ∀ (H8 : Heap) (o9 : List Loc) (ls10 : Array Slot), lv_has ls10 5 [(4, .int t1), (0, .ref (ad 0)), (1, .int v1), (2, .int v2), (3, .int v3)] → Wd shM D cA ad s.heap M H8 o9 → W p l e (rz 0 0) s m ([.ref (ad 0), .int v1, .int v2, .int v3] : List Value).toArray below meth c H8 o9 0 0 (MQ below (Qzi shM D cA ad .int r M') ([.ref (ad 0), .int v1, .int v2, .int v3] : List Value).toArray s 0 0 (Az shM ad)) (F0 m 40 ls10 [.int t7, .int v1, .ref (ad 2)])) hf (fun t7 hf H8 o9 ls10 hl hw => ?_) (fun j11 Jj11 hf => ?_)
    · refine r_iast F hw (n := 4) rfl dX8_gateBecomes_40 hf (fun hi12 M13 H14 o15 hw hf => ?_)
      refine lv_aload_n F.1 F.2.1 dX8_gateBecomes_41 rfl (lv_at hl 1 rfl) ?_
      refine gX8_26 F hw rfl dX8_gateBecomes_42 ?_
      refine lv_iload_n F.1 F.2.1 dX8_gateBecomes_45 rfl (lv_at hl 2 rfl) ?_
      refine lv_iload_n F.1 F.2.1 dX8_gateBecomes_46 rfl (lv_at hl 3 rfl) ?_
      refine k_iconst_1 F dX8_gateBecomes_47 ?_
      refine b_icmp_ne F dX8_gateBecomes_48 (tgt := 55) (by decide) hf (fun hc22 hf => ?_) (fun hc22 hf => ?_)
      · refine lv_iload_n F.1 F.2.1 dX8_gateBecomes_51 rfl (lv_at hl 4 rfl) ?_
        refine lv_goto F.1 F.2.1 dX8_gateBecomes_52 (tgt := 61) (by decide) ?_
        refine r_iast0 F hw (n := 4) rfl dX8_gateBecomes_61 hi12 hf (fun M19 H20 o21 hw hf => ?_)
        refine lv_iload F.1 F.2.1 dX8_gateBecomes_62 (lv_at hl 0 rfl) ?_
        exact r_iret_w F hw (vp_nar_int _) dX8_gateBecomes_64 hf
      · refine lv_aload_n F.1 F.2.1 dX8_gateBecomes_55 rfl (lv_at hl 1 rfl) ?_
        refine gX8_26 F hw rfl dX8_gateBecomes_56 ?_
        refine lv_iload_n F.1 F.2.1 dX8_gateBecomes_59 rfl (lv_at hl 2 rfl) ?_
        refine r_iald0 F hw (n := 4) rfl dX8_gateBecomes_60 hi12 ?_
        refine r_iast0 F hw (n := 4) rfl dX8_gateBecomes_61 hi12 hf (fun M16 H17 o18 hw hf => ?_)
        refine lv_iload F.1 F.2.1 dX8_gateBecomes_62 (lv_at hl 0 rfl) ?_
        exact r_iret_w F hw (vp_nar_int _) dX8_gateBecomes_64 hf
    · refine b_if_ne F dX8_gateBecomes_27 (tgt := 34) (by decide) hf (fun hc24 hf => ?_) (fun hc24 hf => ?_)
      · refine lv_iload_n F.1 F.2.1 dX8_gateBecomes_30 rfl (lv_at hl 4 rfl) ?_
        refine lv_goto F.1 F.2.1 dX8_gateBecomes_31 (tgt := 40) (by decide) ?_
        exact Jj11 v3 hf _ _ _ hl hw
      · refine lv_aload_n F.1 F.2.1 dX8_gateBecomes_34 rfl (lv_at hl 1 rfl) ?_
        refine gX8_23 F hw rfl dX8_gateBecomes_35 ?_
        refine lv_iload_n F.1 F.2.1 dX8_gateBecomes_38 rfl (lv_at hl 2 rfl) ?_
        refine r_iald F hw (n := 4) rfl dX8_gateBecomes_39 hf (fun hi23 hf => ?_)
        exact Jj11 (M 2 v1.toNatClampNeg) hf _ _ _ hl hw
  · refine b_if_ne F dX8_gateBecomes_1 (tgt := 13) (by decide) hf (fun hc27 hf => ?_) (fun hc27 hf => ?_)
    · refine lv_aload_n F.1 F.2.1 dX8_gateBecomes_4 rfl (lv_at hl 0 rfl) ?_
      refine gX8_23 F hw rfl dX8_gateBecomes_5 ?_
      refine lv_iload_n F.1 F.2.1 dX8_gateBecomes_8 rfl (lv_at hl 1 rfl) ?_
      refine r_iald F hw (n := 4) rfl dX8_gateBecomes_9 hf (fun hi26 hf => ?_)
      refine lv_goto F.1 F.2.1 dX8_gateBecomes_10 (tgt := 19) (by decide) ?_
      exact Jj5 (M 2 v1.toNatClampNeg) hf _ _ _ hl hw
    · refine lv_aload_n F.1 F.2.1 dX8_gateBecomes_13 rfl (lv_at hl 0 rfl) ?_
      refine gX8_26 F hw rfl dX8_gateBecomes_14 ?_
      refine lv_iload_n F.1 F.2.1 dX8_gateBecomes_17 rfl (lv_at hl 1 rfl) ?_
      refine r_iald F hw (n := 4) rfl dX8_gateBecomes_18 hf (fun hi25 hf => ?_)
      exact Jj5 (M 3 v1.toNatClampNeg) hf _ _ _ hl hw
theorem clX8_138 (F : Fx D cA RX8 cc nL ret p s m args meth c) (hw : Wd shM D cA ad H0 M H locs) (hl : lv_has ls nL lv) {v1 : Int32} {v2 : Int32} {v3 : Int32} (hR : 1 ≤ R.frames ∧ 24 ≤ R.locals) (hrm : (rest.map fun v => v.category).sum ≤ 8) (hd : decode cc pc = .ok (.invokevirtual 138, 3)) {α : Type} {K : Int32 → Mem → Option α} {res : α} (hf : bnd2 (fX8_gateBecomes v1 v2 v3 M) K = some res) (kk : ∀ (t : Int32) (M1 : Mem) (H1 : Heap) (locs1 : List Loc), Wd shM D cA ad H0 M1 H1 locs1 → narrow .int (.int t) = .int t → K t M1 = some res → W p l e R s m args below meth c H1 locs1 0 0 Q (F0 m (pc + 3) ls (.int t :: rest))) : W p l e R s m args below meth c H locs 0 0 Q (F0 m pc ls (.int v3 :: .int v2 :: .int v1 :: .ref (ad 0) :: rest)) := by
  obtain ⟨t, M1, h1, h2⟩ := bnd2_some hf
  exact r_afti hw (r_runV (As := [.int v1, .int v2, .int v3]) F hw hl (cX8_gateBecomes_ok l D cA ad M v1 v2 v3 t M1 h1) cz8 (show shM[0]? = some (.inr (8, sf8)) from rfl) cwX8_138 hR hrm hd) (fun H1 o1 hw1 hn => kk t M1 H1 o1 hw1 hn h2)
def fX8_gate (v1 : Int32) (v2 : Int32) (v3 : Int32) (M : Mem) : Option (Int32 × Mem) :=
  if (fX8_isGate v1 M) = 0 then
    bnd2 (fX8_bad M) fun t8 M7 =>
    some (t8, M7)
  else
    if (fX8_in v2 (0 : Int32) (1 : Int32)) = 0 then
      bnd2 (fX8_bad M) fun t16 M15 =>
      some (t16, M15)
    else
      jn (fun (t17 : Int32) =>
        if (fX8_in v3 (0 : Int32) t17) = 0 then
          bnd2 (fX8_bad M) fun t29 M28 =>
          some (t29, M28)
        else
          bnd2 (fX8_gateBecomes v1 v2 v3 M) fun t34 M33 =>
          some (t34, M33)) fun j21 =>
      if v2 = 0 then
        j21 (5 : Int32)
      else
        j21 (40 : Int32)
set_option maxHeartbeats 4000000 in
set_option maxRecDepth 100000 in
theorem cX8_gate_ok (l : Launch) (D : va_G) (cA : Nat → ClassId) (ad : Nat → Nat) (M : Mem) (v1 : Int32) (v2 : Int32) (v3 : Int32) (r : Int32) (M' : Mem) (hf : fX8_gate v1 v2 v3 M = some (r, M')) : Ctg l yX8_gate cX8_gate 4 (some .int) 2 43 shM D cA ad [.ref (ad 0), .int v1, .int v2, .int v3] M (Qzi shM D cA ad .int r M') := by
  refine ct_in (by decide) (Nat.le_of_ble_eq_true rfl) ?_
  intro p e s m below meth c ls F hl hw
  have hl : lv_has ls 4 [(0, .ref (ad 0)), (1, .int v1), (2, .int v2), (3, .int v3)] := hl
  unfold fX8_gate at hf
  refine lv_aload_n F.1 F.2.1 dX8_gate_0 rfl (lv_at hl 0 rfl) ?_
  refine lv_iload_n F.1 F.2.1 dX8_gate_1 rfl (lv_at hl 1 rfl) ?_
  refine clX8_134 F hw hl ⟨Nat.le_of_ble_eq_true rfl, Nat.le_of_ble_eq_true rfl⟩ (Nat.le_of_ble_eq_true rfl) dX8_gate_2 (fun H1 o2 hw hn3 => ?_)
  refine b_if_eq F dX8_gate_5 (tgt := 45) (by decide) hf (fun hc38 hf => ?_) (fun hc38 hf => ?_)
  · refine lv_aload_n F.1 F.2.1 dX8_gate_45 rfl (lv_at hl 0 rfl) ?_
    refine clX8_127 F hw hl ⟨Nat.le_of_ble_eq_true rfl, Nat.le_of_ble_eq_true rfl⟩ (Nat.le_of_ble_eq_true rfl) dX8_gate_46 hf (fun t8 M7 H4 o5 hw hn6 hf => ?_)
    exact r_iret_w F hw (vp_nar_int _) dX8_gate_49 hf
  · refine lv_iload_n F.1 F.2.1 dX8_gate_8 rfl (lv_at hl 2 rfl) ?_
    refine k_iconst_0 F dX8_gate_9 ?_
    refine k_iconst_1 F dX8_gate_10 ?_
    refine clX8_110 F hw hl ⟨Nat.le_of_ble_eq_true rfl, Nat.le_of_ble_eq_true rfl⟩ (Nat.le_of_ble_eq_true rfl) dX8_gate_11 (fun H9 o10 hw hn11 => ?_)
    refine b_if_eq F dX8_gate_14 (tgt := 45) (by decide) hf (fun hc37 hf => ?_) (fun hc37 hf => ?_)
    · refine lv_aload_n F.1 F.2.1 dX8_gate_45 rfl (lv_at hl 0 rfl) ?_
      refine clX8_127 F hw hl ⟨Nat.le_of_ble_eq_true rfl, Nat.le_of_ble_eq_true rfl⟩ (Nat.le_of_ble_eq_true rfl) dX8_gate_46 hf (fun t16 M15 H12 o13 hw hn14 hf => ?_)
      exact r_iret_w F hw (vp_nar_int _) dX8_gate_49 hf
    · refine lv_iload_n F.1 F.2.1 dX8_gate_17 rfl (lv_at hl 3 rfl) ?_
      refine k_iconst_0 F dX8_gate_18 ?_
      refine lv_iload_n F.1 F.2.1 dX8_gate_19 rfl (lv_at hl 2 rfl) ?_
      refine jn_go1 (fun (t17 : Int32) => ∀ (H18 : Heap) (o19 : List Loc) (ls20 : Array Slot), lv_has ls20 4 [(0, .ref (ad 0)), (1, .int v1), (2, .int v2), (3, .int v3)] → Wd shM D cA ad s.heap M H18 o19 → W p l e (rz 2 43) s m ([.ref (ad 0), .int v1, .int v2, .int v3] : List Value).toArray below meth c H18 o19 0 0 (MQ below (Qzi shM D cA ad .int r M') ([.ref (ad 0), .int v1, .int v2, .int v3] : List Value).toArray s 0 0 (Az shM ad)) (F0 m 29 ls20 [.int t17, .int (0 : Int32), .int v3])) hf (fun t17 hf H18 o19 ls20 hl hw => ?_) (fun j21 Jj21 hf => ?_)
      · refine clX8_110 F hw hl ⟨Nat.le_of_ble_eq_true rfl, Nat.le_of_ble_eq_true rfl⟩ (Nat.le_of_ble_eq_true rfl) dX8_gate_29 (fun H22 o23 hw hn24 => ?_)
        refine b_if_eq F dX8_gate_32 (tgt := 45) (by decide) hf (fun hc35 hf => ?_) (fun hc35 hf => ?_)
        · refine lv_aload_n F.1 F.2.1 dX8_gate_45 rfl (lv_at hl 0 rfl) ?_
          refine clX8_127 F hw hl ⟨Nat.le_of_ble_eq_true rfl, Nat.le_of_ble_eq_true rfl⟩ (Nat.le_of_ble_eq_true rfl) dX8_gate_46 hf (fun t29 M28 H25 o26 hw hn27 hf => ?_)
          exact r_iret_w F hw (vp_nar_int _) dX8_gate_49 hf
        · refine lv_aload_n F.1 F.2.1 dX8_gate_35 rfl (lv_at hl 0 rfl) ?_
          refine lv_iload_n F.1 F.2.1 dX8_gate_36 rfl (lv_at hl 1 rfl) ?_
          refine lv_iload_n F.1 F.2.1 dX8_gate_37 rfl (lv_at hl 2 rfl) ?_
          refine lv_iload_n F.1 F.2.1 dX8_gate_38 rfl (lv_at hl 3 rfl) ?_
          refine clX8_138 F hw hl ⟨Nat.le_of_ble_eq_true rfl, Nat.le_of_ble_eq_true rfl⟩ (Nat.le_of_ble_eq_true rfl) dX8_gate_39 hf (fun t34 M33 H30 o31 hw hn32 hf => ?_)
          refine lv_goto F.1 F.2.1 dX8_gate_42 (tgt := 49) (by decide) ?_
          exact r_iret_w F hw (vp_nar_int _) dX8_gate_49 hf
      · refine b_if_ne F dX8_gate_20 (tgt := 27) (by decide) hf (fun hc36 hf => ?_) (fun hc36 hf => ?_)
        · refine k_iconst_5 F dX8_gate_23 ?_
          refine lv_goto F.1 F.2.1 dX8_gate_24 (tgt := 29) (by decide) ?_
          exact Jj21 (5 : Int32) hf _ _ _ hl hw
        · refine k_bipush_40 F dX8_gate_27 ?_
          exact Jj21 (40 : Int32) hf _ _ _ hl hw
def fX8_gain (v1 : Int32) (v2 : Int32) (v3 : Int32) (M : Mem) : Option (Int32 × Mem) :=
  if (fX8_isSender v1 M) = 0 then
    bnd2 (fX8_bad M) fun t8 M7 =>
    some (t8, M7)
  else
    if (fX8_isGate v2 M) = 0 then
      bnd2 (fX8_bad M) fun t16 M15 =>
      some (t16, M15)
    else
      if (fX8_in v3 (0 : Int32) (60 : Int32)) = 0 then
        bnd2 (fX8_bad M) fun t29 M28 =>
        some (t29, M28)
      else
        ix (((4 : Int32) * v1) + v2) 24 <|
        wr M 8 (((4 : Int32) * v1) + v2).toNatClampNeg v3 fun M22 =>
        some ((M 8 (((4 : Int32) * v1) + v2).toNatClampNeg), M22)
set_option maxHeartbeats 4000000 in
set_option maxRecDepth 100000 in
theorem cX8_gain_ok (l : Launch) (D : va_G) (cA : Nat → ClassId) (ad : Nat → Nat) (M : Mem) (v1 : Int32) (v2 : Int32) (v3 : Int32) (r : Int32) (M' : Mem) (hf : fX8_gain v1 v2 v3 M = some (r, M')) : Ctg l yX8_gain cX8_gain 5 (some .int) 2 43 shM D cA ad [.ref (ad 0), .int v1, .int v2, .int v3] M (Qzi shM D cA ad .int r M') := by
  refine ct_in (by decide) (Nat.le_of_ble_eq_true rfl) ?_
  intro p e s m below meth c ls F hl hw
  have hl : lv_has ls 5 [(0, .ref (ad 0)), (1, .int v1), (2, .int v2), (3, .int v3)] := hl
  unfold fX8_gain at hf
  refine lv_aload_n F.1 F.2.1 dX8_gain_0 rfl (lv_at hl 0 rfl) ?_
  refine lv_iload_n F.1 F.2.1 dX8_gain_1 rfl (lv_at hl 1 rfl) ?_
  refine clX8_142 F hw hl ⟨Nat.le_of_ble_eq_true rfl, Nat.le_of_ble_eq_true rfl⟩ (Nat.le_of_ble_eq_true rfl) dX8_gain_2 (fun H1 o2 hw hn3 => ?_)
  refine b_if_eq F dX8_gain_5 (tgt := 26) (by decide) hf (fun hc32 hf => ?_) (fun hc32 hf => ?_)
  · refine lv_aload_n F.1 F.2.1 dX8_gain_26 rfl (lv_at hl 0 rfl) ?_
    refine clX8_127 F hw hl ⟨Nat.le_of_ble_eq_true rfl, Nat.le_of_ble_eq_true rfl⟩ (Nat.le_of_ble_eq_true rfl) dX8_gain_27 hf (fun t8 M7 H4 o5 hw hn6 hf => ?_)
    exact r_iret_w F hw (vp_nar_int _) dX8_gain_30 hf
  · refine lv_aload_n F.1 F.2.1 dX8_gain_8 rfl (lv_at hl 0 rfl) ?_
    refine lv_iload_n F.1 F.2.1 dX8_gain_9 rfl (lv_at hl 2 rfl) ?_
    refine clX8_134 F hw hl ⟨Nat.le_of_ble_eq_true rfl, Nat.le_of_ble_eq_true rfl⟩ (Nat.le_of_ble_eq_true rfl) dX8_gain_10 (fun H9 o10 hw hn11 => ?_)
    refine b_if_eq F dX8_gain_13 (tgt := 26) (by decide) hf (fun hc31 hf => ?_) (fun hc31 hf => ?_)
    · refine lv_aload_n F.1 F.2.1 dX8_gain_26 rfl (lv_at hl 0 rfl) ?_
      refine clX8_127 F hw hl ⟨Nat.le_of_ble_eq_true rfl, Nat.le_of_ble_eq_true rfl⟩ (Nat.le_of_ble_eq_true rfl) dX8_gain_27 hf (fun t16 M15 H12 o13 hw hn14 hf => ?_)
      exact r_iret_w F hw (vp_nar_int _) dX8_gain_30 hf
    · refine lv_iload_n F.1 F.2.1 dX8_gain_16 rfl (lv_at hl 3 rfl) ?_
      refine k_iconst_0 F dX8_gain_17 ?_
      refine k_bipush_60 F dX8_gain_18 ?_
      refine clX8_110 F hw hl ⟨Nat.le_of_ble_eq_true rfl, Nat.le_of_ble_eq_true rfl⟩ (Nat.le_of_ble_eq_true rfl) dX8_gain_20 (fun H17 o18 hw hn19 => ?_)
      refine b_if_ne F dX8_gain_23 (tgt := 31) (by decide) hf (fun hc30 hf => ?_) (fun hc30 hf => ?_)
      · refine lv_aload_n F.1 F.2.1 dX8_gain_26 rfl (lv_at hl 0 rfl) ?_
        refine clX8_127 F hw hl ⟨Nat.le_of_ble_eq_true rfl, Nat.le_of_ble_eq_true rfl⟩ (Nat.le_of_ble_eq_true rfl) dX8_gain_27 hf (fun t29 M28 H25 o26 hw hn27 hf => ?_)
        exact r_iret_w F hw (vp_nar_int _) dX8_gain_30 hf
      · refine lv_aload_n F.1 F.2.1 dX8_gain_31 rfl (lv_at hl 0 rfl) ?_
        refine gX8_41 F hw rfl dX8_gain_32 ?_
        refine k_iconst_4 F dX8_gain_35 ?_
        refine lv_iload_n F.1 F.2.1 dX8_gain_36 rfl (lv_at hl 1 rfl) ?_
        refine lv_imul F.1 F.2.1 dX8_gain_37 ?_
        refine lv_iload_n F.1 F.2.1 dX8_gain_38 rfl (lv_at hl 2 rfl) ?_
        refine lv_iadd F.1 F.2.1 dX8_gain_39 ?_
        refine r_iald F hw (n := 24) rfl dX8_gain_40 hf (fun hi20 hf => ?_)
        refine lv_istore F.1 F.2.1 dX8_gain_41 hl (lv' := [(4, .int (M 8 (((4 : Int32) * v1) + v2).toNatClampNeg)), (0, .ref (ad 0)), (1, .int v1), (2, .int v2), (3, .int v3)]) (Nat.le_of_ble_eq_true rfl) rfl (fun ls21 hl => ?_)
        refine lv_aload_n F.1 F.2.1 dX8_gain_43 rfl (lv_at hl 1 rfl) ?_
        refine gX8_41 F hw rfl dX8_gain_44 ?_
        refine k_iconst_4 F dX8_gain_47 ?_
        refine lv_iload_n F.1 F.2.1 dX8_gain_48 rfl (lv_at hl 2 rfl) ?_
        refine lv_imul F.1 F.2.1 dX8_gain_49 ?_
        refine lv_iload_n F.1 F.2.1 dX8_gain_50 rfl (lv_at hl 3 rfl) ?_
        refine lv_iadd F.1 F.2.1 dX8_gain_51 ?_
        refine lv_iload_n F.1 F.2.1 dX8_gain_52 rfl (lv_at hl 4 rfl) ?_
        refine r_iast0 F hw (n := 24) rfl dX8_gain_53 hi20 hf (fun M22 H23 o24 hw hf => ?_)
        refine lv_iload F.1 F.2.1 dX8_gain_54 (lv_at hl 0 rfl) ?_
        exact r_iret_w F hw (vp_nar_int _) dX8_gain_56 hf
def fX8_draw_L36 : Nat → Int64 → Int32 → Int32 → Int32 → Mem → Option (Int64 × Int32 × Mem)
  | 0, _, _, _, _, _ => none
  | n + 1, v2, v4, v5, v6, M =>
    if (M 0 2) ≤ v6 then
      some (v2, v4, M)
    else
      ix (((4 : Int32) * v5) + v6) 24 <| wr M 8 (((4 : Int32) * v5) + v6).toNatClampNeg (jlrem (jldiv (jlrem ((v2 * (1103515245 : Int64)) + (12345 : Int64)) (2147483648 : Int64)) (65536 : Int64)) (61 : Int64)).toInt32 fun M10 =>
      fX8_draw_L36 n (jlrem ((v2 * (1103515245 : Int64)) + (12345 : Int64)) (2147483648 : Int64)) (v4 + (M10 8 (((4 : Int32) * v5) + v6).toNatClampNeg)) v5 (v6 + (1 : Int32)) M10
def fX8_draw_L24 : Nat → Int64 → Int32 → Int32 → Mem → Option (Int32 × Mem)
  | 0, _, _, _, _ => none
  | n + 1, v2, v4, v5, M =>
    if (M 0 1) ≤ v5 then
      some (v4, M)
    else
      bnd3 (fX8_draw_L36 FUEL v2 v4 v5 (0 : Int32) M) fun w16 w17 M18 =>
      fX8_draw_L24 n w16 w17 (v5 + (1 : Int32)) M18
def fX8_draw (v1 : Int32) (M : Mem) : Option (Int32 × Mem) :=
  if (fX8_in v1 (0 : Int32) (999999 : Int32)) = 0 then
    bnd2 (fX8_bad M) fun t35 M34 =>
    some (t35, M34)
  else
    bnd2 (fX8_draw_L24 FUEL v1.toInt64 (0 : Int32) (0 : Int32) M) fun w25 M26 =>
    some (w25, M26)
set_option maxHeartbeats 4000000 in
set_option maxRecDepth 100000 in
theorem wX8_draw_L36 {p : Program} {l : Launch} {e : Env} {s : State} {m : MethodId} {args : Array Value} {below : List Frame} {meth : Method} {c : Code} {D : va_G} {cA : Nat → ClassId} {ad : Nat → Nat} {Q : State → Prop} (F : Fx D cA RX8 cX8_draw 7 (some .int) p s m args meth c) : ∀ (n : Nat) (v2 : Int64) (v4 : Int32) (v5 : Int32) (v6 : Int32) (M : Mem) (H : Heap) (o : List Loc) (ls : Array Slot), lv_has ls 7 [(0, .ref (ad 0)), (2, .long v2), (4, .int v4), (5, .int v5), (6, .int v6)] → Wd shM D cA ad s.heap M H o → ∀ (u2 : Int64) (u4 : Int32) (M' : Mem), fX8_draw_L36 n v2 v4 v5 v6 M = some (u2, u4, M') → (∀ (H1 : Heap) (o1 : List Loc) (ls1 : Array Slot), lv_has ls1 7 [(2, .long u2), (4, .int u4), (0, .ref (ad 0)), (5, .int v5)] → Wd shM D cA ad s.heap M' H1 o1 → W p l e (rz 1 22) s m args below meth c H1 o1 0 0 Q (F0 m 104 ls1 [])) → W p l e (rz 1 22) s m args below meth c H o 0 0 Q (F0 m 36 ls []) := by
  intro n
  induction n with
  | zero =>
    intro v2 v4 v5 v6 M H o ls hl hw u2 u4 M' hf kk
    cases hf
  | succ n ih =>
    intro v2 v4 v5 v6 M H o ls hl hw u2 u4 M' hf kk
    rw [fX8_draw_L36] at hf
    refine lv_iload F.1 F.2.1 dX8_draw_36 (lv_at hl 4 rfl) ?_
    refine lv_aload_n F.1 F.2.1 dX8_draw_38 rfl (lv_at hl 0 rfl) ?_
    refine gX8_17 F hw rfl dX8_draw_39 ?_
    refine b_icmp_ge F dX8_draw_42 (tgt := 104) (by decide) hf (fun hc15 hf => ?_) (fun hc15 hf => ?_)
    · cases hf
      exact kk _ _ _ (lv_sub hl [1, 2, 0, 3] rfl) hw
    · refine lv_lload_n F.1 F.2.1 dX8_draw_45 rfl (lv_at hl 1 rfl) ?_
      refine lv_ldc2 F.1 F.2.1 F.2.2.2.1 (F.2.2.2.2.1 _ kw_899) dX8_draw_46 ?_
      refine lv_lmul F.1 F.2.1 dX8_draw_49 ?_
      refine lv_ldc2 F.1 F.2.1 F.2.2.2.1 (F.2.2.2.2.1 _ kw_900) dX8_draw_50 ?_
      refine lv_ladd F.1 F.2.1 dX8_draw_53 ?_
      refine lv_ldc2 F.1 F.2.1 F.2.2.2.1 (F.2.2.2.2.1 _ kw_901) dX8_draw_54 ?_
      refine k_lrem F dX8_draw_57 (by decide) ?_
      refine lv_lstore_n F.1 F.2.1 dX8_draw_58 rfl hl (lv' := [(2, .long (jlrem ((v2 * (1103515245 : Int64)) + (12345 : Int64)) (2147483648 : Int64))), (0, .ref (ad 0)), (4, .int v4), (5, .int v5), (6, .int v6)]) (Nat.le_of_ble_eq_true rfl) rfl (fun ls8 hl => ?_)
      refine lv_aload_n F.1 F.2.1 dX8_draw_59 rfl (lv_at hl 1 rfl) ?_
      refine gX8_41 F hw rfl dX8_draw_60 ?_
      refine k_iconst_4 F dX8_draw_63 ?_
      refine lv_iload F.1 F.2.1 dX8_draw_64 (lv_at hl 3 rfl) ?_
      refine lv_imul F.1 F.2.1 dX8_draw_66 ?_
      refine lv_iload F.1 F.2.1 dX8_draw_67 (lv_at hl 4 rfl) ?_
      refine lv_iadd F.1 F.2.1 dX8_draw_69 ?_
      refine lv_lload_n F.1 F.2.1 dX8_draw_70 rfl (lv_at hl 0 rfl) ?_
      refine lv_ldc2 F.1 F.2.1 F.2.2.2.1 (F.2.2.2.2.1 _ kw_902) dX8_draw_71 ?_
      refine k_ldiv F dX8_draw_74 (by decide) ?_
      refine lv_ldc2 F.1 F.2.1 F.2.2.2.1 (F.2.2.2.2.1 _ kw_903) dX8_draw_75 ?_
      refine k_lrem F dX8_draw_78 (by decide) ?_
      refine lv_l2i F.1 F.2.1 dX8_draw_79 rfl ?_
      refine r_iast F hw (n := 24) rfl dX8_draw_80 hf (fun hi9 M10 H11 o12 hw hf => ?_)
      refine lv_iload F.1 F.2.1 dX8_draw_81 (lv_at hl 2 rfl) ?_
      refine lv_aload_n F.1 F.2.1 dX8_draw_83 rfl (lv_at hl 1 rfl) ?_
      refine gX8_41 F hw rfl dX8_draw_84 ?_
      refine k_iconst_4 F dX8_draw_87 ?_
      refine lv_iload F.1 F.2.1 dX8_draw_88 (lv_at hl 3 rfl) ?_
      refine lv_imul F.1 F.2.1 dX8_draw_90 ?_
      refine lv_iload F.1 F.2.1 dX8_draw_91 (lv_at hl 4 rfl) ?_
      refine lv_iadd F.1 F.2.1 dX8_draw_93 ?_
      refine r_iald0 F hw (n := 24) rfl dX8_draw_94 hi9 ?_
      refine lv_iadd F.1 F.2.1 dX8_draw_95 ?_
      refine lv_istore F.1 F.2.1 dX8_draw_96 hl (lv' := [(4, .int (v4 + (M10 8 (((4 : Int32) * v5) + v6).toNatClampNeg))), (2, .long (jlrem ((v2 * (1103515245 : Int64)) + (12345 : Int64)) (2147483648 : Int64))), (0, .ref (ad 0)), (5, .int v5), (6, .int v6)]) (Nat.le_of_ble_eq_true rfl) rfl (fun ls13 hl => ?_)
      refine lv_iinc F.1 F.2.1 dX8_draw_98 hl (k := 4) rfl (ki_1 _) (lv' := [(6, .int (v6 + (1 : Int32))), (4, .int (v4 + (M10 8 (((4 : Int32) * v5) + v6).toNatClampNeg))), (2, .long (jlrem ((v2 * (1103515245 : Int64)) + (12345 : Int64)) (2147483648 : Int64))), (0, .ref (ad 0)), (5, .int v5)]) (Nat.le_of_ble_eq_true rfl) rfl (fun ls14 hl => ?_)
      refine lv_goto F.1 F.2.1 dX8_draw_101 (tgt := 36) (by decide) ?_
      exact ih (jlrem ((v2 * (1103515245 : Int64)) + (12345 : Int64)) (2147483648 : Int64)) (v4 + (M10 8 (((4 : Int32) * v5) + v6).toNatClampNeg)) v5 (v6 + (1 : Int32)) M10 _ _ _ (lv_sub hl [3, 2, 1, 4, 0] rfl) hw u2 u4 M' hf kk
set_option maxHeartbeats 4000000 in
set_option maxRecDepth 100000 in
theorem wX8_draw_L24 {p : Program} {l : Launch} {e : Env} {s : State} {m : MethodId} {args : Array Value} {below : List Frame} {meth : Method} {c : Code} {D : va_G} {cA : Nat → ClassId} {ad : Nat → Nat} {Q : State → Prop} (F : Fx D cA RX8 cX8_draw 7 (some .int) p s m args meth c) : ∀ (n : Nat) (v2 : Int64) (v4 : Int32) (v5 : Int32) (M : Mem) (H : Heap) (o : List Loc) (ls : Array Slot), lv_has ls 7 [(0, .ref (ad 0)), (2, .long v2), (4, .int v4), (5, .int v5)] → Wd shM D cA ad s.heap M H o → ∀ (u4 : Int32) (M' : Mem), fX8_draw_L24 n v2 v4 v5 M = some (u4, M') → (∀ (H1 : Heap) (o1 : List Loc) (ls1 : Array Slot), lv_has ls1 7 [(4, .int u4)] → Wd shM D cA ad s.heap M' H1 o1 → W p l e (rz 1 22) s m args below meth c H1 o1 0 0 Q (F0 m 110 ls1 [])) → W p l e (rz 1 22) s m args below meth c H o 0 0 Q (F0 m 24 ls []) := by
  intro n
  induction n with
  | zero =>
    intro v2 v4 v5 M H o ls hl hw u4 M' hf kk
    cases hf
  | succ n ih =>
    intro v2 v4 v5 M H o ls hl hw u4 M' hf kk
    rw [fX8_draw_L24] at hf
    refine lv_iload F.1 F.2.1 dX8_draw_24 (lv_at hl 3 rfl) ?_
    refine lv_aload_n F.1 F.2.1 dX8_draw_26 rfl (lv_at hl 0 rfl) ?_
    refine gX8_13 F hw rfl dX8_draw_27 ?_
    refine b_icmp_ge F dX8_draw_30 (tgt := 110) (by decide) hf (fun hc24 hf => ?_) (fun hc24 hf => ?_)
    · cases hf
      exact kk _ _ _ (lv_sub hl [2] rfl) hw
    · refine k_iconst_0 F dX8_draw_33 ?_
      refine lv_istore F.1 F.2.1 dX8_draw_34 hl (lv' := [(6, .int (0 : Int32)), (0, .ref (ad 0)), (2, .long v2), (4, .int v4), (5, .int v5)]) (Nat.le_of_ble_eq_true rfl) rfl (fun ls7 hl => ?_)
      obtain ⟨w16, w17, M18, hq23, hf⟩ := bnd3_some hf
      refine wX8_draw_L36 F FUEL v2 v4 v5 (0 : Int32) M _ _ _ (lv_sub hl [1, 2, 3, 4, 0] rfl) hw w16 w17 M18 hq23 (fun H19 o20 ls21 hl hw => ?_)
      refine lv_iinc F.1 F.2.1 dX8_draw_104 hl (k := 3) rfl (ki_1 _) (lv' := [(5, .int (v5 + (1 : Int32))), (2, .long w16), (4, .int w17), (0, .ref (ad 0))]) (Nat.le_of_ble_eq_true rfl) rfl (fun ls22 hl => ?_)
      refine lv_goto F.1 F.2.1 dX8_draw_107 (tgt := 24) (by decide) ?_
      exact ih w16 w17 (v5 + (1 : Int32)) M18 _ _ _ (lv_sub hl [3, 1, 2, 0] rfl) hw u4 M' hf kk
set_option maxHeartbeats 4000000 in
set_option maxRecDepth 100000 in
theorem cX8_draw_ok (l : Launch) (D : va_G) (cA : Nat → ClassId) (ad : Nat → Nat) (M : Mem) (v1 : Int32) (r : Int32) (M' : Mem) (hf : fX8_draw v1 M = some (r, M')) : Ctg l yX8_draw cX8_draw 7 (some .int) 1 22 shM D cA ad [.ref (ad 0), .int v1] M (Qzi shM D cA ad .int r M') := by
  refine ct_in (by decide) (Nat.le_of_ble_eq_true rfl) ?_
  intro p e s m below meth c ls F hl hw
  have hl : lv_has ls 7 [(0, .ref (ad 0)), (1, .int v1)] := hl
  unfold fX8_draw at hf
  refine lv_iload_n F.1 F.2.1 dX8_draw_0 rfl (lv_at hl 1 rfl) ?_
  refine k_iconst_0 F dX8_draw_1 ?_
  refine lv_ldc F.1 F.2.1 F.2.2.2.1 (F.2.2.2.2.1 _ kw_898) dX8_draw_2 ?_
  refine clX8_110 F hw hl ⟨Nat.le_of_ble_eq_true rfl, Nat.le_of_ble_eq_true rfl⟩ (Nat.le_of_ble_eq_true rfl) dX8_draw_4 (fun H1 o2 hw hn3 => ?_)
  refine b_if_ne F dX8_draw_7 (tgt := 15) (by decide) hf (fun hc36 hf => ?_) (fun hc36 hf => ?_)
  · refine lv_aload_n F.1 F.2.1 dX8_draw_10 rfl (lv_at hl 0 rfl) ?_
    refine clX8_127 F hw hl ⟨Nat.le_of_ble_eq_true rfl, Nat.le_of_ble_eq_true rfl⟩ (Nat.le_of_ble_eq_true rfl) dX8_draw_11 hf (fun t35 M34 H31 o32 hw hn33 hf => ?_)
    exact r_iret_w F hw (vp_nar_int _) dX8_draw_14 hf
  · refine lv_iload_n F.1 F.2.1 dX8_draw_15 rfl (lv_at hl 1 rfl) ?_
    refine lv_i2l F.1 F.2.1 dX8_draw_16 rfl ?_
    refine lv_lstore_n F.1 F.2.1 dX8_draw_17 rfl hl (lv' := [(2, .long v1.toInt64), (0, .ref (ad 0)), (1, .int v1)]) (Nat.le_of_ble_eq_true rfl) rfl (fun ls4 hl => ?_)
    refine k_iconst_0 F dX8_draw_18 ?_
    refine lv_istore F.1 F.2.1 dX8_draw_19 hl (lv' := [(4, .int (0 : Int32)), (2, .long v1.toInt64), (0, .ref (ad 0)), (1, .int v1)]) (Nat.le_of_ble_eq_true rfl) rfl (fun ls5 hl => ?_)
    refine k_iconst_0 F dX8_draw_21 ?_
    refine lv_istore F.1 F.2.1 dX8_draw_22 hl (lv' := [(5, .int (0 : Int32)), (4, .int (0 : Int32)), (2, .long v1.toInt64), (0, .ref (ad 0)), (1, .int v1)]) (Nat.le_of_ble_eq_true rfl) rfl (fun ls6 hl => ?_)
    obtain ⟨w25, M26, hq30, hf⟩ := bnd2_some hf
    refine wX8_draw_L24 F FUEL v1.toInt64 (0 : Int32) (0 : Int32) M _ _ _ (lv_sub hl [3, 2, 1, 0] rfl) hw w25 M26 hq30 (fun H27 o28 ls29 hl hw => ?_)
    refine lv_iload F.1 F.2.1 dX8_draw_110 (lv_at hl 0 rfl) ?_
    exact r_iret_w F hw (vp_nar_int _) dX8_draw_112 hf
def fX8_mostOf (v0 : Int32) : Int32 :=
  if v0 = 0 then
    (5 : Int32)
  else
    if v0 = (1 : Int32) then
      (4 : Int32)
    else
      if v0 = (2 : Int32) then
        (63 : Int32)
      else
        (1 : Int32)
set_option maxHeartbeats 4000000 in
set_option maxRecDepth 100000 in
theorem cX8_mostOf_ok (l : Launch) (D : va_G) (cA : Nat → ClassId) (ad : Nat → Nat) (M : Mem) (v0 : Int32) (r : Int32) (hf : fX8_mostOf v0 = r) : Ctg l yX8_mostOf cX8_mostOf 1 (some .int) 0 0 shM D cA ad [.int v0] M (Qzi shM D cA ad .int r M) := by
  refine ct_in (by decide) (Nat.le_of_ble_eq_true rfl) ?_
  intro p e s m below meth c ls F hl hw
  have hl : lv_has ls 1 [(0, .int v0)] := hl
  unfold fX8_mostOf at hf
  refine lv_iload_n F.1 F.2.1 dX8_mostOf_0 rfl (lv_at hl 0 rfl) ?_
  refine b_if_ne F dX8_mostOf_1 (tgt := 8) (by decide) hf (fun hc3 hf => ?_) (fun hc3 hf => ?_)
  · refine k_iconst_5 F dX8_mostOf_4 ?_
    refine lv_goto F.1 F.2.1 dX8_mostOf_5 (tgt := 28) (by decide) ?_
    exact r_iret_t F hw (vp_nar_int _) dX8_mostOf_28 hf
  · refine lv_iload_n F.1 F.2.1 dX8_mostOf_8 rfl (lv_at hl 0 rfl) ?_
    refine k_iconst_1 F dX8_mostOf_9 ?_
    refine b_icmp_ne F dX8_mostOf_10 (tgt := 17) (by decide) hf (fun hc2 hf => ?_) (fun hc2 hf => ?_)
    · refine k_iconst_4 F dX8_mostOf_13 ?_
      refine lv_goto F.1 F.2.1 dX8_mostOf_14 (tgt := 28) (by decide) ?_
      exact r_iret_t F hw (vp_nar_int _) dX8_mostOf_28 hf
    · refine lv_iload_n F.1 F.2.1 dX8_mostOf_17 rfl (lv_at hl 0 rfl) ?_
      refine k_iconst_2 F dX8_mostOf_18 ?_
      refine b_icmp_ne F dX8_mostOf_19 (tgt := 27) (by decide) hf (fun hc1 hf => ?_) (fun hc1 hf => ?_)
      · refine k_bipush_63 F dX8_mostOf_22 ?_
        refine lv_goto F.1 F.2.1 dX8_mostOf_24 (tgt := 28) (by decide) ?_
        exact r_iret_t F hw (vp_nar_int _) dX8_mostOf_28 hf
      · refine k_iconst_1 F dX8_mostOf_27 ?_
        exact r_iret_t F hw (vp_nar_int _) dX8_mostOf_28 hf
theorem clX8_156 (F : Fx D cA RX8 cc nL ret p s m args meth c) (hw : Wd shM D cA ad H0 M H locs) (hl : lv_has ls nL lv) {v0 : Int32} (hR : 1 ≤ R.frames ∧ 20 ≤ R.locals) (hrm : (rest.map fun v => v.category).sum ≤ 8) (hd : decode cc pc = .ok (.invokestatic 156, 3)) (kk : ∀ (H1 : Heap) (locs1 : List Loc), Wd shM D cA ad H0 M H1 locs1 → narrow .int (.int (fX8_mostOf v0)) = .int (fX8_mostOf v0) → W p l e R s m args below meth c H1 locs1 0 0 Q (F0 m (pc + 3) ls (.int (fX8_mostOf v0) :: rest))) : W p l e R s m args below meth c H locs 0 0 Q (F0 m pc ls (.int v0 :: rest)) :=
  r_afti hw (r_runS (As := [.int v0]) F hw hl (cX8_mostOf_ok l D cA ad M v0 (fX8_mostOf v0) rfl) cwX8_156 hR hrm hd) (fun H1 o1 hw1 hn => kk H1 o1 hw1 hn)
def fX8_sender (v1 : Int32) (v2 : Int32) (v3 : Int32) (M : Mem) : Option (Int32 × Mem) :=
  if (fX8_isSender v1 M) = 0 then
    bnd2 (fX8_bad M) fun t8 M7 =>
    some (t8, M7)
  else
    if (fX8_in v2 (0 : Int32) (3 : Int32)) = 0 then
      bnd2 (fX8_bad M) fun t16 M15 =>
      some (t16, M15)
    else
      if (fX8_in v3 (0 : Int32) (fX8_mostOf v2)) = 0 then
        bnd2 (fX8_bad M) fun t59 M58 =>
        some (t59, M58)
      else
        jn (fun (t23 : Int32) =>
          if v2 = 0 then
            ix v1 6 <| wr M 9 v1.toNatClampNeg v3 fun M44 =>
            some (t23, M44)
          else
            if v2 = (1 : Int32) then
              ix v1 6 <| wr M 10 v1.toNatClampNeg v3 fun M39 =>
              some (t23, M39)
            else
              if v2 = (2 : Int32) then
                ix v1 6 <| wr M 11 v1.toNatClampNeg v3 fun M34 =>
                some (t23, M34)
              else
                ix v1 6 <| wr M 12 v1.toNatClampNeg v3 fun M30 =>
                some (t23, M30)) fun j27 =>
        if v2 = 0 then
          ix v1 6 <|
          j27 (M 9 v1.toNatClampNeg)
        else
          if v2 = (1 : Int32) then
            ix v1 6 <|
            j27 (M 10 v1.toNatClampNeg)
          else
            if v2 = (2 : Int32) then
              ix v1 6 <|
              j27 (M 11 v1.toNatClampNeg)
            else
              ix v1 6 <|
              j27 (M 12 v1.toNatClampNeg)
set_option maxHeartbeats 4000000 in
set_option maxRecDepth 100000 in
theorem cX8_sender_ok (l : Launch) (D : va_G) (cA : Nat → ClassId) (ad : Nat → Nat) (M : Mem) (v1 : Int32) (v2 : Int32) (v3 : Int32) (r : Int32) (M' : Mem) (hf : fX8_sender v1 v2 v3 M = some (r, M')) : Ctg l yX8_sender cX8_sender 5 (some .int) 2 43 shM D cA ad [.ref (ad 0), .int v1, .int v2, .int v3] M (Qzi shM D cA ad .int r M') := by
  refine ct_in (by decide) (Nat.le_of_ble_eq_true rfl) ?_
  intro p e s m below meth c ls F hl hw
  have hl : lv_has ls 5 [(0, .ref (ad 0)), (1, .int v1), (2, .int v2), (3, .int v3)] := hl
  unfold fX8_sender at hf
  refine lv_aload_n F.1 F.2.1 dX8_sender_0 rfl (lv_at hl 0 rfl) ?_
  refine lv_iload_n F.1 F.2.1 dX8_sender_1 rfl (lv_at hl 1 rfl) ?_
  refine clX8_142 F hw hl ⟨Nat.le_of_ble_eq_true rfl, Nat.le_of_ble_eq_true rfl⟩ (Nat.le_of_ble_eq_true rfl) dX8_sender_2 (fun H1 o2 hw hn3 => ?_)
  refine b_if_eq F dX8_sender_5 (tgt := 29) (by decide) hf (fun hc62 hf => ?_) (fun hc62 hf => ?_)
  · refine lv_aload_n F.1 F.2.1 dX8_sender_29 rfl (lv_at hl 0 rfl) ?_
    refine clX8_127 F hw hl ⟨Nat.le_of_ble_eq_true rfl, Nat.le_of_ble_eq_true rfl⟩ (Nat.le_of_ble_eq_true rfl) dX8_sender_30 hf (fun t8 M7 H4 o5 hw hn6 hf => ?_)
    exact r_iret_w F hw (vp_nar_int _) dX8_sender_33 hf
  · refine lv_iload_n F.1 F.2.1 dX8_sender_8 rfl (lv_at hl 2 rfl) ?_
    refine k_iconst_0 F dX8_sender_9 ?_
    refine k_iconst_3 F dX8_sender_10 ?_
    refine clX8_110 F hw hl ⟨Nat.le_of_ble_eq_true rfl, Nat.le_of_ble_eq_true rfl⟩ (Nat.le_of_ble_eq_true rfl) dX8_sender_11 (fun H9 o10 hw hn11 => ?_)
    refine b_if_eq F dX8_sender_14 (tgt := 29) (by decide) hf (fun hc61 hf => ?_) (fun hc61 hf => ?_)
    · refine lv_aload_n F.1 F.2.1 dX8_sender_29 rfl (lv_at hl 0 rfl) ?_
      refine clX8_127 F hw hl ⟨Nat.le_of_ble_eq_true rfl, Nat.le_of_ble_eq_true rfl⟩ (Nat.le_of_ble_eq_true rfl) dX8_sender_30 hf (fun t16 M15 H12 o13 hw hn14 hf => ?_)
      exact r_iret_w F hw (vp_nar_int _) dX8_sender_33 hf
    · refine lv_iload_n F.1 F.2.1 dX8_sender_17 rfl (lv_at hl 3 rfl) ?_
      refine k_iconst_0 F dX8_sender_18 ?_
      refine lv_iload_n F.1 F.2.1 dX8_sender_19 rfl (lv_at hl 2 rfl) ?_
      refine clX8_156 F hw hl ⟨Nat.le_of_ble_eq_true rfl, Nat.le_of_ble_eq_true rfl⟩ (Nat.le_of_ble_eq_true rfl) dX8_sender_20 (fun H17 o18 hw hn19 => ?_)
      refine clX8_110 F hw hl ⟨Nat.le_of_ble_eq_true rfl, Nat.le_of_ble_eq_true rfl⟩ (Nat.le_of_ble_eq_true rfl) dX8_sender_23 (fun H20 o21 hw hn22 => ?_)
      refine b_if_ne F dX8_sender_26 (tgt := 34) (by decide) hf (fun hc60 hf => ?_) (fun hc60 hf => ?_)
      · refine lv_aload_n F.1 F.2.1 dX8_sender_29 rfl (lv_at hl 0 rfl) ?_
        refine clX8_127 F hw hl ⟨Nat.le_of_ble_eq_true rfl, Nat.le_of_ble_eq_true rfl⟩ (Nat.le_of_ble_eq_true rfl) dX8_sender_30 hf (fun t59 M58 H55 o56 hw hn57 hf => ?_)
        exact r_iret_w F hw (vp_nar_int _) dX8_sender_33 hf
      · refine lv_iload_n F.1 F.2.1 dX8_sender_34 rfl (lv_at hl 2 rfl) ?_
        refine jn_go1 (fun (t23 : Int32) => ∀ (H24 : Heap) (o25 : List Loc) (ls26 : Array Slot), lv_has ls26 5 [(0, .ref (ad 0)), (1, .int v1), (2, .int v2), (3, .int v3)] → Wd shM D cA ad s.heap M H24 o25 → W p l e (rz 2 43) s m ([.ref (ad 0), .int v1, .int v2, .int v3] : List Value).toArray below meth c H24 o25 0 0 (MQ below (Qzi shM D cA ad .int r M') ([.ref (ad 0), .int v1, .int v2, .int v3] : List Value).toArray s 0 0 (Az shM ad)) (F0 m 81 ls26 [.int t23])) hf (fun t23 hf H24 o25 ls26 hl hw => ?_) (fun j27 Jj27 hf => ?_)
        · refine lv_istore F.1 F.2.1 dX8_sender_81 hl (lv' := [(4, .int t23), (0, .ref (ad 0)), (1, .int v1), (2, .int v2), (3, .int v3)]) (Nat.le_of_ble_eq_true rfl) rfl (fun ls28 hl => ?_)
          refine lv_iload_n F.1 F.2.1 dX8_sender_83 rfl (lv_at hl 3 rfl) ?_
          refine b_if_ne F dX8_sender_84 (tgt := 97) (by decide) hf (fun hc47 hf => ?_) (fun hc47 hf => ?_)
          · refine lv_aload_n F.1 F.2.1 dX8_sender_87 rfl (lv_at hl 1 rfl) ?_
            refine gX8_44 F hw rfl dX8_sender_88 ?_
            refine lv_iload_n F.1 F.2.1 dX8_sender_91 rfl (lv_at hl 2 rfl) ?_
            refine lv_iload_n F.1 F.2.1 dX8_sender_92 rfl (lv_at hl 4 rfl) ?_
            refine r_iast F hw (n := 6) rfl dX8_sender_93 hf (fun hi43 M44 H45 o46 hw hf => ?_)
            refine lv_goto F.1 F.2.1 dX8_sender_94 (tgt := 134) (by decide) ?_
            refine lv_iload F.1 F.2.1 dX8_sender_134 (lv_at hl 0 rfl) ?_
            exact r_iret_w F hw (vp_nar_int _) dX8_sender_136 hf
          · refine lv_iload_n F.1 F.2.1 dX8_sender_97 rfl (lv_at hl 3 rfl) ?_
            refine k_iconst_1 F dX8_sender_98 ?_
            refine b_icmp_ne F dX8_sender_99 (tgt := 112) (by decide) hf (fun hc42 hf => ?_) (fun hc42 hf => ?_)
            · refine lv_aload_n F.1 F.2.1 dX8_sender_102 rfl (lv_at hl 1 rfl) ?_
              refine gX8_47 F hw rfl dX8_sender_103 ?_
              refine lv_iload_n F.1 F.2.1 dX8_sender_106 rfl (lv_at hl 2 rfl) ?_
              refine lv_iload_n F.1 F.2.1 dX8_sender_107 rfl (lv_at hl 4 rfl) ?_
              refine r_iast F hw (n := 6) rfl dX8_sender_108 hf (fun hi38 M39 H40 o41 hw hf => ?_)
              refine lv_goto F.1 F.2.1 dX8_sender_109 (tgt := 134) (by decide) ?_
              refine lv_iload F.1 F.2.1 dX8_sender_134 (lv_at hl 0 rfl) ?_
              exact r_iret_w F hw (vp_nar_int _) dX8_sender_136 hf
            · refine lv_iload_n F.1 F.2.1 dX8_sender_112 rfl (lv_at hl 3 rfl) ?_
              refine k_iconst_2 F dX8_sender_113 ?_
              refine b_icmp_ne F dX8_sender_114 (tgt := 127) (by decide) hf (fun hc37 hf => ?_) (fun hc37 hf => ?_)
              · refine lv_aload_n F.1 F.2.1 dX8_sender_117 rfl (lv_at hl 1 rfl) ?_
                refine gX8_50 F hw rfl dX8_sender_118 ?_
                refine lv_iload_n F.1 F.2.1 dX8_sender_121 rfl (lv_at hl 2 rfl) ?_
                refine lv_iload_n F.1 F.2.1 dX8_sender_122 rfl (lv_at hl 4 rfl) ?_
                refine r_iast F hw (n := 6) rfl dX8_sender_123 hf (fun hi33 M34 H35 o36 hw hf => ?_)
                refine lv_goto F.1 F.2.1 dX8_sender_124 (tgt := 134) (by decide) ?_
                refine lv_iload F.1 F.2.1 dX8_sender_134 (lv_at hl 0 rfl) ?_
                exact r_iret_w F hw (vp_nar_int _) dX8_sender_136 hf
              · refine lv_aload_n F.1 F.2.1 dX8_sender_127 rfl (lv_at hl 1 rfl) ?_
                refine gX8_53 F hw rfl dX8_sender_128 ?_
                refine lv_iload_n F.1 F.2.1 dX8_sender_131 rfl (lv_at hl 2 rfl) ?_
                refine lv_iload_n F.1 F.2.1 dX8_sender_132 rfl (lv_at hl 4 rfl) ?_
                refine r_iast F hw (n := 6) rfl dX8_sender_133 hf (fun hi29 M30 H31 o32 hw hf => ?_)
                refine lv_iload F.1 F.2.1 dX8_sender_134 (lv_at hl 0 rfl) ?_
                exact r_iret_w F hw (vp_nar_int _) dX8_sender_136 hf
        · refine b_if_ne F dX8_sender_35 (tgt := 47) (by decide) hf (fun hc54 hf => ?_) (fun hc54 hf => ?_)
          · refine lv_aload_n F.1 F.2.1 dX8_sender_38 rfl (lv_at hl 0 rfl) ?_
            refine gX8_44 F hw rfl dX8_sender_39 ?_
            refine lv_iload_n F.1 F.2.1 dX8_sender_42 rfl (lv_at hl 1 rfl) ?_
            refine r_iald F hw (n := 6) rfl dX8_sender_43 hf (fun hi53 hf => ?_)
            refine lv_goto F.1 F.2.1 dX8_sender_44 (tgt := 81) (by decide) ?_
            exact Jj27 (M 9 v1.toNatClampNeg) hf _ _ _ hl hw
          · refine lv_iload_n F.1 F.2.1 dX8_sender_47 rfl (lv_at hl 2 rfl) ?_
            refine k_iconst_1 F dX8_sender_48 ?_
            refine b_icmp_ne F dX8_sender_49 (tgt := 61) (by decide) hf (fun hc52 hf => ?_) (fun hc52 hf => ?_)
            · refine lv_aload_n F.1 F.2.1 dX8_sender_52 rfl (lv_at hl 0 rfl) ?_
              refine gX8_47 F hw rfl dX8_sender_53 ?_
              refine lv_iload_n F.1 F.2.1 dX8_sender_56 rfl (lv_at hl 1 rfl) ?_
              refine r_iald F hw (n := 6) rfl dX8_sender_57 hf (fun hi51 hf => ?_)
              refine lv_goto F.1 F.2.1 dX8_sender_58 (tgt := 81) (by decide) ?_
              exact Jj27 (M 10 v1.toNatClampNeg) hf _ _ _ hl hw
            · refine lv_iload_n F.1 F.2.1 dX8_sender_61 rfl (lv_at hl 2 rfl) ?_
              refine k_iconst_2 F dX8_sender_62 ?_
              refine b_icmp_ne F dX8_sender_63 (tgt := 75) (by decide) hf (fun hc50 hf => ?_) (fun hc50 hf => ?_)
              · refine lv_aload_n F.1 F.2.1 dX8_sender_66 rfl (lv_at hl 0 rfl) ?_
                refine gX8_50 F hw rfl dX8_sender_67 ?_
                refine lv_iload_n F.1 F.2.1 dX8_sender_70 rfl (lv_at hl 1 rfl) ?_
                refine r_iald F hw (n := 6) rfl dX8_sender_71 hf (fun hi49 hf => ?_)
                refine lv_goto F.1 F.2.1 dX8_sender_72 (tgt := 81) (by decide) ?_
                exact Jj27 (M 11 v1.toNatClampNeg) hf _ _ _ hl hw
              · refine lv_aload_n F.1 F.2.1 dX8_sender_75 rfl (lv_at hl 0 rfl) ?_
                refine gX8_53 F hw rfl dX8_sender_76 ?_
                refine lv_iload_n F.1 F.2.1 dX8_sender_79 rfl (lv_at hl 1 rfl) ?_
                refine r_iald F hw (n := 6) rfl dX8_sender_80 hf (fun hi48 hf => ?_)
                exact Jj27 (M 12 v1.toNatClampNeg) hf _ _ _ hl hw
def fX8_marginOf (v1 : Int32) (v2 : Int32) (M : Mem) : Option Int32 :=
  ix (((4 : Int32) * v1) + v2) 24 <|
  ix v1 6 <|
  some (((M 8 (((4 : Int32) * v1) + v2).toNatClampNeg) + ((2 : Int32) * (M 10 v1.toNatClampNeg))) - ((5 : Int32) * (M 9 v1.toNatClampNeg)))
set_option maxHeartbeats 4000000 in
set_option maxRecDepth 100000 in
theorem cX8_marginOf_ok (l : Launch) (D : va_G) (cA : Nat → ClassId) (ad : Nat → Nat) (M : Mem) (v1 : Int32) (v2 : Int32) (r : Int32) (hf : fX8_marginOf v1 v2 M = some r) : Ctg l yX8_marginOf cX8_marginOf 3 (some .int) 0 0 shM D cA ad [.ref (ad 0), .int v1, .int v2] M (Qzi shM D cA ad .int r M) := by
  refine ct_in (by decide) (Nat.le_of_ble_eq_true rfl) ?_
  intro p e s m below meth c ls F hl hw
  have hl : lv_has ls 3 [(0, .ref (ad 0)), (1, .int v1), (2, .int v2)] := hl
  unfold fX8_marginOf at hf
  refine lv_aload_n F.1 F.2.1 dX8_marginOf_0 rfl (lv_at hl 0 rfl) ?_
  refine gX8_41 F hw rfl dX8_marginOf_1 ?_
  refine k_iconst_4 F dX8_marginOf_4 ?_
  refine lv_iload_n F.1 F.2.1 dX8_marginOf_5 rfl (lv_at hl 1 rfl) ?_
  refine lv_imul F.1 F.2.1 dX8_marginOf_6 ?_
  refine lv_iload_n F.1 F.2.1 dX8_marginOf_7 rfl (lv_at hl 2 rfl) ?_
  refine lv_iadd F.1 F.2.1 dX8_marginOf_8 ?_
  refine r_iald F hw (n := 24) rfl dX8_marginOf_9 hf (fun hi1 hf => ?_)
  refine k_iconst_2 F dX8_marginOf_10 ?_
  refine lv_aload_n F.1 F.2.1 dX8_marginOf_11 rfl (lv_at hl 0 rfl) ?_
  refine gX8_47 F hw rfl dX8_marginOf_12 ?_
  refine lv_iload_n F.1 F.2.1 dX8_marginOf_15 rfl (lv_at hl 1 rfl) ?_
  refine r_iald F hw (n := 6) rfl dX8_marginOf_16 hf (fun hi2 hf => ?_)
  refine lv_imul F.1 F.2.1 dX8_marginOf_17 ?_
  refine lv_iadd F.1 F.2.1 dX8_marginOf_18 ?_
  refine k_iconst_5 F dX8_marginOf_19 ?_
  refine lv_aload_n F.1 F.2.1 dX8_marginOf_20 rfl (lv_at hl 0 rfl) ?_
  refine gX8_44 F hw rfl dX8_marginOf_21 ?_
  refine lv_iload_n F.1 F.2.1 dX8_marginOf_24 rfl (lv_at hl 1 rfl) ?_
  refine r_iald0 F hw (n := 6) rfl dX8_marginOf_25 hi2 ?_
  refine lv_imul F.1 F.2.1 dX8_marginOf_26 ?_
  refine lv_isub F.1 F.2.1 dX8_marginOf_27 ?_
  exact r_iret_o F hw (vp_nar_int _) dX8_marginOf_28 hf
theorem clX8_160 (F : Fx D cA RX8 cc nL ret p s m args meth c) (hw : Wd shM D cA ad H0 M H locs) (hl : lv_has ls nL lv) {v1 : Int32} {v2 : Int32} (hR : 1 ≤ R.frames ∧ 22 ≤ R.locals) (hrm : (rest.map fun v => v.category).sum ≤ 8) (hd : decode cc pc = .ok (.invokevirtual 160, 3)) {α : Type} {K : Int32 → Option α} {res : α} (hf : bnd1 (fX8_marginOf v1 v2 M) K = some res) (kk : ∀ (t : Int32) (H1 : Heap) (locs1 : List Loc), Wd shM D cA ad H0 M H1 locs1 → narrow .int (.int t) = .int t → K t = some res → W p l e R s m args below meth c H1 locs1 0 0 Q (F0 m (pc + 3) ls (.int t :: rest))) : W p l e R s m args below meth c H locs 0 0 Q (F0 m pc ls (.int v2 :: .int v1 :: .ref (ad 0) :: rest)) := by
  obtain ⟨t, h1, h2⟩ := bnd1_some hf
  exact r_afti hw (r_runV (As := [.int v1, .int v2]) F hw hl (cX8_marginOf_ok l D cA ad M v1 v2 t h1) cz8 (show shM[0]? = some (.inr (8, sf8)) from rfl) cwX8_160 hR hrm hd) (fun H1 o1 hw1 hn => kk t H1 o1 hw1 hn h2)
def fX8_isRoom (M : Mem) : Int32 :=
  if (56 : Int32) < (M 0 22) then
    (0 : Int32)
  else
    (1 : Int32)
set_option maxHeartbeats 4000000 in
set_option maxRecDepth 100000 in
theorem cX8_isRoom_ok (l : Launch) (D : va_G) (cA : Nat → ClassId) (ad : Nat → Nat) (M : Mem)  (r : Int32) (hf : fX8_isRoom M = r) : Ctg l yX8_isRoom cX8_isRoom 1 (some .boolean) 0 0 shM D cA ad [.ref (ad 0)] M (Qzi shM D cA ad .boolean r M) := by
  refine ct_in (by decide) (Nat.le_of_ble_eq_true rfl) ?_
  intro p e s m below meth c ls F hl hw
  have hl : lv_has ls 1 [(0, .ref (ad 0))] := hl
  unfold fX8_isRoom at hf
  refine lv_aload_n F.1 F.2.1 dX8_isRoom_0 rfl (lv_at hl 0 rfl) ?_
  refine gX8_117 F hw rfl dX8_isRoom_1 ?_
  refine k_bipush_56 F dX8_isRoom_4 ?_
  refine b_icmp_gt F dX8_isRoom_6 (tgt := 13) (by decide) hf (fun hc1 hf => ?_) (fun hc1 hf => ?_)
  · refine k_iconst_0 F dX8_isRoom_13 ?_
    exact r_iret_t F hw rfl dX8_isRoom_14 hf
  · refine k_iconst_1 F dX8_isRoom_9 ?_
    refine lv_goto F.1 F.2.1 dX8_isRoom_10 (tgt := 14) (by decide) ?_
    exact r_iret_t F hw rfl dX8_isRoom_14 hf
theorem clX8_167 (F : Fx D cA RX8 cc nL ret p s m args meth c) (hw : Wd shM D cA ad H0 M H locs) (hl : lv_has ls nL lv) (hR : 1 ≤ R.frames ∧ 20 ≤ R.locals) (hrm : (rest.map fun v => v.category).sum ≤ 8) (hd : decode cc pc = .ok (.invokevirtual 167, 3)) (kk : ∀ (H1 : Heap) (locs1 : List Loc), Wd shM D cA ad H0 M H1 locs1 → narrow .boolean (.int (fX8_isRoom M)) = .int (fX8_isRoom M) → W p l e R s m args below meth c H1 locs1 0 0 Q (F0 m (pc + 3) ls (.int (fX8_isRoom M) :: rest))) : W p l e R s m args below meth c H locs 0 0 Q (F0 m pc ls (.ref (ad 0) :: rest)) :=
  r_afti hw (r_runV (As := []) F hw hl (cX8_isRoom_ok l D cA ad M (fX8_isRoom M) rfl) cz8 (show shM[0]? = some (.inr (8, sf8)) from rfl) cwX8_167 hR hrm hd) (fun H1 o1 hw1 hn => kk H1 o1 hw1 hn)
def fX8_goes_L5 : Nat → Int32 → Int32 → Int32 → Int32 → Mem → Option (Int32 × Mem)
  | 0, _, _, _, _, _ => none
  | n + 1, v1, v2, v3, v4, M =>
    if (M 0 2) ≤ v4 then
      some (v3, M)
    else
      bnd1 (fX8_marginOf v1 v4 M) fun t6 =>
      if t6 < 0 then
        fX8_goes_L5 n v1 v2 v3 (v4 + (1 : Int32)) M
      else
        ix (M 0 22) 60 <| wr M 19 (M 0 22).toNatClampNeg v1 fun M10 =>
        ix (M10 0 22) 60 <| wr M10 20 (M10 0 22).toNatClampNeg v4 fun M14 =>
        ix (M14 0 22) 60 <| wr M14 21 (M14 0 22).toNatClampNeg v2 fun M18 =>
        ix (M18 0 22) 60 <| wr M18 22 (M18 0 22).toNatClampNeg t6 fun M22 =>
        ix v4 4 <|
        ix (M22 0 22) 60 <| wr M22 23 (M22 0 22).toNatClampNeg (((M22 0 4) + (1 : Int32)) + (M22 2 v4.toNatClampNeg)) fun M27 =>
        wr M27 0 22 ((M27 0 22) + (1 : Int32)) fun M30 =>
        wr M30 5 v4.toNatClampNeg ((M30 5 v4.toNatClampNeg) + (1 : Int32)) fun M33 =>
        fX8_goes_L5 n v1 v2 (v3 + (1 : Int32)) (v4 + (1 : Int32)) M33
def fX8_goes (v1 : Int32) (v2 : Int32) (M : Mem) : Option (Int32 × Mem) :=
  bnd2 (fX8_goes_L5 FUEL v1 v2 (0 : Int32) (0 : Int32) M) fun w40 M41 =>
  some (w40, M41)
set_option maxHeartbeats 4000000 in
set_option maxRecDepth 100000 in
theorem wX8_goes_L5 {p : Program} {l : Launch} {e : Env} {s : State} {m : MethodId} {args : Array Value} {below : List Frame} {meth : Method} {c : Code} {D : va_G} {cA : Nat → ClassId} {ad : Nat → Nat} {Q : State → Prop} (F : Fx D cA RX8 cX8_goes 6 (some .int) p s m args meth c) : ∀ (n : Nat) (v1 : Int32) (v2 : Int32) (v3 : Int32) (v4 : Int32) (M : Mem) (H : Heap) (o : List Loc) (ls : Array Slot), lv_has ls 6 [(0, .ref (ad 0)), (1, .int v1), (2, .int v2), (3, .int v3), (4, .int v4)] → Wd shM D cA ad s.heap M H o → ∀ (u3 : Int32) (M' : Mem), fX8_goes_L5 n v1 v2 v3 v4 M = some (u3, M') → (∀ (H1 : Heap) (o1 : List Loc) (ls1 : Array Slot), lv_has ls1 6 [(3, .int u3)] → Wd shM D cA ad s.heap M' H1 o1 → W p l e (rz 1 22) s m args below meth c H1 o1 0 0 Q (F0 m 123 ls1 [])) → W p l e (rz 1 22) s m args below meth c H o 0 0 Q (F0 m 5 ls []) := by
  intro n
  induction n with
  | zero =>
    intro v1 v2 v3 v4 M H o ls hl hw u3 M' hf kk
    cases hf
  | succ n ih =>
    intro v1 v2 v3 v4 M H o ls hl hw u3 M' hf kk
    rw [fX8_goes_L5] at hf
    refine lv_iload F.1 F.2.1 dX8_goes_5 (lv_at hl 4 rfl) ?_
    refine lv_aload_n F.1 F.2.1 dX8_goes_7 rfl (lv_at hl 0 rfl) ?_
    refine gX8_17 F hw rfl dX8_goes_8 ?_
    refine b_icmp_ge F dX8_goes_11 (tgt := 123) (by decide) hf (fun hc39 hf => ?_) (fun hc39 hf => ?_)
    · cases hf
      exact kk _ _ _ (lv_sub hl [3] rfl) hw
    · refine lv_aload_n F.1 F.2.1 dX8_goes_14 rfl (lv_at hl 0 rfl) ?_
      refine lv_iload_n F.1 F.2.1 dX8_goes_15 rfl (lv_at hl 1 rfl) ?_
      refine lv_iload F.1 F.2.1 dX8_goes_16 (lv_at hl 4 rfl) ?_
      refine clX8_160 F hw hl ⟨Nat.le_of_ble_eq_true rfl, Nat.le_of_ble_eq_true rfl⟩ (Nat.le_of_ble_eq_true rfl) dX8_goes_18 hf (fun t6 H3 o4 hw hn5 hf => ?_)
      refine lv_istore F.1 F.2.1 dX8_goes_21 hl (lv' := [(5, .int t6), (0, .ref (ad 0)), (1, .int v1), (2, .int v2), (3, .int v3), (4, .int v4)]) (Nat.le_of_ble_eq_true rfl) rfl (fun ls7 hl => ?_)
      refine lv_iload F.1 F.2.1 dX8_goes_23 (lv_at hl 0 rfl) ?_
      refine b_if_lt F dX8_goes_25 (tgt := 117) (by decide) hf (fun hc38 hf => ?_) (fun hc38 hf => ?_)
      · refine lv_iinc F.1 F.2.1 dX8_goes_117 hl (k := 5) rfl (ki_1 _) (lv' := [(4, .int (v4 + (1 : Int32))), (5, .int t6), (0, .ref (ad 0)), (1, .int v1), (2, .int v2), (3, .int v3)]) (Nat.le_of_ble_eq_true rfl) rfl (fun ls8 hl => ?_)
        refine lv_goto F.1 F.2.1 dX8_goes_120 (tgt := 5) (by decide) ?_
        exact ih v1 v2 v3 (v4 + (1 : Int32)) M _ _ _ (lv_sub hl [2, 3, 4, 5, 0] rfl) hw u3 M' hf kk
      · refine lv_aload_n F.1 F.2.1 dX8_goes_28 rfl (lv_at hl 1 rfl) ?_
        refine gX8_74 F hw rfl dX8_goes_29 ?_
        refine lv_aload_n F.1 F.2.1 dX8_goes_32 rfl (lv_at hl 1 rfl) ?_
        refine gX8_117 F hw rfl dX8_goes_33 ?_
        refine lv_iload_n F.1 F.2.1 dX8_goes_36 rfl (lv_at hl 2 rfl) ?_
        refine r_iast F hw (n := 60) rfl dX8_goes_37 hf (fun hi9 M10 H11 o12 hw hf => ?_)
        refine lv_aload_n F.1 F.2.1 dX8_goes_38 rfl (lv_at hl 1 rfl) ?_
        refine gX8_77 F hw rfl dX8_goes_39 ?_
        refine lv_aload_n F.1 F.2.1 dX8_goes_42 rfl (lv_at hl 1 rfl) ?_
        refine gX8_117 F hw rfl dX8_goes_43 ?_
        refine lv_iload F.1 F.2.1 dX8_goes_46 (lv_at hl 5 rfl) ?_
        refine r_iast F hw (n := 60) rfl dX8_goes_48 hf (fun hi13 M14 H15 o16 hw hf => ?_)
        refine lv_aload_n F.1 F.2.1 dX8_goes_49 rfl (lv_at hl 1 rfl) ?_
        refine gX8_80 F hw rfl dX8_goes_50 ?_
        refine lv_aload_n F.1 F.2.1 dX8_goes_53 rfl (lv_at hl 1 rfl) ?_
        refine gX8_117 F hw rfl dX8_goes_54 ?_
        refine lv_iload_n F.1 F.2.1 dX8_goes_57 rfl (lv_at hl 3 rfl) ?_
        refine r_iast F hw (n := 60) rfl dX8_goes_58 hf (fun hi17 M18 H19 o20 hw hf => ?_)
        refine lv_aload_n F.1 F.2.1 dX8_goes_59 rfl (lv_at hl 1 rfl) ?_
        refine gX8_83 F hw rfl dX8_goes_60 ?_
        refine lv_aload_n F.1 F.2.1 dX8_goes_63 rfl (lv_at hl 1 rfl) ?_
        refine gX8_117 F hw rfl dX8_goes_64 ?_
        refine lv_iload F.1 F.2.1 dX8_goes_67 (lv_at hl 0 rfl) ?_
        refine r_iast F hw (n := 60) rfl dX8_goes_69 hf (fun hi21 M22 H23 o24 hw hf => ?_)
        refine lv_aload_n F.1 F.2.1 dX8_goes_70 rfl (lv_at hl 1 rfl) ?_
        refine gX8_86 F hw rfl dX8_goes_71 ?_
        refine lv_aload_n F.1 F.2.1 dX8_goes_74 rfl (lv_at hl 1 rfl) ?_
        refine gX8_117 F hw rfl dX8_goes_75 ?_
        refine lv_aload_n F.1 F.2.1 dX8_goes_78 rfl (lv_at hl 1 rfl) ?_
        refine gX8_114 F hw rfl dX8_goes_79 ?_
        refine k_iconst_1 F dX8_goes_82 ?_
        refine lv_iadd F.1 F.2.1 dX8_goes_83 ?_
        refine lv_aload_n F.1 F.2.1 dX8_goes_84 rfl (lv_at hl 1 rfl) ?_
        refine gX8_23 F hw rfl dX8_goes_85 ?_
        refine lv_iload F.1 F.2.1 dX8_goes_88 (lv_at hl 5 rfl) ?_
        refine r_iald F hw (n := 4) rfl dX8_goes_90 hf (fun hi25 hf => ?_)
        refine lv_iadd F.1 F.2.1 dX8_goes_91 ?_
        refine r_iast F hw (n := 60) rfl dX8_goes_92 hf (fun hi26 M27 H28 o29 hw hf => ?_)
        refine lv_aload_n F.1 F.2.1 dX8_goes_93 rfl (lv_at hl 1 rfl) ?_
        refine lv_dup F.1 F.2.1 dX8_goes_94 rfl ?_
        refine gX8_117 F hw rfl dX8_goes_95 ?_
        refine k_iconst_1 F dX8_goes_98 ?_
        refine lv_iadd F.1 F.2.1 dX8_goes_99 ?_
        refine qX8_117 F hw rfl dX8_goes_100 hf (fun M30 H31 o32 hw hf => ?_)
        refine lv_aload_n F.1 F.2.1 dX8_goes_103 rfl (lv_at hl 1 rfl) ?_
        refine gX8_32 F hw rfl dX8_goes_104 ?_
        refine lv_iload F.1 F.2.1 dX8_goes_107 (lv_at hl 5 rfl) ?_
        refine lv_dup2_11 F.1 F.2.1 dX8_goes_109 rfl rfl ?_
        refine r_iald0 F hw (n := 4) rfl dX8_goes_110 hi25 ?_
        refine k_iconst_1 F dX8_goes_111 ?_
        refine lv_iadd F.1 F.2.1 dX8_goes_112 ?_
        refine r_iast0 F hw (n := 4) rfl dX8_goes_113 hi25 hf (fun M33 H34 o35 hw hf => ?_)
        refine lv_iinc F.1 F.2.1 dX8_goes_114 hl (k := 4) rfl (ki_1 _) (lv' := [(3, .int (v3 + (1 : Int32))), (5, .int t6), (0, .ref (ad 0)), (1, .int v1), (2, .int v2), (4, .int v4)]) (Nat.le_of_ble_eq_true rfl) rfl (fun ls36 hl => ?_)
        refine lv_iinc F.1 F.2.1 dX8_goes_117 hl (k := 5) rfl (ki_1 _) (lv' := [(4, .int (v4 + (1 : Int32))), (3, .int (v3 + (1 : Int32))), (5, .int t6), (0, .ref (ad 0)), (1, .int v1), (2, .int v2)]) (Nat.le_of_ble_eq_true rfl) rfl (fun ls37 hl => ?_)
        refine lv_goto F.1 F.2.1 dX8_goes_120 (tgt := 5) (by decide) ?_
        exact ih v1 v2 (v3 + (1 : Int32)) (v4 + (1 : Int32)) M33 _ _ _ (lv_sub hl [3, 4, 5, 1, 0] rfl) hw u3 M' hf kk
set_option maxHeartbeats 4000000 in
set_option maxRecDepth 100000 in
theorem cX8_goes_ok (l : Launch) (D : va_G) (cA : Nat → ClassId) (ad : Nat → Nat) (M : Mem) (v1 : Int32) (v2 : Int32) (r : Int32) (M' : Mem) (hf : fX8_goes v1 v2 M = some (r, M')) : Ctg l yX8_goes cX8_goes 6 (some .int) 1 22 shM D cA ad [.ref (ad 0), .int v1, .int v2] M (Qzi shM D cA ad .int r M') := by
  refine ct_in (by decide) (Nat.le_of_ble_eq_true rfl) ?_
  intro p e s m below meth c ls F hl hw
  have hl : lv_has ls 6 [(0, .ref (ad 0)), (1, .int v1), (2, .int v2)] := hl
  unfold fX8_goes at hf
  refine k_iconst_0 F dX8_goes_0 ?_
  refine lv_istore_n F.1 F.2.1 dX8_goes_1 rfl hl (lv' := [(3, .int (0 : Int32)), (0, .ref (ad 0)), (1, .int v1), (2, .int v2)]) (Nat.le_of_ble_eq_true rfl) rfl (fun ls1 hl => ?_)
  refine k_iconst_0 F dX8_goes_2 ?_
  refine lv_istore F.1 F.2.1 dX8_goes_3 hl (lv' := [(4, .int (0 : Int32)), (3, .int (0 : Int32)), (0, .ref (ad 0)), (1, .int v1), (2, .int v2)]) (Nat.le_of_ble_eq_true rfl) rfl (fun ls2 hl => ?_)
  obtain ⟨w40, M41, hq45, hf⟩ := bnd2_some hf
  refine wX8_goes_L5 F FUEL v1 v2 (0 : Int32) (0 : Int32) M _ _ _ (lv_sub hl [2, 3, 4, 1, 0] rfl) hw w40 M41 hq45 (fun H42 o43 ls44 hl hw => ?_)
  refine lv_iload_n F.1 F.2.1 dX8_goes_123 rfl (lv_at hl 0 rfl) ?_
  exact r_iret_w F hw (vp_nar_int _) dX8_goes_124 hf
theorem clX8_164 (F : Fx D cA RX8 cc nL ret p s m args meth c) (hw : Wd shM D cA ad H0 M H locs) (hl : lv_has ls nL lv) {v1 : Int32} {v2 : Int32} (hR : 2 ≤ R.frames ∧ 47 ≤ R.locals) (hrm : (rest.map fun v => v.category).sum ≤ 8) (hd : decode cc pc = .ok (.invokevirtual 164, 3)) {α : Type} {K : Int32 → Mem → Option α} {res : α} (hf : bnd2 (fX8_goes v1 v2 M) K = some res) (kk : ∀ (t : Int32) (M1 : Mem) (H1 : Heap) (locs1 : List Loc), Wd shM D cA ad H0 M1 H1 locs1 → narrow .int (.int t) = .int t → K t M1 = some res → W p l e R s m args below meth c H1 locs1 0 0 Q (F0 m (pc + 3) ls (.int t :: rest))) : W p l e R s m args below meth c H locs 0 0 Q (F0 m pc ls (.int v2 :: .int v1 :: .ref (ad 0) :: rest)) := by
  obtain ⟨t, M1, h1, h2⟩ := bnd2_some hf
  exact r_afti hw (r_runV (As := [.int v1, .int v2]) F hw hl (cX8_goes_ok l D cA ad M v1 v2 t M1 h1) cz8 (show shM[0]? = some (.inr (8, sf8)) from rfl) cwX8_164 hR hrm hd) (fun H1 o1 hw1 hn => kk t M1 H1 o1 hw1 hn h2)
def fX8_sendsNow (v1 : Int32) (M : Mem) : Option (Int32 × Mem) :=
  ix v1 6 <|
  jn (fun (t2 : Int32) =>
    wr M 13 v1.toNatClampNeg t2 fun M8 =>
    if (M8 12 v1.toNatClampNeg) = (1 : Int32) then
      wr M8 11 v1.toNatClampNeg (jirem ((M8 11 v1.toNatClampNeg) + (1 : Int32)) (64 : Int32)) fun M19 =>
      bnd2 (fX8_goes v1 t2 M19) fun t26 M25 =>
      some (t26, M25)
    else
      wr M8 11 v1.toNatClampNeg (M8 11 v1.toNatClampNeg) fun M11 =>
      bnd2 (fX8_goes v1 t2 M11) fun t18 M17 =>
      some (t18, M17)) fun j6 =>
  if (M 12 v1.toNatClampNeg) = (1 : Int32) then
    j6 (M 11 v1.toNatClampNeg)
  else
    j6 (-1 : Int32)
set_option maxHeartbeats 4000000 in
set_option maxRecDepth 100000 in
theorem cX8_sendsNow_ok (l : Launch) (D : va_G) (cA : Nat → ClassId) (ad : Nat → Nat) (M : Mem) (v1 : Int32) (r : Int32) (M' : Mem) (hf : fX8_sendsNow v1 M = some (r, M')) : Ctg l yX8_sendsNow cX8_sendsNow 3 (some .int) 2 47 shM D cA ad [.ref (ad 0), .int v1] M (Qzi shM D cA ad .int r M') := by
  refine ct_in (by decide) (Nat.le_of_ble_eq_true rfl) ?_
  intro p e s m below meth c ls F hl hw
  have hl : lv_has ls 3 [(0, .ref (ad 0)), (1, .int v1)] := hl
  unfold fX8_sendsNow at hf
  refine lv_aload_n F.1 F.2.1 dX8_sendsNow_0 rfl (lv_at hl 0 rfl) ?_
  refine gX8_53 F hw rfl dX8_sendsNow_1 ?_
  refine lv_iload_n F.1 F.2.1 dX8_sendsNow_4 rfl (lv_at hl 1 rfl) ?_
  refine r_iald F hw (n := 6) rfl dX8_sendsNow_5 hf (fun hi1 hf => ?_)
  refine k_iconst_1 F dX8_sendsNow_6 ?_
  refine jn_go1 (fun (t2 : Int32) => ∀ (H3 : Heap) (o4 : List Loc) (ls5 : Array Slot), lv_has ls5 3 [(0, .ref (ad 0)), (1, .int v1)] → Wd shM D cA ad s.heap M H3 o4 → W p l e (rz 2 47) s m ([.ref (ad 0), .int v1] : List Value).toArray below meth c H3 o4 0 0 (MQ below (Qzi shM D cA ad .int r M') ([.ref (ad 0), .int v1] : List Value).toArray s 0 0 (Az shM ad)) (F0 m 20 ls5 [.int t2])) hf (fun t2 hf H3 o4 ls5 hl hw => ?_) (fun j6 Jj6 hf => ?_)
  · refine lv_istore_n F.1 F.2.1 dX8_sendsNow_20 rfl hl (lv' := [(2, .int t2), (0, .ref (ad 0)), (1, .int v1)]) (Nat.le_of_ble_eq_true rfl) rfl (fun ls7 hl => ?_)
    refine lv_aload_n F.1 F.2.1 dX8_sendsNow_21 rfl (lv_at hl 1 rfl) ?_
    refine gX8_56 F hw rfl dX8_sendsNow_22 ?_
    refine lv_iload_n F.1 F.2.1 dX8_sendsNow_25 rfl (lv_at hl 2 rfl) ?_
    refine lv_iload_n F.1 F.2.1 dX8_sendsNow_26 rfl (lv_at hl 0 rfl) ?_
    refine r_iast0 F hw (n := 6) rfl dX8_sendsNow_27 hi1 hf (fun M8 H9 o10 hw hf => ?_)
    refine lv_aload_n F.1 F.2.1 dX8_sendsNow_28 rfl (lv_at hl 1 rfl) ?_
    refine gX8_50 F hw rfl dX8_sendsNow_29 ?_
    refine lv_iload_n F.1 F.2.1 dX8_sendsNow_32 rfl (lv_at hl 2 rfl) ?_
    refine lv_aload_n F.1 F.2.1 dX8_sendsNow_33 rfl (lv_at hl 1 rfl) ?_
    refine gX8_53 F hw rfl dX8_sendsNow_34 ?_
    refine lv_iload_n F.1 F.2.1 dX8_sendsNow_37 rfl (lv_at hl 2 rfl) ?_
    refine r_iald0 F hw (n := 6) rfl dX8_sendsNow_38 hi1 ?_
    refine k_iconst_1 F dX8_sendsNow_39 ?_
    refine b_icmp_ne F dX8_sendsNow_40 (tgt := 57) (by decide) hf (fun hc27 hf => ?_) (fun hc27 hf => ?_)
    · refine lv_aload_n F.1 F.2.1 dX8_sendsNow_43 rfl (lv_at hl 1 rfl) ?_
      refine gX8_50 F hw rfl dX8_sendsNow_44 ?_
      refine lv_iload_n F.1 F.2.1 dX8_sendsNow_47 rfl (lv_at hl 2 rfl) ?_
      refine r_iald0 F hw (n := 6) rfl dX8_sendsNow_48 hi1 ?_
      refine k_iconst_1 F dX8_sendsNow_49 ?_
      refine lv_iadd F.1 F.2.1 dX8_sendsNow_50 ?_
      refine k_bipush_64 F dX8_sendsNow_51 ?_
      refine k_irem F dX8_sendsNow_53 (by decide) ?_
      refine lv_goto F.1 F.2.1 dX8_sendsNow_54 (tgt := 63) (by decide) ?_
      refine r_iast0 F hw (n := 6) rfl dX8_sendsNow_63 hi1 hf (fun M19 H20 o21 hw hf => ?_)
      refine lv_aload_n F.1 F.2.1 dX8_sendsNow_64 rfl (lv_at hl 1 rfl) ?_
      refine lv_iload_n F.1 F.2.1 dX8_sendsNow_65 rfl (lv_at hl 2 rfl) ?_
      refine lv_iload_n F.1 F.2.1 dX8_sendsNow_66 rfl (lv_at hl 0 rfl) ?_
      refine clX8_164 F hw hl ⟨Nat.le_of_ble_eq_true rfl, Nat.le_of_ble_eq_true rfl⟩ (Nat.le_of_ble_eq_true rfl) dX8_sendsNow_67 hf (fun t26 M25 H22 o23 hw hn24 hf => ?_)
      exact r_iret_w F hw (vp_nar_int _) dX8_sendsNow_70 hf
    · refine lv_aload_n F.1 F.2.1 dX8_sendsNow_57 rfl (lv_at hl 1 rfl) ?_
      refine gX8_50 F hw rfl dX8_sendsNow_58 ?_
      refine lv_iload_n F.1 F.2.1 dX8_sendsNow_61 rfl (lv_at hl 2 rfl) ?_
      refine r_iald0 F hw (n := 6) rfl dX8_sendsNow_62 hi1 ?_
      refine r_iast0 F hw (n := 6) rfl dX8_sendsNow_63 hi1 hf (fun M11 H12 o13 hw hf => ?_)
      refine lv_aload_n F.1 F.2.1 dX8_sendsNow_64 rfl (lv_at hl 1 rfl) ?_
      refine lv_iload_n F.1 F.2.1 dX8_sendsNow_65 rfl (lv_at hl 2 rfl) ?_
      refine lv_iload_n F.1 F.2.1 dX8_sendsNow_66 rfl (lv_at hl 0 rfl) ?_
      refine clX8_164 F hw hl ⟨Nat.le_of_ble_eq_true rfl, Nat.le_of_ble_eq_true rfl⟩ (Nat.le_of_ble_eq_true rfl) dX8_sendsNow_67 hf (fun t18 M17 H14 o15 hw hn16 hf => ?_)
      exact r_iret_w F hw (vp_nar_int _) dX8_sendsNow_70 hf
  · refine b_icmp_ne F dX8_sendsNow_7 (tgt := 19) (by decide) hf (fun hc28 hf => ?_) (fun hc28 hf => ?_)
    · refine lv_aload_n F.1 F.2.1 dX8_sendsNow_10 rfl (lv_at hl 0 rfl) ?_
      refine gX8_50 F hw rfl dX8_sendsNow_11 ?_
      refine lv_iload_n F.1 F.2.1 dX8_sendsNow_14 rfl (lv_at hl 1 rfl) ?_
      refine r_iald0 F hw (n := 6) rfl dX8_sendsNow_15 hi1 ?_
      refine lv_goto F.1 F.2.1 dX8_sendsNow_16 (tgt := 20) (by decide) ?_
      exact Jj6 (M 11 v1.toNatClampNeg) hf _ _ _ hl hw
    · refine k_iconst_m1 F dX8_sendsNow_19 ?_
      exact Jj6 (-1 : Int32) hf _ _ _ hl hw
theorem clX8_171 (F : Fx D cA RX8 cc nL ret p s m args meth c) (hw : Wd shM D cA ad H0 M H locs) (hl : lv_has ls nL lv) {v1 : Int32} (hR : 3 ≤ R.frames ∧ 69 ≤ R.locals) (hrm : (rest.map fun v => v.category).sum ≤ 8) (hd : decode cc pc = .ok (.invokevirtual 171, 3)) {α : Type} {K : Int32 → Mem → Option α} {res : α} (hf : bnd2 (fX8_sendsNow v1 M) K = some res) (kk : ∀ (t : Int32) (M1 : Mem) (H1 : Heap) (locs1 : List Loc), Wd shM D cA ad H0 M1 H1 locs1 → narrow .int (.int t) = .int t → K t M1 = some res → W p l e R s m args below meth c H1 locs1 0 0 Q (F0 m (pc + 3) ls (.int t :: rest))) : W p l e R s m args below meth c H locs 0 0 Q (F0 m pc ls (.int v1 :: .ref (ad 0) :: rest)) := by
  obtain ⟨t, M1, h1, h2⟩ := bnd2_some hf
  exact r_afti hw (r_runV (As := [.int v1]) F hw hl (cX8_sendsNow_ok l D cA ad M v1 t M1 h1) cz8 (show shM[0]? = some (.inr (8, sf8)) from rfl) cwX8_171 hR hrm hd) (fun H1 o1 hw1 hn => kk t M1 H1 o1 hw1 hn h2)
def fX8_sends (v1 : Int32) (M : Mem) : Option (Int32 × Mem) :=
  if (fX8_isSender v1 M) = 0 then
    bnd2 (fX8_bad M) fun t22 M21 =>
    some (t22, M21)
  else
    if (fX8_isRoom M) = 0 then
      bnd2 (fX8_full M) fun t11 M10 =>
      some (t11, M10)
    else
      bnd2 (fX8_sendsNow v1 M) fun t16 M15 =>
      some (t16, M15)
set_option maxHeartbeats 4000000 in
set_option maxRecDepth 100000 in
theorem cX8_sends_ok (l : Launch) (D : va_G) (cA : Nat → ClassId) (ad : Nat → Nat) (M : Mem) (v1 : Int32) (r : Int32) (M' : Mem) (hf : fX8_sends v1 M = some (r, M')) : Ctg l yX8_sends cX8_sends 2 (some .int) 3 69 shM D cA ad [.ref (ad 0), .int v1] M (Qzi shM D cA ad .int r M') := by
  refine ct_in (by decide) (Nat.le_of_ble_eq_true rfl) ?_
  intro p e s m below meth c ls F hl hw
  have hl : lv_has ls 2 [(0, .ref (ad 0)), (1, .int v1)] := hl
  unfold fX8_sends at hf
  refine lv_aload_n F.1 F.2.1 dX8_sends_0 rfl (lv_at hl 0 rfl) ?_
  refine lv_iload_n F.1 F.2.1 dX8_sends_1 rfl (lv_at hl 1 rfl) ?_
  refine clX8_142 F hw hl ⟨Nat.le_of_ble_eq_true rfl, Nat.le_of_ble_eq_true rfl⟩ (Nat.le_of_ble_eq_true rfl) dX8_sends_2 (fun H1 o2 hw hn3 => ?_)
  refine b_if_ne F dX8_sends_5 (tgt := 13) (by decide) hf (fun hc23 hf => ?_) (fun hc23 hf => ?_)
  · refine lv_aload_n F.1 F.2.1 dX8_sends_8 rfl (lv_at hl 0 rfl) ?_
    refine clX8_127 F hw hl ⟨Nat.le_of_ble_eq_true rfl, Nat.le_of_ble_eq_true rfl⟩ (Nat.le_of_ble_eq_true rfl) dX8_sends_9 hf (fun t22 M21 H18 o19 hw hn20 hf => ?_)
    exact r_iret_w F hw (vp_nar_int _) dX8_sends_12 hf
  · refine lv_aload_n F.1 F.2.1 dX8_sends_13 rfl (lv_at hl 0 rfl) ?_
    refine clX8_167 F hw hl ⟨Nat.le_of_ble_eq_true rfl, Nat.le_of_ble_eq_true rfl⟩ (Nat.le_of_ble_eq_true rfl) dX8_sends_14 (fun H4 o5 hw hn6 => ?_)
    refine b_if_eq F dX8_sends_17 (tgt := 28) (by decide) hf (fun hc17 hf => ?_) (fun hc17 hf => ?_)
    · refine lv_aload_n F.1 F.2.1 dX8_sends_28 rfl (lv_at hl 0 rfl) ?_
      refine clX8_174 F hw hl ⟨Nat.le_of_ble_eq_true rfl, Nat.le_of_ble_eq_true rfl⟩ (Nat.le_of_ble_eq_true rfl) dX8_sends_29 hf (fun t11 M10 H7 o8 hw hn9 hf => ?_)
      exact r_iret_w F hw (vp_nar_int _) dX8_sends_32 hf
    · refine lv_aload_n F.1 F.2.1 dX8_sends_20 rfl (lv_at hl 0 rfl) ?_
      refine lv_iload_n F.1 F.2.1 dX8_sends_21 rfl (lv_at hl 1 rfl) ?_
      refine clX8_171 F hw hl ⟨Nat.le_of_ble_eq_true rfl, Nat.le_of_ble_eq_true rfl⟩ (Nat.le_of_ble_eq_true rfl) dX8_sends_22 hf (fun t16 M15 H12 o13 hw hn14 hf => ?_)
      refine lv_goto F.1 F.2.1 dX8_sends_25 (tgt := 32) (by decide) ?_
      exact r_iret_w F hw (vp_nar_int _) dX8_sends_32 hf
def fX8_again (v1 : Int32) (M : Mem) : Option (Int32 × Mem) :=
  if (fX8_isSender v1 M) = 0 then
    bnd2 (fX8_bad M) fun t29 M28 =>
    some (t29, M28)
  else
    ix v1 6 <|
    if (M 13 v1.toNatClampNeg) = (-2 : Int32) then
      bnd2 (fX8_no M) fun t23 M22 =>
      some (t23, M22)
    else
      if (fX8_isRoom M) = 0 then
        bnd2 (fX8_full M) fun t12 M11 =>
        some (t12, M11)
      else
        bnd2 (fX8_goes v1 (M 13 v1.toNatClampNeg) M) fun t17 M16 =>
        some (t17, M16)
set_option maxHeartbeats 4000000 in
set_option maxRecDepth 100000 in
theorem cX8_again_ok (l : Launch) (D : va_G) (cA : Nat → ClassId) (ad : Nat → Nat) (M : Mem) (v1 : Int32) (r : Int32) (M' : Mem) (hf : fX8_again v1 M = some (r, M')) : Ctg l yX8_again cX8_again 2 (some .int) 2 47 shM D cA ad [.ref (ad 0), .int v1] M (Qzi shM D cA ad .int r M') := by
  refine ct_in (by decide) (Nat.le_of_ble_eq_true rfl) ?_
  intro p e s m below meth c ls F hl hw
  have hl : lv_has ls 2 [(0, .ref (ad 0)), (1, .int v1)] := hl
  unfold fX8_again at hf
  refine lv_aload_n F.1 F.2.1 dX8_again_0 rfl (lv_at hl 0 rfl) ?_
  refine lv_iload_n F.1 F.2.1 dX8_again_1 rfl (lv_at hl 1 rfl) ?_
  refine clX8_142 F hw hl ⟨Nat.le_of_ble_eq_true rfl, Nat.le_of_ble_eq_true rfl⟩ (Nat.le_of_ble_eq_true rfl) dX8_again_2 (fun H1 o2 hw hn3 => ?_)
  refine b_if_ne F dX8_again_5 (tgt := 13) (by decide) hf (fun hc30 hf => ?_) (fun hc30 hf => ?_)
  · refine lv_aload_n F.1 F.2.1 dX8_again_8 rfl (lv_at hl 0 rfl) ?_
    refine clX8_127 F hw hl ⟨Nat.le_of_ble_eq_true rfl, Nat.le_of_ble_eq_true rfl⟩ (Nat.le_of_ble_eq_true rfl) dX8_again_9 hf (fun t29 M28 H25 o26 hw hn27 hf => ?_)
    exact r_iret_w F hw (vp_nar_int _) dX8_again_12 hf
  · refine lv_aload_n F.1 F.2.1 dX8_again_13 rfl (lv_at hl 0 rfl) ?_
    refine gX8_56 F hw rfl dX8_again_14 ?_
    refine lv_iload_n F.1 F.2.1 dX8_again_17 rfl (lv_at hl 1 rfl) ?_
    refine r_iald F hw (n := 6) rfl dX8_again_18 hf (fun hi4 hf => ?_)
    refine k_bipush_m2 F dX8_again_19 ?_
    refine b_icmp_ne F dX8_again_21 (tgt := 29) (by decide) hf (fun hc24 hf => ?_) (fun hc24 hf => ?_)
    · refine lv_aload_n F.1 F.2.1 dX8_again_24 rfl (lv_at hl 0 rfl) ?_
      refine clX8_177 F hw hl ⟨Nat.le_of_ble_eq_true rfl, Nat.le_of_ble_eq_true rfl⟩ (Nat.le_of_ble_eq_true rfl) dX8_again_25 hf (fun t23 M22 H19 o20 hw hn21 hf => ?_)
      exact r_iret_w F hw (vp_nar_int _) dX8_again_28 hf
    · refine lv_aload_n F.1 F.2.1 dX8_again_29 rfl (lv_at hl 0 rfl) ?_
      refine clX8_167 F hw hl ⟨Nat.le_of_ble_eq_true rfl, Nat.le_of_ble_eq_true rfl⟩ (Nat.le_of_ble_eq_true rfl) dX8_again_30 (fun H5 o6 hw hn7 => ?_)
      refine b_if_eq F dX8_again_33 (tgt := 50) (by decide) hf (fun hc18 hf => ?_) (fun hc18 hf => ?_)
      · refine lv_aload_n F.1 F.2.1 dX8_again_50 rfl (lv_at hl 0 rfl) ?_
        refine clX8_174 F hw hl ⟨Nat.le_of_ble_eq_true rfl, Nat.le_of_ble_eq_true rfl⟩ (Nat.le_of_ble_eq_true rfl) dX8_again_51 hf (fun t12 M11 H8 o9 hw hn10 hf => ?_)
        exact r_iret_w F hw (vp_nar_int _) dX8_again_54 hf
      · refine lv_aload_n F.1 F.2.1 dX8_again_36 rfl (lv_at hl 0 rfl) ?_
        refine lv_iload_n F.1 F.2.1 dX8_again_37 rfl (lv_at hl 1 rfl) ?_
        refine lv_aload_n F.1 F.2.1 dX8_again_38 rfl (lv_at hl 0 rfl) ?_
        refine gX8_56 F hw rfl dX8_again_39 ?_
        refine lv_iload_n F.1 F.2.1 dX8_again_42 rfl (lv_at hl 1 rfl) ?_
        refine r_iald0 F hw (n := 6) rfl dX8_again_43 hi4 ?_
        refine clX8_164 F hw hl ⟨Nat.le_of_ble_eq_true rfl, Nat.le_of_ble_eq_true rfl⟩ (Nat.le_of_ble_eq_true rfl) dX8_again_44 hf (fun t17 M16 H13 o14 hw hn15 hf => ?_)
        refine lv_goto F.1 F.2.1 dX8_again_47 (tgt := 54) (by decide) ?_
        exact r_iret_w F hw (vp_nar_int _) dX8_again_54 hf
def fX8_renews (v1 : Int32) (M : Mem) : Option (Int32 × Mem) :=
  if (fX8_isSender v1 M) = 0 then
    bnd2 (fX8_bad M) fun t14 M13 =>
    some (t14, M13)
  else
    ix v1 6 <|
    bnd1 (fX8_comesNew v1 M) fun M9 =>
    some ((M 12 v1.toNatClampNeg), M9)
set_option maxHeartbeats 4000000 in
set_option maxRecDepth 100000 in
theorem cX8_renews_ok (l : Launch) (D : va_G) (cA : Nat → ClassId) (ad : Nat → Nat) (M : Mem) (v1 : Int32) (r : Int32) (M' : Mem) (hf : fX8_renews v1 M = some (r, M')) : Ctg l yX8_renews cX8_renews 3 (some .int) 2 43 shM D cA ad [.ref (ad 0), .int v1] M (Qzi shM D cA ad .int r M') := by
  refine ct_in (by decide) (Nat.le_of_ble_eq_true rfl) ?_
  intro p e s m below meth c ls F hl hw
  have hl : lv_has ls 3 [(0, .ref (ad 0)), (1, .int v1)] := hl
  unfold fX8_renews at hf
  refine lv_aload_n F.1 F.2.1 dX8_renews_0 rfl (lv_at hl 0 rfl) ?_
  refine lv_iload_n F.1 F.2.1 dX8_renews_1 rfl (lv_at hl 1 rfl) ?_
  refine clX8_142 F hw hl ⟨Nat.le_of_ble_eq_true rfl, Nat.le_of_ble_eq_true rfl⟩ (Nat.le_of_ble_eq_true rfl) dX8_renews_2 (fun H1 o2 hw hn3 => ?_)
  refine b_if_ne F dX8_renews_5 (tgt := 13) (by decide) hf (fun hc15 hf => ?_) (fun hc15 hf => ?_)
  · refine lv_aload_n F.1 F.2.1 dX8_renews_8 rfl (lv_at hl 0 rfl) ?_
    refine clX8_127 F hw hl ⟨Nat.le_of_ble_eq_true rfl, Nat.le_of_ble_eq_true rfl⟩ (Nat.le_of_ble_eq_true rfl) dX8_renews_9 hf (fun t14 M13 H10 o11 hw hn12 hf => ?_)
    exact r_iret_w F hw (vp_nar_int _) dX8_renews_12 hf
  · refine lv_aload_n F.1 F.2.1 dX8_renews_13 rfl (lv_at hl 0 rfl) ?_
    refine gX8_53 F hw rfl dX8_renews_14 ?_
    refine lv_iload_n F.1 F.2.1 dX8_renews_17 rfl (lv_at hl 1 rfl) ?_
    refine r_iald F hw (n := 6) rfl dX8_renews_18 hf (fun hi4 hf => ?_)
    refine lv_istore_n F.1 F.2.1 dX8_renews_19 rfl hl (lv' := [(2, .int (M 12 v1.toNatClampNeg)), (0, .ref (ad 0)), (1, .int v1)]) (Nat.le_of_ble_eq_true rfl) rfl (fun ls5 hl => ?_)
    refine lv_aload_n F.1 F.2.1 dX8_renews_20 rfl (lv_at hl 1 rfl) ?_
    refine lv_iload_n F.1 F.2.1 dX8_renews_21 rfl (lv_at hl 2 rfl) ?_
    refine clX8_123 F hw hl ⟨Nat.le_of_ble_eq_true rfl, Nat.le_of_ble_eq_true rfl⟩ (Nat.le_of_ble_eq_true rfl) dX8_renews_22 hf (fun M9 H6 o7 hw hf => ?_)
    refine lv_iload_n F.1 F.2.1 dX8_renews_25 rfl (lv_at hl 0 rfl) ?_
    exact r_iret_w F hw (vp_nar_int _) dX8_renews_26 hf
end RW
