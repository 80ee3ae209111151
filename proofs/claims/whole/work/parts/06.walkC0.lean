section RW
variable {p : Program} {l : Launch} {e : Env} {R : Room} {s : State} {m : MethodId} {args : Array Value} {below : List Frame} {meth : Method} {c : Code} {H : Heap} {locs : List Loc} {Q : State → Prop}
variable {sh : List Sh} {D : va_G} {cA : Nat → ClassId} {ad : Nat → Nat} {H0 : Heap} {M : Mem} {cc : ByteArray} {own : String} {nL : Nat} {ret : Option FieldType} {pc : Nat} {ls : Array Slot} {rest : List Value} {lv : List (Nat × Value)}
def fX0_add (v1 : Int32) (v2 : Int32) (v3 : Int32) (v4 : Int32) (v5 : Int32) (M : Mem) : Option Mem :=
  if (60 : Int32) ≤ (M 28 5) then
    some M
  else
    ix (M 28 5) 60 <| wr M 29 (M 28 5).toNatClampNeg v1 fun M2 =>
    ix (M2 28 5) 60 <| wr M2 30 (M2 28 5).toNatClampNeg v2 fun M6 =>
    ix (M6 28 5) 60 <| wr M6 31 (M6 28 5).toNatClampNeg v3 fun M10 =>
    ix (M10 28 5) 60 <| wr M10 32 (M10 28 5).toNatClampNeg v4 fun M14 =>
    ix (M14 28 5) 60 <| wr M14 33 (M14 28 5).toNatClampNeg v5 fun M18 =>
    wr M18 28 5 ((M18 28 5) + (1 : Int32)) fun M21 =>
    some M21
set_option maxHeartbeats 4000000 in
set_option maxRecDepth 100000 in
theorem cX0_add_ok (l : Launch) (D : va_G) (cA : Nat → ClassId) (ad : Nat → Nat) (M : Mem) (v1 : Int32) (v2 : Int32) (v3 : Int32) (v4 : Int32) (v5 : Int32) (M' : Mem) (hf : fX0_add v1 v2 v3 v4 v5 M = some M') : Ctg l yX0_add cX0_add 6 none 0 0 shC D cA ad [.ref (ad 28), .int v1, .int v2, .int v3, .int v4, .int v5] M (Qzv shC D cA ad M') := by
  refine ct_in (by decide) (Nat.le_of_ble_eq_true rfl) ?_
  intro p e s m below meth c ls F hl hw
  have hl : lv_has ls 6 [(0, .ref (ad 28)), (1, .int v1), (2, .int v2), (3, .int v3), (4, .int v4), (5, .int v5)] := hl
  unfold fX0_add at hf
  refine lv_aload_n F.1 F.2.1 dX0_add_0 rfl (lv_at hl 0 rfl) ?_
  refine gX0_27 F hw rfl dX0_add_1 ?_
  refine k_bipush_60 F dX0_add_4 ?_
  refine b_icmp_ge F dX0_add_6 (tgt := 71) (by decide) hf (fun hc24 hf => ?_) (fun hc24 hf => ?_)
  · exact r_vret_w F hw dX0_add_71 hf
  · refine lv_aload_n F.1 F.2.1 dX0_add_9 rfl (lv_at hl 0 rfl) ?_
    refine gX0_9 F hw rfl dX0_add_10 ?_
    refine lv_aload_n F.1 F.2.1 dX0_add_13 rfl (lv_at hl 0 rfl) ?_
    refine gX0_27 F hw rfl dX0_add_14 ?_
    refine lv_iload_n F.1 F.2.1 dX0_add_17 rfl (lv_at hl 1 rfl) ?_
    refine r_iast F hw (n := 60) rfl dX0_add_18 hf (fun hi1 M2 H3 o4 hw hf => ?_)
    refine lv_aload_n F.1 F.2.1 dX0_add_19 rfl (lv_at hl 0 rfl) ?_
    refine gX0_15 F hw rfl dX0_add_20 ?_
    refine lv_aload_n F.1 F.2.1 dX0_add_23 rfl (lv_at hl 0 rfl) ?_
    refine gX0_27 F hw rfl dX0_add_24 ?_
    refine lv_iload_n F.1 F.2.1 dX0_add_27 rfl (lv_at hl 2 rfl) ?_
    refine r_iast F hw (n := 60) rfl dX0_add_28 hf (fun hi5 M6 H7 o8 hw hf => ?_)
    refine lv_aload_n F.1 F.2.1 dX0_add_29 rfl (lv_at hl 0 rfl) ?_
    refine gX0_18 F hw rfl dX0_add_30 ?_
    refine lv_aload_n F.1 F.2.1 dX0_add_33 rfl (lv_at hl 0 rfl) ?_
    refine gX0_27 F hw rfl dX0_add_34 ?_
    refine lv_iload_n F.1 F.2.1 dX0_add_37 rfl (lv_at hl 3 rfl) ?_
    refine r_iast F hw (n := 60) rfl dX0_add_38 hf (fun hi9 M10 H11 o12 hw hf => ?_)
    refine lv_aload_n F.1 F.2.1 dX0_add_39 rfl (lv_at hl 0 rfl) ?_
    refine gX0_21 F hw rfl dX0_add_40 ?_
    refine lv_aload_n F.1 F.2.1 dX0_add_43 rfl (lv_at hl 0 rfl) ?_
    refine gX0_27 F hw rfl dX0_add_44 ?_
    refine lv_iload F.1 F.2.1 dX0_add_47 (lv_at hl 4 rfl) ?_
    refine r_iast F hw (n := 60) rfl dX0_add_49 hf (fun hi13 M14 H15 o16 hw hf => ?_)
    refine lv_aload_n F.1 F.2.1 dX0_add_50 rfl (lv_at hl 0 rfl) ?_
    refine gX0_24 F hw rfl dX0_add_51 ?_
    refine lv_aload_n F.1 F.2.1 dX0_add_54 rfl (lv_at hl 0 rfl) ?_
    refine gX0_27 F hw rfl dX0_add_55 ?_
    refine lv_iload F.1 F.2.1 dX0_add_58 (lv_at hl 5 rfl) ?_
    refine r_iast F hw (n := 60) rfl dX0_add_60 hf (fun hi17 M18 H19 o20 hw hf => ?_)
    refine lv_aload_n F.1 F.2.1 dX0_add_61 rfl (lv_at hl 0 rfl) ?_
    refine lv_dup F.1 F.2.1 dX0_add_62 rfl ?_
    refine gX0_27 F hw rfl dX0_add_63 ?_
    refine k_iconst_1 F dX0_add_66 ?_
    refine lv_iadd F.1 F.2.1 dX0_add_67 ?_
    refine qX0_27 F hw rfl dX0_add_68 hf (fun M21 H22 o23 hw hf => ?_)
    exact r_vret_w F hw dX0_add_71 hf
theorem clX2_132 (F : Fx D cA RX2 cc nL ret p s m args meth c) (hw : Wd shC D cA ad H0 M H locs) (hl : lv_has ls nL lv) {v1 : Int32} {v2 : Int32} {v3 : Int32} {v4 : Int32} {v5 : Int32} (hR : 1 ≤ R.frames ∧ 25 ≤ R.locals) (hrm : (rest.map fun v => v.category).sum ≤ 8) (hd : decode cc pc = .ok (.invokevirtual 132, 3)) {α : Type} {K : Mem → Option α} {res : α} (hf : bnd1 (fX0_add v1 v2 v3 v4 v5 M) K = some res) (kk : ∀ (M1 : Mem) (H1 : Heap) (locs1 : List Loc), Wd shC D cA ad H0 M1 H1 locs1 → K M1 = some res → W p l e R s m args below meth c H1 locs1 0 0 Q (F0 m (pc + 3) ls rest)) : W p l e R s m args below meth c H locs 0 0 Q (F0 m pc ls (.int v5 :: .int v4 :: .int v3 :: .int v2 :: .int v1 :: .ref (ad 28) :: rest)) := by
  obtain ⟨M1, h1, h2⟩ := bnd1_some hf
  exact r_aftv hw (r_runV (As := [.int v1, .int v2, .int v3, .int v4, .int v5]) F hw hl (cX0_add_ok l D cA ad M v1 v2 v3 v4 v5 M1 h1) cz0 (show shC[28]? = some (.inr (0, sf0)) from rfl) cwX2_132 hR hrm hd) (fun H1 o1 hw1 => kk M1 H1 o1 hw1 h2)
def fX0_move (v1 : Int32) (v2 : Int32) (M : Mem) : Option Mem :=
  ix v1 60 <|
  ix v2 60 <| wr M 29 v2.toNatClampNeg (M 29 v1.toNatClampNeg) fun M3 =>
  wr M3 30 v2.toNatClampNeg (M3 30 v1.toNatClampNeg) fun M6 =>
  wr M6 31 v2.toNatClampNeg (M6 31 v1.toNatClampNeg) fun M9 =>
  wr M9 32 v2.toNatClampNeg (M9 32 v1.toNatClampNeg) fun M12 =>
  wr M12 33 v2.toNatClampNeg (M12 33 v1.toNatClampNeg) fun M15 =>
  some M15
set_option maxHeartbeats 4000000 in
set_option maxRecDepth 100000 in
theorem cX0_move_ok (l : Launch) (D : va_G) (cA : Nat → ClassId) (ad : Nat → Nat) (M : Mem) (v1 : Int32) (v2 : Int32) (M' : Mem) (hf : fX0_move v1 v2 M = some M') : Ctg l yX0_move cX0_move 3 none 0 0 shC D cA ad [.ref (ad 28), .int v1, .int v2] M (Qzv shC D cA ad M') := by
  refine ct_in (by decide) (Nat.le_of_ble_eq_true rfl) ?_
  intro p e s m below meth c ls F hl hw
  have hl : lv_has ls 3 [(0, .ref (ad 28)), (1, .int v1), (2, .int v2)] := hl
  unfold fX0_move at hf
  refine lv_aload_n F.1 F.2.1 dX0_move_0 rfl (lv_at hl 0 rfl) ?_
  refine gX0_9 F hw rfl dX0_move_1 ?_
  refine lv_iload_n F.1 F.2.1 dX0_move_4 rfl (lv_at hl 2 rfl) ?_
  refine lv_aload_n F.1 F.2.1 dX0_move_5 rfl (lv_at hl 0 rfl) ?_
  refine gX0_9 F hw rfl dX0_move_6 ?_
  refine lv_iload_n F.1 F.2.1 dX0_move_9 rfl (lv_at hl 1 rfl) ?_
  refine r_iald F hw (n := 60) rfl dX0_move_10 hf (fun hi1 hf => ?_)
  refine r_iast F hw (n := 60) rfl dX0_move_11 hf (fun hi2 M3 H4 o5 hw hf => ?_)
  refine lv_aload_n F.1 F.2.1 dX0_move_12 rfl (lv_at hl 0 rfl) ?_
  refine gX0_15 F hw rfl dX0_move_13 ?_
  refine lv_iload_n F.1 F.2.1 dX0_move_16 rfl (lv_at hl 2 rfl) ?_
  refine lv_aload_n F.1 F.2.1 dX0_move_17 rfl (lv_at hl 0 rfl) ?_
  refine gX0_15 F hw rfl dX0_move_18 ?_
  refine lv_iload_n F.1 F.2.1 dX0_move_21 rfl (lv_at hl 1 rfl) ?_
  refine r_iald0 F hw (n := 60) rfl dX0_move_22 hi1 ?_
  refine r_iast0 F hw (n := 60) rfl dX0_move_23 hi2 hf (fun M6 H7 o8 hw hf => ?_)
  refine lv_aload_n F.1 F.2.1 dX0_move_24 rfl (lv_at hl 0 rfl) ?_
  refine gX0_18 F hw rfl dX0_move_25 ?_
  refine lv_iload_n F.1 F.2.1 dX0_move_28 rfl (lv_at hl 2 rfl) ?_
  refine lv_aload_n F.1 F.2.1 dX0_move_29 rfl (lv_at hl 0 rfl) ?_
  refine gX0_18 F hw rfl dX0_move_30 ?_
  refine lv_iload_n F.1 F.2.1 dX0_move_33 rfl (lv_at hl 1 rfl) ?_
  refine r_iald0 F hw (n := 60) rfl dX0_move_34 hi1 ?_
  refine r_iast0 F hw (n := 60) rfl dX0_move_35 hi2 hf (fun M9 H10 o11 hw hf => ?_)
  refine lv_aload_n F.1 F.2.1 dX0_move_36 rfl (lv_at hl 0 rfl) ?_
  refine gX0_21 F hw rfl dX0_move_37 ?_
  refine lv_iload_n F.1 F.2.1 dX0_move_40 rfl (lv_at hl 2 rfl) ?_
  refine lv_aload_n F.1 F.2.1 dX0_move_41 rfl (lv_at hl 0 rfl) ?_
  refine gX0_21 F hw rfl dX0_move_42 ?_
  refine lv_iload_n F.1 F.2.1 dX0_move_45 rfl (lv_at hl 1 rfl) ?_
  refine r_iald0 F hw (n := 60) rfl dX0_move_46 hi1 ?_
  refine r_iast0 F hw (n := 60) rfl dX0_move_47 hi2 hf (fun M12 H13 o14 hw hf => ?_)
  refine lv_aload_n F.1 F.2.1 dX0_move_48 rfl (lv_at hl 0 rfl) ?_
  refine gX0_24 F hw rfl dX0_move_49 ?_
  refine lv_iload_n F.1 F.2.1 dX0_move_52 rfl (lv_at hl 2 rfl) ?_
  refine lv_aload_n F.1 F.2.1 dX0_move_53 rfl (lv_at hl 0 rfl) ?_
  refine gX0_24 F hw rfl dX0_move_54 ?_
  refine lv_iload_n F.1 F.2.1 dX0_move_57 rfl (lv_at hl 1 rfl) ?_
  refine r_iald0 F hw (n := 60) rfl dX0_move_58 hi1 ?_
  refine r_iast0 F hw (n := 60) rfl dX0_move_59 hi2 hf (fun M15 H16 o17 hw hf => ?_)
  exact r_vret_w F hw dX0_move_60 hf
theorem clX2_159 (F : Fx D cA RX2 cc nL ret p s m args meth c) (hw : Wd shC D cA ad H0 M H locs) (hl : lv_has ls nL lv) {v1 : Int32} {v2 : Int32} (hR : 1 ≤ R.frames ∧ 22 ≤ R.locals) (hrm : (rest.map fun v => v.category).sum ≤ 8) (hd : decode cc pc = .ok (.invokevirtual 159, 3)) {α : Type} {K : Mem → Option α} {res : α} (hf : bnd1 (fX0_move v1 v2 M) K = some res) (kk : ∀ (M1 : Mem) (H1 : Heap) (locs1 : List Loc), Wd shC D cA ad H0 M1 H1 locs1 → K M1 = some res → W p l e R s m args below meth c H1 locs1 0 0 Q (F0 m (pc + 3) ls rest)) : W p l e R s m args below meth c H locs 0 0 Q (F0 m pc ls (.int v2 :: .int v1 :: .ref (ad 28) :: rest)) := by
  obtain ⟨M1, h1, h2⟩ := bnd1_some hf
  exact r_aftv hw (r_runV (As := [.int v1, .int v2]) F hw hl (cX0_move_ok l D cA ad M v1 v2 M1 h1) cz0 (show shC[28]? = some (.inr (0, sf0)) from rfl) cwX2_159 hR hrm hd) (fun H1 o1 hw1 => kk M1 H1 o1 hw1 h2)
def fX1_becomeNew (x : Nat) (M : Mem) : Option Mem :=
  wr M x 0 (0 : Int32) fun M1 =>
  wr M1 x 1 (10 : Int32) fun M4 =>
  wr M4 x 2 (0 : Int32) fun M7 =>
  wr M7 x 3 (0 : Int32) fun M10 =>
  wr M10 x 4 (0 : Int32) fun M13 =>
  wr M13 x 5 (0 : Int32) fun M16 =>
  some M16
set_option maxHeartbeats 4000000 in
set_option maxRecDepth 100000 in
theorem cX1_becomeNew_ok (l : Launch) (D : va_G) (cA : Nat → ClassId) (ad : Nat → Nat) (M : Mem) {x : Nat} (hx : shC[x]? = some (.inr (1, sf1)))  (M' : Mem) (hf : fX1_becomeNew x M = some M') : Ctg l yX1_becomeNew cX1_becomeNew 1 none 0 0 shC D cA ad [.ref (ad x)] M (Qzv shC D cA ad M') := by
  refine ct_in (by decide) (Nat.le_of_ble_eq_true rfl) ?_
  intro p e s m below meth c ls F hl hw
  have hl : lv_has ls 1 [(0, .ref (ad x))] := hl
  unfold fX1_becomeNew at hf
  refine lv_aload_n F.1 F.2.1 dX1_becomeNew_0 rfl (lv_at hl 0 rfl) ?_
  refine k_iconst_0 F dX1_becomeNew_1 ?_
  refine qX1_9 F hw hx dX1_becomeNew_2 hf (fun M1 H2 o3 hw hf => ?_)
  refine lv_aload_n F.1 F.2.1 dX1_becomeNew_5 rfl (lv_at hl 0 rfl) ?_
  refine k_bipush_10 F dX1_becomeNew_6 ?_
  refine qX1_15 F hw hx dX1_becomeNew_8 hf (fun M4 H5 o6 hw hf => ?_)
  refine lv_aload_n F.1 F.2.1 dX1_becomeNew_11 rfl (lv_at hl 0 rfl) ?_
  refine k_iconst_0 F dX1_becomeNew_12 ?_
  refine qX1_18 F hw hx dX1_becomeNew_13 hf (fun M7 H8 o9 hw hf => ?_)
  refine lv_aload_n F.1 F.2.1 dX1_becomeNew_16 rfl (lv_at hl 0 rfl) ?_
  refine k_iconst_0 F dX1_becomeNew_17 ?_
  refine qX1_21 F hw hx dX1_becomeNew_18 hf (fun M10 H11 o12 hw hf => ?_)
  refine lv_aload_n F.1 F.2.1 dX1_becomeNew_21 rfl (lv_at hl 0 rfl) ?_
  refine k_iconst_0 F dX1_becomeNew_22 ?_
  refine qX1_24 F hw hx dX1_becomeNew_23 hf (fun M13 H14 o15 hw hf => ?_)
  refine lv_aload_n F.1 F.2.1 dX1_becomeNew_26 rfl (lv_at hl 0 rfl) ?_
  refine k_iconst_0 F dX1_becomeNew_27 ?_
  refine qX1_27 F hw hx dX1_becomeNew_28 hf (fun M16 H17 o18 hw hf => ?_)
  exact r_vret_w F hw dX1_becomeNew_31 hf
theorem clX2_98 (F : Fx D cA RX2 cc nL ret p s m args meth c) (hw : Wd shC D cA ad H0 M H locs) (hl : lv_has ls nL lv) {x : Nat} (hx : shC[x]? = some (.inr (1, sf1))) (hR : 1 ≤ R.frames ∧ 20 ≤ R.locals) (hrm : (rest.map fun v => v.category).sum ≤ 8) (hd : decode cc pc = .ok (.invokevirtual 98, 3)) {α : Type} {K : Mem → Option α} {res : α} (hf : bnd1 (fX1_becomeNew x M) K = some res) (kk : ∀ (M1 : Mem) (H1 : Heap) (locs1 : List Loc), Wd shC D cA ad H0 M1 H1 locs1 → K M1 = some res → W p l e R s m args below meth c H1 locs1 0 0 Q (F0 m (pc + 3) ls rest)) : W p l e R s m args below meth c H locs 0 0 Q (F0 m pc ls (.ref (ad x) :: rest)) := by
  obtain ⟨M1, h1, h2⟩ := bnd1_some hf
  exact r_aftv hw (r_runV (As := []) F hw hl (cX1_becomeNew_ok l D cA ad M hx M1 h1) cz1 hx cwX2_98 hR hrm hd) (fun H1 o1 hw1 => kk M1 H1 o1 hw1 h2)
def fX1_left (x : Nat) (M : Mem) : Int32 :=
  ((M x 1) - (M x 2))
set_option maxHeartbeats 4000000 in
set_option maxRecDepth 100000 in
theorem cX1_left_ok (l : Launch) (D : va_G) (cA : Nat → ClassId) (ad : Nat → Nat) (M : Mem) {x : Nat} (hx : shC[x]? = some (.inr (1, sf1)))  (r : Int32) (hf : fX1_left x M = r) : Ctg l yX1_left cX1_left 1 (some .int) 0 0 shC D cA ad [.ref (ad x)] M (Qzi shC D cA ad .int r M) := by
  refine ct_in (by decide) (Nat.le_of_ble_eq_true rfl) ?_
  intro p e s m below meth c ls F hl hw
  have hl : lv_has ls 1 [(0, .ref (ad x))] := hl
  unfold fX1_left at hf
  refine lv_aload_n F.1 F.2.1 dX1_left_0 rfl (lv_at hl 0 rfl) ?_
  refine gX1_15 F hw hx dX1_left_1 ?_
  refine lv_aload_n F.1 F.2.1 dX1_left_4 rfl (lv_at hl 0 rfl) ?_
  refine gX1_18 F hw hx dX1_left_5 ?_
  refine lv_isub F.1 F.2.1 dX1_left_8 ?_
  exact r_iret_t F hw (vp_nar_int _) dX1_left_9 hf
theorem clX1_30 (F : Fx D cA RX1 cc nL ret p s m args meth c) (hw : Wd shC D cA ad H0 M H locs) (hl : lv_has ls nL lv) {x : Nat} (hx : shC[x]? = some (.inr (1, sf1))) (hR : 1 ≤ R.frames ∧ 20 ≤ R.locals) (hrm : (rest.map fun v => v.category).sum ≤ 8) (hd : decode cc pc = .ok (.invokevirtual 30, 3)) (kk : ∀ (H1 : Heap) (locs1 : List Loc), Wd shC D cA ad H0 M H1 locs1 → narrow .int (.int (fX1_left x M)) = .int (fX1_left x M) → W p l e R s m args below meth c H1 locs1 0 0 Q (F0 m (pc + 3) ls (.int (fX1_left x M) :: rest))) : W p l e R s m args below meth c H locs 0 0 Q (F0 m pc ls (.ref (ad x) :: rest)) :=
  r_afti hw (r_runV (As := []) F hw hl (cX1_left_ok l D cA ad M hx (fX1_left x M) rfl) cz1 hx cwX1_30 hR hrm hd) (fun H1 o1 hw1 hn => kk H1 o1 hw1 hn)
theorem clX2_239 (F : Fx D cA RX2 cc nL ret p s m args meth c) (hw : Wd shC D cA ad H0 M H locs) (hl : lv_has ls nL lv) {x : Nat} (hx : shC[x]? = some (.inr (1, sf1))) (hR : 1 ≤ R.frames ∧ 20 ≤ R.locals) (hrm : (rest.map fun v => v.category).sum ≤ 8) (hd : decode cc pc = .ok (.invokevirtual 239, 3)) (kk : ∀ (H1 : Heap) (locs1 : List Loc), Wd shC D cA ad H0 M H1 locs1 → narrow .int (.int (fX1_left x M)) = .int (fX1_left x M) → W p l e R s m args below meth c H1 locs1 0 0 Q (F0 m (pc + 3) ls (.int (fX1_left x M) :: rest))) : W p l e R s m args below meth c H locs 0 0 Q (F0 m pc ls (.ref (ad x) :: rest)) :=
  r_afti hw (r_runV (As := []) F hw hl (cX1_left_ok l D cA ad M hx (fX1_left x M) rfl) cz1 hx cwX2_239 hR hrm hd) (fun H1 o1 hw1 hn => kk H1 o1 hw1 hn)
def fX1_value (x : Nat) (v1 : Int32) (M : Mem) : Int32 :=
  if v1 = (0 : Int32) then
    (M x 3)
  else if v1 = (1 : Int32) then
    (M x 4)
  else if v1 = (2 : Int32) then
    (fX1_left x M)
  else 
    (M x 5)
set_option maxHeartbeats 4000000 in
set_option maxRecDepth 100000 in
theorem cX1_value_ok (l : Launch) (D : va_G) (cA : Nat → ClassId) (ad : Nat → Nat) (M : Mem) {x : Nat} (hx : shC[x]? = some (.inr (1, sf1))) (v1 : Int32) (r : Int32) (hf : fX1_value x v1 M = r) : Ctg l yX1_value cX1_value 2 (some .int) 1 20 shC D cA ad [.ref (ad x), .int v1] M (Qzi shC D cA ad .int r M) := by
  refine ct_in (by decide) (Nat.le_of_ble_eq_true rfl) ?_
  intro p e s m below meth c ls F hl hw
  have hl : lv_has ls 2 [(0, .ref (ad x)), (1, .int v1)] := hl
  unfold fX1_value at hf
  refine lv_iload_n F.1 F.2.1 dX1_value_0 rfl (lv_at hl 1 rfl) ?_
  by_cases hc1 : v1 = (0 : Int32)
  · rw [if_pos hc1] at hf
    refine lv_tableIn F.1 F.2.1 dX1_value_1 (tgt := 28) (off := 27) (by rw [hc1]; decide) (by rw [hc1]; decide) (by rw [hc1]; decide) (by decide) ?_
    refine lv_aload_n F.1 F.2.1 dX1_value_28 rfl (lv_at hl 0 rfl) ?_
    refine gX1_21 F hw hx dX1_value_29 ?_
    exact r_iret_t F hw (vp_nar_int _) dX1_value_32 hf
  · rw [if_neg hc1] at hf
    by_cases hc2 : v1 = (1 : Int32)
    · rw [if_pos hc2] at hf
      refine lv_tableIn F.1 F.2.1 dX1_value_1 (tgt := 33) (off := 32) (by rw [hc2]; decide) (by rw [hc2]; decide) (by rw [hc2]; decide) (by decide) ?_
      refine lv_aload_n F.1 F.2.1 dX1_value_33 rfl (lv_at hl 0 rfl) ?_
      refine gX1_24 F hw hx dX1_value_34 ?_
      exact r_iret_t F hw (vp_nar_int _) dX1_value_37 hf
    · rw [if_neg hc2] at hf
      by_cases hc3 : v1 = (2 : Int32)
      · rw [if_pos hc3] at hf
        refine lv_tableIn F.1 F.2.1 dX1_value_1 (tgt := 38) (off := 37) (by rw [hc3]; decide) (by rw [hc3]; decide) (by rw [hc3]; decide) (by decide) ?_
        refine lv_aload_n F.1 F.2.1 dX1_value_38 rfl (lv_at hl 0 rfl) ?_
        refine clX1_30 F hw hl hx ⟨Nat.le_of_ble_eq_true rfl, Nat.le_of_ble_eq_true rfl⟩ (Nat.le_of_ble_eq_true rfl) dX1_value_39 (fun H4 o5 hw hn6 => ?_)
        exact r_iret_t F hw (vp_nar_int _) dX1_value_42 hf
      · rw [if_neg hc3] at hf
        refine lv_tableOut F.1 F.2.1 dX1_value_1 (tgt := 43) (by have hc1t := lv_neT (a := 0) hc1 (by decide); have hc2t := lv_neT (a := 1) hc2 (by decide); have hc3t := lv_neT (a := 2) hc3 (by decide); omega) (by decide) ?_
        refine lv_aload_n F.1 F.2.1 dX1_value_43 rfl (lv_at hl 0 rfl) ?_
        refine gX1_27 F hw hx dX1_value_44 ?_
        exact r_iret_t F hw (vp_nar_int _) dX1_value_47 hf
theorem clX7_131 (F : Fx D cA RX7 cc nL ret p s m args meth c) (hw : Wd shC D cA ad H0 M H locs) (hl : lv_has ls nL lv) {x : Nat} (hx : shC[x]? = some (.inr (1, sf1))) {v1 : Int32} (hR : 2 ≤ R.frames ∧ 41 ≤ R.locals) (hrm : (rest.map fun v => v.category).sum ≤ 8) (hd : decode cc pc = .ok (.invokevirtual 131, 3)) (kk : ∀ (H1 : Heap) (locs1 : List Loc), Wd shC D cA ad H0 M H1 locs1 → narrow .int (.int (fX1_value x v1 M)) = .int (fX1_value x v1 M) → W p l e R s m args below meth c H1 locs1 0 0 Q (F0 m (pc + 3) ls (.int (fX1_value x v1 M) :: rest))) : W p l e R s m args below meth c H locs 0 0 Q (F0 m pc ls (.int v1 :: .ref (ad x) :: rest)) :=
  r_afti hw (r_runV (As := [.int v1]) F hw hl (cX1_value_ok l D cA ad M hx v1 (fX1_value x v1 M) rfl) cz1 hx cwX7_131 hR hrm hd) (fun H1 o1 hw1 hn => kk H1 o1 hw1 hn)
def fX3_becomeNew (x : Nat) (M : Mem) : Option Mem :=
  wr M x 0 (0 : Int32) fun M1 =>
  wr M1 x 1 (4 : Int32) fun M4 =>
  wr M4 x 2 (0 : Int32) fun M7 =>
  wr M7 x 3 (0 : Int32) fun M10 =>
  wr M10 x 4 (-2 : Int32) fun M13 =>
  some M13
set_option maxHeartbeats 4000000 in
set_option maxRecDepth 100000 in
theorem cX3_becomeNew_ok (l : Launch) (D : va_G) (cA : Nat → ClassId) (ad : Nat → Nat) (M : Mem) {x : Nat} (hx : shC[x]? = some (.inr (3, sf3)))  (M' : Mem) (hf : fX3_becomeNew x M = some M') : Ctg l yX3_becomeNew cX3_becomeNew 1 none 0 0 shC D cA ad [.ref (ad x)] M (Qzv shC D cA ad M') := by
  refine ct_in (by decide) (Nat.le_of_ble_eq_true rfl) ?_
  intro p e s m below meth c ls F hl hw
  have hl : lv_has ls 1 [(0, .ref (ad x))] := hl
  unfold fX3_becomeNew at hf
  refine lv_aload_n F.1 F.2.1 dX3_becomeNew_0 rfl (lv_at hl 0 rfl) ?_
  refine k_iconst_0 F dX3_becomeNew_1 ?_
  refine qX3_15 F hw hx dX3_becomeNew_2 hf (fun M1 H2 o3 hw hf => ?_)
  refine lv_aload_n F.1 F.2.1 dX3_becomeNew_5 rfl (lv_at hl 0 rfl) ?_
  refine k_iconst_4 F dX3_becomeNew_6 ?_
  refine qX3_19 F hw hx dX3_becomeNew_7 hf (fun M4 H5 o6 hw hf => ?_)
  refine lv_aload_n F.1 F.2.1 dX3_becomeNew_10 rfl (lv_at hl 0 rfl) ?_
  refine k_iconst_0 F dX3_becomeNew_11 ?_
  refine qX3_22 F hw hx dX3_becomeNew_12 hf (fun M7 H8 o9 hw hf => ?_)
  refine lv_aload_n F.1 F.2.1 dX3_becomeNew_15 rfl (lv_at hl 0 rfl) ?_
  refine k_iconst_0 F dX3_becomeNew_16 ?_
  refine qX3_25 F hw hx dX3_becomeNew_17 hf (fun M10 H11 o12 hw hf => ?_)
  refine lv_aload_n F.1 F.2.1 dX3_becomeNew_20 rfl (lv_at hl 0 rfl) ?_
  refine k_bipush_m2 F dX3_becomeNew_21 ?_
  refine qX3_28 F hw hx dX3_becomeNew_23 hf (fun M13 H14 o15 hw hf => ?_)
  exact r_vret_w F hw dX3_becomeNew_26 hf
theorem clX2_86 (F : Fx D cA RX2 cc nL ret p s m args meth c) (hw : Wd shC D cA ad H0 M H locs) (hl : lv_has ls nL lv) {x : Nat} (hx : shC[x]? = some (.inr (3, sf3))) (hR : 1 ≤ R.frames ∧ 20 ≤ R.locals) (hrm : (rest.map fun v => v.category).sum ≤ 8) (hd : decode cc pc = .ok (.invokevirtual 86, 3)) {α : Type} {K : Mem → Option α} {res : α} (hf : bnd1 (fX3_becomeNew x M) K = some res) (kk : ∀ (M1 : Mem) (H1 : Heap) (locs1 : List Loc), Wd shC D cA ad H0 M1 H1 locs1 → K M1 = some res → W p l e R s m args below meth c H1 locs1 0 0 Q (F0 m (pc + 3) ls rest)) : W p l e R s m args below meth c H locs 0 0 Q (F0 m pc ls (.ref (ad x) :: rest)) := by
  obtain ⟨M1, h1, h2⟩ := bnd1_some hf
  exact r_aftv hw (r_runV (As := []) F hw hl (cX3_becomeNew_ok l D cA ad M hx M1 h1) cz3 hx cwX2_86 hR hrm hd) (fun H1 o1 hw1 => kk M1 H1 o1 hw1 h2)
theorem clX7_112 (F : Fx D cA RX7 cc nL ret p s m args meth c) (hw : Wd shC D cA ad H0 M H locs) (hl : lv_has ls nL lv) {x : Nat} (hx : shC[x]? = some (.inr (3, sf3))) (hR : 1 ≤ R.frames ∧ 20 ≤ R.locals) (hrm : (rest.map fun v => v.category).sum ≤ 8) (hd : decode cc pc = .ok (.invokevirtual 112, 3)) {α : Type} {K : Mem → Option α} {res : α} (hf : bnd1 (fX3_becomeNew x M) K = some res) (kk : ∀ (M1 : Mem) (H1 : Heap) (locs1 : List Loc), Wd shC D cA ad H0 M1 H1 locs1 → K M1 = some res → W p l e R s m args below meth c H1 locs1 0 0 Q (F0 m (pc + 3) ls rest)) : W p l e R s m args below meth c H locs 0 0 Q (F0 m pc ls (.ref (ad x) :: rest)) := by
  obtain ⟨M1, h1, h2⟩ := bnd1_some hf
  exact r_aftv hw (r_runV (As := []) F hw hl (cX3_becomeNew_ok l D cA ad M hx M1 h1) cz3 hx cwX7_112 hR hrm hd) (fun H1 o1 hw1 => kk M1 H1 o1 hw1 h2)
def fX3_becomeUnknown (x : Nat) (M : Mem) : Option Mem :=
  wr M x 5 (63 : Int32) fun M1 =>
  wr M1 x 7 (0 : Int32) fun M4 =>
  wr M4 x 8 (0 : Int32) fun M7 =>
  wr M7 x 9 (0 : Int32) fun M10 =>
  some M10
set_option maxHeartbeats 4000000 in
set_option maxRecDepth 100000 in
theorem cX3_becomeUnknown_ok (l : Launch) (D : va_G) (cA : Nat → ClassId) (ad : Nat → Nat) (M : Mem) {x : Nat} (hx : shC[x]? = some (.inr (3, sf3)))  (M' : Mem) (hf : fX3_becomeUnknown x M = some M') : Ctg l yX3_becomeUnknown cX3_becomeUnknown 1 none 0 0 shC D cA ad [.ref (ad x)] M (Qzv shC D cA ad M') := by
  refine ct_in (by decide) (Nat.le_of_ble_eq_true rfl) ?_
  intro p e s m below meth c ls F hl hw
  have hl : lv_has ls 1 [(0, .ref (ad x))] := hl
  unfold fX3_becomeUnknown at hf
  refine lv_aload_n F.1 F.2.1 dX3_becomeUnknown_0 rfl (lv_at hl 0 rfl) ?_
  refine k_bipush_63 F dX3_becomeUnknown_1 ?_
  refine qX3_31 F hw hx dX3_becomeUnknown_3 hf (fun M1 H2 o3 hw hf => ?_)
  refine lv_aload_n F.1 F.2.1 dX3_becomeUnknown_6 rfl (lv_at hl 0 rfl) ?_
  refine k_iconst_0 F dX3_becomeUnknown_7 ?_
  refine qX3_34 F hw hx dX3_becomeUnknown_8 hf (fun M4 H5 o6 hw hf => ?_)
  refine lv_aload_n F.1 F.2.1 dX3_becomeUnknown_11 rfl (lv_at hl 0 rfl) ?_
  refine k_iconst_0 F dX3_becomeUnknown_12 ?_
  refine qX3_37 F hw hx dX3_becomeUnknown_13 hf (fun M7 H8 o9 hw hf => ?_)
  refine lv_aload_n F.1 F.2.1 dX3_becomeUnknown_16 rfl (lv_at hl 0 rfl) ?_
  refine k_iconst_0 F dX3_becomeUnknown_17 ?_
  refine qX3_40 F hw hx dX3_becomeUnknown_18 hf (fun M10 H11 o12 hw hf => ?_)
  exact r_vret_w F hw dX3_becomeUnknown_21 hf
theorem clX2_89 (F : Fx D cA RX2 cc nL ret p s m args meth c) (hw : Wd shC D cA ad H0 M H locs) (hl : lv_has ls nL lv) {x : Nat} (hx : shC[x]? = some (.inr (3, sf3))) (hR : 1 ≤ R.frames ∧ 20 ≤ R.locals) (hrm : (rest.map fun v => v.category).sum ≤ 8) (hd : decode cc pc = .ok (.invokevirtual 89, 3)) {α : Type} {K : Mem → Option α} {res : α} (hf : bnd1 (fX3_becomeUnknown x M) K = some res) (kk : ∀ (M1 : Mem) (H1 : Heap) (locs1 : List Loc), Wd shC D cA ad H0 M1 H1 locs1 → K M1 = some res → W p l e R s m args below meth c H1 locs1 0 0 Q (F0 m (pc + 3) ls rest)) : W p l e R s m args below meth c H locs 0 0 Q (F0 m pc ls (.ref (ad x) :: rest)) := by
  obtain ⟨M1, h1, h2⟩ := bnd1_some hf
  exact r_aftv hw (r_runV (As := []) F hw hl (cX3_becomeUnknown_ok l D cA ad M hx M1 h1) cz3 hx cwX2_89 hR hrm hd) (fun H1 o1 hw1 => kk M1 H1 o1 hw1 h2)
def fJ7_fill_53178_L5 : Nat → Nat → Int32 → Int32 → Int32 → Mem → Option (Mem)
  | 0, _, _, _, _, _ => none
  | n + 1, x0, v1, v2, v3, M =>
    if v3 ≤ v2 then
      some M
    else
      ix v2 4 <| wr M x0 v2.toNatClampNeg v1 fun M4 =>
      fJ7_fill_53178_L5 n x0 v1 (v2 + (1 : Int32)) v3 M4
def fJ7_fill_53178 (x0 : Nat) (v1 : Int32) (M : Mem) : Option Mem :=
  bnd1 (fJ7_fill_53178_L5 FUEL x0 v1 (0 : Int32) (Int32.ofNat 4) M) fun M9 =>
  some M9
set_option maxHeartbeats 4000000 in
set_option maxRecDepth 100000 in
theorem wJ7_fill_53178_L5 {p : Program} {l : Launch} {e : Env} {s : State} {m : MethodId} {args : Array Value} {below : List Frame} {meth : Method} {c : Code} {D : va_G} {cA : Nat → ClassId} {ad : Nat → Nat} {Q : State → Prop} (F : Fx D cA RJ7 cJ7_fill_53178 4 none p s m args meth c) {x0 : Nat} (hx0 : shC[x0]? = some (.inl (.inl 4))) : ∀ (n : Nat) (v1 : Int32) (v2 : Int32) (v3 : Int32) (M : Mem) (H : Heap) (o : List Loc) (ls : Array Slot), lv_has ls 4 [(0, .ref (ad x0)), (1, .int v1), (2, .int v2), (3, .int v3)] → Wd shC D cA ad s.heap M H o → ∀ (M' : Mem), fJ7_fill_53178_L5 n x0 v1 v2 v3 M = some M' → (∀ (H1 : Heap) (o1 : List Loc) (ls1 : Array Slot), lv_has ls1 4 [] → Wd shC D cA ad s.heap M' H1 o1 → W p l e (rz 0 0) s m args below meth c H1 o1 0 0 Q (F0 m 20 ls1 [])) → W p l e (rz 0 0) s m args below meth c H o 0 0 Q (F0 m 5 ls []) := by
  intro n
  induction n with
  | zero =>
    intro v1 v2 v3 M H o ls hl hw M' hf kk
    cases hf
  | succ n ih =>
    intro v1 v2 v3 M H o ls hl hw M' hf kk
    rw [fJ7_fill_53178_L5] at hf
    refine lv_iload_n F.1 F.2.1 dJ7_fill_53178_5 rfl (lv_at hl 2 rfl) ?_
    refine lv_iload_n F.1 F.2.1 dJ7_fill_53178_6 rfl (lv_at hl 3 rfl) ?_
    refine b_icmp_ge F dJ7_fill_53178_7 (tgt := 20) (by decide) hf (fun hc8 hf => ?_) (fun hc8 hf => ?_)
    · cases hf
      exact kk _ _ _ (lv_sub hl [] rfl) hw
    · refine lv_aload_n F.1 F.2.1 dJ7_fill_53178_10 rfl (lv_at hl 0 rfl) ?_
      refine lv_iload_n F.1 F.2.1 dJ7_fill_53178_11 rfl (lv_at hl 2 rfl) ?_
      refine lv_iload_n F.1 F.2.1 dJ7_fill_53178_12 rfl (lv_at hl 1 rfl) ?_
      refine r_iast F hw (n := 4) hx0 dJ7_fill_53178_13 hf (fun hi3 M4 H5 o6 hw hf => ?_)
      refine lv_iinc F.1 F.2.1 dJ7_fill_53178_14 hl (k := 2) rfl (ki_1 _) (lv' := [(2, .int (v2 + (1 : Int32))), (0, .ref (ad x0)), (1, .int v1), (3, .int v3)]) (Nat.le_of_ble_eq_true rfl) rfl (fun ls7 hl => ?_)
      refine lv_goto F.1 F.2.1 dJ7_fill_53178_17 (tgt := 5) (by decide) ?_
      exact ih v1 (v2 + (1 : Int32)) v3 M4 _ _ _ (lv_sub hl [1, 2, 0, 3] rfl) hw  M' hf kk
set_option maxHeartbeats 4000000 in
set_option maxRecDepth 100000 in
theorem cJ7_fill_53178_ok (l : Launch) (D : va_G) (cA : Nat → ClassId) (ad : Nat → Nat) (M : Mem) {x0 : Nat} (hx0 : shC[x0]? = some (.inl (.inl 4))) (v1 : Int32) (M' : Mem) (hf : fJ7_fill_53178 x0 v1 M = some M') : Ctg l yJ7_fill_53178 cJ7_fill_53178 4 none 0 0 shC D cA ad [.ref (ad x0), .int v1] M (Qzv shC D cA ad M') := by
  refine ct_inF (by decide +kernel) (Nat.le_of_ble_eq_true rfl) ?_
  intro p e s m below meth c ls F hl hw
  have hl : lv_has ls 4 [(0, .ref (ad x0)), (1, .int v1)] := hl
  unfold fJ7_fill_53178 at hf
  refine k_iconst_0 F dJ7_fill_53178_0 ?_
  refine lv_istore_n F.1 F.2.1 dJ7_fill_53178_1 rfl hl (lv' := [(2, .int (0 : Int32)), (0, .ref (ad x0)), (1, .int v1)]) (Nat.le_of_ble_eq_true rfl) rfl (fun ls1 hl => ?_)
  refine lv_aload_n F.1 F.2.1 dJ7_fill_53178_2 rfl (lv_at hl 1 rfl) ?_
  refine r_alen F hw hx0 dJ7_fill_53178_3 ?_
  refine lv_istore_n F.1 F.2.1 dJ7_fill_53178_4 rfl hl (lv' := [(3, .int (Int32.ofNat 4)), (2, .int (0 : Int32)), (0, .ref (ad x0)), (1, .int v1)]) (Nat.le_of_ble_eq_true rfl) rfl (fun ls2 hl => ?_)
  obtain ⟨M9, hq13, hf⟩ := bnd1_some hf
  refine wJ7_fill_53178_L5 F hx0 FUEL v1 (0 : Int32) (Int32.ofNat 4) M _ _ _ (lv_sub hl [2, 3, 1, 0] rfl) hw M9 hq13 (fun H10 o11 ls12 hl hw => ?_)
  exact r_vret_w F hw dJ7_fill_53178_20 hf
theorem clX2_92 (F : Fx D cA RX2 cc nL ret p s m args meth c) (hw : Wd shC D cA ad H0 M H locs) (hl : lv_has ls nL lv) {x0 : Nat} (hx0 : shC[x0]? = some (.inl (.inl 4))) {v1 : Int32} (hR : 1 ≤ R.frames ∧ 23 ≤ R.locals) (hrm : (rest.map fun v => v.category).sum ≤ 8) (hd : decode cc pc = .ok (.invokestatic 92, 3)) {α : Type} {K : Mem → Option α} {res : α} (hf : bnd1 (fJ7_fill_53178 x0 v1 M) K = some res) (kk : ∀ (M1 : Mem) (H1 : Heap) (locs1 : List Loc), Wd shC D cA ad H0 M1 H1 locs1 → K M1 = some res → W p l e R s m args below meth c H1 locs1 0 0 Q (F0 m (pc + 3) ls rest)) : W p l e R s m args below meth c H locs 0 0 Q (F0 m pc ls (.int v1 :: .ref (ad x0) :: rest)) := by
  obtain ⟨M1, h1, h2⟩ := bnd1_some hf
  exact r_aftv hw (r_runS (As := [.ref (ad x0), .int v1]) F hw hl (cJ7_fill_53178_ok l D cA ad M hx0 v1 M1 h1) cwX2_92 hR hrm hd) (fun H1 o1 hw1 => kk M1 H1 o1 hw1 h2)
def fX3_nextLetter (x : Nat) (M : Mem) : Option (Int32 × Mem) :=
  if (M x 3) = 0 then
    wr M x 4 (-1 : Int32) fun M7 =>
    some ((M7 x 4), M7)
  else
    wr M x 4 (M x 2) fun M1 =>
    wr M1 x 2 (jirem ((M1 x 2) + (1 : Int32)) (64 : Int32)) fun M4 =>
    some ((M4 x 4), M4)
set_option maxHeartbeats 4000000 in
set_option maxRecDepth 100000 in
theorem cX3_nextLetter_ok (l : Launch) (D : va_G) (cA : Nat → ClassId) (ad : Nat → Nat) (M : Mem) {x : Nat} (hx : shC[x]? = some (.inr (3, sf3)))  (r : Int32) (M' : Mem) (hf : fX3_nextLetter x M = some (r, M')) : Ctg l yX3_nextLetter cX3_nextLetter 1 (some .int) 0 0 shC D cA ad [.ref (ad x)] M (Qzi shC D cA ad .int r M') := by
  refine ct_in (by decide) (Nat.le_of_ble_eq_true rfl) ?_
  intro p e s m below meth c ls F hl hw
  have hl : lv_has ls 1 [(0, .ref (ad x))] := hl
  unfold fX3_nextLetter at hf
  refine lv_aload_n F.1 F.2.1 dX3_nextLetter_0 rfl (lv_at hl 0 rfl) ?_
  refine gX3_25 F hw hx dX3_nextLetter_1 ?_
  refine b_if_ne F dX3_nextLetter_4 (tgt := 15) (by decide) hf (fun hc10 hf => ?_) (fun hc10 hf => ?_)
  · refine lv_aload_n F.1 F.2.1 dX3_nextLetter_7 rfl (lv_at hl 0 rfl) ?_
    refine k_iconst_m1 F dX3_nextLetter_8 ?_
    refine qX3_28 F hw hx dX3_nextLetter_9 hf (fun M7 H8 o9 hw hf => ?_)
    refine lv_goto F.1 F.2.1 dX3_nextLetter_12 (tgt := 36) (by decide) ?_
    refine lv_aload_n F.1 F.2.1 dX3_nextLetter_36 rfl (lv_at hl 0 rfl) ?_
    refine gX3_28 F hw hx dX3_nextLetter_37 ?_
    exact r_iret_w F hw (vp_nar_int _) dX3_nextLetter_40 hf
  · refine lv_aload_n F.1 F.2.1 dX3_nextLetter_15 rfl (lv_at hl 0 rfl) ?_
    refine lv_aload_n F.1 F.2.1 dX3_nextLetter_16 rfl (lv_at hl 0 rfl) ?_
    refine gX3_22 F hw hx dX3_nextLetter_17 ?_
    refine qX3_28 F hw hx dX3_nextLetter_20 hf (fun M1 H2 o3 hw hf => ?_)
    refine lv_aload_n F.1 F.2.1 dX3_nextLetter_23 rfl (lv_at hl 0 rfl) ?_
    refine lv_aload_n F.1 F.2.1 dX3_nextLetter_24 rfl (lv_at hl 0 rfl) ?_
    refine gX3_22 F hw hx dX3_nextLetter_25 ?_
    refine k_iconst_1 F dX3_nextLetter_28 ?_
    refine lv_iadd F.1 F.2.1 dX3_nextLetter_29 ?_
    refine k_bipush_64 F dX3_nextLetter_30 ?_
    refine k_irem F dX3_nextLetter_32 (by decide) ?_
    refine qX3_22 F hw hx dX3_nextLetter_33 hf (fun M4 H5 o6 hw hf => ?_)
    refine lv_aload_n F.1 F.2.1 dX3_nextLetter_36 rfl (lv_at hl 0 rfl) ?_
    refine gX3_28 F hw hx dX3_nextLetter_37 ?_
    exact r_iret_w F hw (vp_nar_int _) dX3_nextLetter_40 hf
theorem clX2_115 (F : Fx D cA RX2 cc nL ret p s m args meth c) (hw : Wd shC D cA ad H0 M H locs) (hl : lv_has ls nL lv) {x : Nat} (hx : shC[x]? = some (.inr (3, sf3))) (hR : 1 ≤ R.frames ∧ 20 ≤ R.locals) (hrm : (rest.map fun v => v.category).sum ≤ 8) (hd : decode cc pc = .ok (.invokevirtual 115, 3)) {α : Type} {K : Int32 → Mem → Option α} {res : α} (hf : bnd2 (fX3_nextLetter x M) K = some res) (kk : ∀ (t : Int32) (M1 : Mem) (H1 : Heap) (locs1 : List Loc), Wd shC D cA ad H0 M1 H1 locs1 → narrow .int (.int t) = .int t → K t M1 = some res → W p l e R s m args below meth c H1 locs1 0 0 Q (F0 m (pc + 3) ls (.int t :: rest))) : W p l e R s m args below meth c H locs 0 0 Q (F0 m pc ls (.ref (ad x) :: rest)) := by
  obtain ⟨t, M1, h1, h2⟩ := bnd2_some hf
  exact r_afti hw (r_runV (As := []) F hw hl (cX3_nextLetter_ok l D cA ad M hx t M1 h1) cz3 hx cwX2_115 hR hrm hd) (fun H1 o1 hw1 hn => kk t M1 H1 o1 hw1 hn h2)
def fX6_find_L2 : Nat → Int32 → Int32 → Int32 → Mem → Option Int32
  | 0, _, _, _, _ => none
  | n + 1, v1, v2, v3, M =>
    if (M 34 4) ≤ v3 then
      some (-1 : Int32)
    else
      ix v3 390 <|
      if (M 35 v3.toNatClampNeg) = v1 then
        if (M 36 v3.toNatClampNeg) = v2 then
          some v3
        else
          fX6_find_L2 n v1 v2 (v3 + (1 : Int32)) M
      else
        fX6_find_L2 n v1 v2 (v3 + (1 : Int32)) M
def fX6_find (v1 : Int32) (v2 : Int32) (M : Mem) : Option Int32 :=
  fX6_find_L2 FUEL v1 v2 (0 : Int32) M
set_option maxHeartbeats 4000000 in
set_option maxRecDepth 100000 in
theorem wX6_find_L2 {p : Program} {l : Launch} {e : Env} {s : State} {m : MethodId} {args : Array Value} {below : List Frame} {meth : Method} {c : Code} {D : va_G} {cA : Nat → ClassId} {ad : Nat → Nat} {r : Int32} (F : Fx D cA RX6 cX6_find 4 (some .int) p s m args meth c) : ∀ (n : Nat) (v1 : Int32) (v2 : Int32) (v3 : Int32) (M : Mem) (H : Heap) (o : List Loc) (ls : Array Slot), lv_has ls 4 [(0, .ref (ad 34)), (1, .int v1), (2, .int v2), (3, .int v3)] → Wd shC D cA ad s.heap M H o → fX6_find_L2 n v1 v2 v3 M = some r → W p l e (rz 0 0) s m args below meth c H o 0 0 (MQ below (Qzi shC D cA ad .int r M) args s 0 0 (Az shC ad)) (F0 m 2 ls []) := by
  intro n
  induction n with
  | zero =>
    intro v1 v2 v3 M H o ls hl hw hf
    cases hf
  | succ n ih =>
    intro v1 v2 v3 M H o ls hl hw hf
    rw [fX6_find_L2] at hf
    refine lv_iload_n F.1 F.2.1 dX6_find_2 rfl (lv_at hl 3 rfl) ?_
    refine lv_aload_n F.1 F.2.1 dX6_find_3 rfl (lv_at hl 0 rfl) ?_
    refine gX6_24 F hw rfl dX6_find_4 ?_
    refine b_icmp_ge F dX6_find_7 (tgt := 38) (by decide) hf (fun hc7 hf => ?_) (fun hc7 hf => ?_)
    · refine k_iconst_m1 F dX6_find_38 ?_
      exact r_iret_o F hw (vp_nar_int _) dX6_find_39 hf
    · refine lv_aload_n F.1 F.2.1 dX6_find_10 rfl (lv_at hl 0 rfl) ?_
      refine gX6_9 F hw rfl dX6_find_11 ?_
      refine lv_iload_n F.1 F.2.1 dX6_find_14 rfl (lv_at hl 3 rfl) ?_
      refine r_iald F hw (n := 390) rfl dX6_find_15 hf (fun hi2 hf => ?_)
      refine lv_iload_n F.1 F.2.1 dX6_find_16 rfl (lv_at hl 1 rfl) ?_
      refine b_icmp_ne F dX6_find_17 (tgt := 32) (by decide) hf (fun hc6 hf => ?_) (fun hc6 hf => ?_)
      · refine lv_aload_n F.1 F.2.1 dX6_find_20 rfl (lv_at hl 0 rfl) ?_
        refine gX6_15 F hw rfl dX6_find_21 ?_
        refine lv_iload_n F.1 F.2.1 dX6_find_24 rfl (lv_at hl 3 rfl) ?_
        refine r_iald0 F hw (n := 390) rfl dX6_find_25 hi2 ?_
        refine lv_iload_n F.1 F.2.1 dX6_find_26 rfl (lv_at hl 2 rfl) ?_
        refine b_icmp_ne F dX6_find_27 (tgt := 32) (by decide) hf (fun hc5 hf => ?_) (fun hc5 hf => ?_)
        · refine lv_iload_n F.1 F.2.1 dX6_find_30 rfl (lv_at hl 3 rfl) ?_
          exact r_iret_o F hw (vp_nar_int _) dX6_find_31 hf
        · refine lv_iinc F.1 F.2.1 dX6_find_32 hl (k := 3) rfl (ki_1 _) (lv' := [(3, .int (v3 + (1 : Int32))), (0, .ref (ad 34)), (1, .int v1), (2, .int v2)]) (Nat.le_of_ble_eq_true rfl) rfl (fun ls4 hl => ?_)
          refine lv_goto F.1 F.2.1 dX6_find_35 (tgt := 2) (by decide) ?_
          exact ih v1 v2 (v3 + (1 : Int32)) M _ _ _ (lv_sub hl [1, 2, 3, 0] rfl) hw hf
      · refine lv_iinc F.1 F.2.1 dX6_find_32 hl (k := 3) rfl (ki_1 _) (lv' := [(3, .int (v3 + (1 : Int32))), (0, .ref (ad 34)), (1, .int v1), (2, .int v2)]) (Nat.le_of_ble_eq_true rfl) rfl (fun ls3 hl => ?_)
        refine lv_goto F.1 F.2.1 dX6_find_35 (tgt := 2) (by decide) ?_
        exact ih v1 v2 (v3 + (1 : Int32)) M _ _ _ (lv_sub hl [1, 2, 3, 0] rfl) hw hf
set_option maxHeartbeats 4000000 in
set_option maxRecDepth 100000 in
theorem cX6_find_ok (l : Launch) (D : va_G) (cA : Nat → ClassId) (ad : Nat → Nat) (M : Mem) (v1 : Int32) (v2 : Int32) (r : Int32) (hf : fX6_find v1 v2 M = some r) : Ctg l yX6_find cX6_find 4 (some .int) 0 0 shC D cA ad [.ref (ad 34), .int v1, .int v2] M (Qzi shC D cA ad .int r M) := by
  refine ct_in (by decide) (Nat.le_of_ble_eq_true rfl) ?_
  intro p e s m below meth c ls F hl hw
  have hl : lv_has ls 4 [(0, .ref (ad 34)), (1, .int v1), (2, .int v2)] := hl
  unfold fX6_find at hf
  refine k_iconst_0 F dX6_find_0 ?_
  refine lv_istore_n F.1 F.2.1 dX6_find_1 rfl hl (lv' := [(3, .int (0 : Int32)), (0, .ref (ad 34)), (1, .int v1), (2, .int v2)]) (Nat.le_of_ble_eq_true rfl) rfl (fun ls1 hl => ?_)
  exact wX6_find_L2 F FUEL v1 v2 (0 : Int32) M _ _ _ (lv_sub hl [1, 2, 3, 0] rfl) hw hf
theorem clX2_169 (F : Fx D cA RX2 cc nL ret p s m args meth c) (hw : Wd shC D cA ad H0 M H locs) (hl : lv_has ls nL lv) {v1 : Int32} {v2 : Int32} (hR : 1 ≤ R.frames ∧ 23 ≤ R.locals) (hrm : (rest.map fun v => v.category).sum ≤ 8) (hd : decode cc pc = .ok (.invokevirtual 169, 3)) {α : Type} {K : Int32 → Option α} {res : α} (hf : bnd1 (fX6_find v1 v2 M) K = some res) (kk : ∀ (t : Int32) (H1 : Heap) (locs1 : List Loc), Wd shC D cA ad H0 M H1 locs1 → narrow .int (.int t) = .int t → K t = some res → W p l e R s m args below meth c H1 locs1 0 0 Q (F0 m (pc + 3) ls (.int t :: rest))) : W p l e R s m args below meth c H locs 0 0 Q (F0 m pc ls (.int v2 :: .int v1 :: .ref (ad 34) :: rest)) := by
  obtain ⟨t, h1, h2⟩ := bnd1_some hf
  exact r_afti hw (r_runV (As := [.int v1, .int v2]) F hw hl (cX6_find_ok l D cA ad M v1 v2 t h1) cz6 (show shC[34]? = some (.inr (6, sf6)) from rfl) cwX2_169 hR hrm hd) (fun H1 o1 hw1 hn => kk t H1 o1 hw1 hn h2)
def fX6_hear (v1 : Int32) (v2 : Int32) (v3 : Int32) (M : Mem) : Option Mem :=
  if v1 < 0 then
    some M
  else
    if (M 34 4) ≤ v1 then
      some M
    else
      ix ((v1 * (4 : Int32)) + v2) 1560 <|
      wr M 38 ((v1 * (4 : Int32)) + v2).toNatClampNeg (jmax (M 38 ((v1 * (4 : Int32)) + v2).toNatClampNeg) v3) fun M3 =>
      some M3
set_option maxHeartbeats 4000000 in
set_option maxRecDepth 100000 in
theorem cX6_hear_ok (l : Launch) (D : va_G) (cA : Nat → ClassId) (ad : Nat → Nat) (M : Mem) (v1 : Int32) (v2 : Int32) (v3 : Int32) (M' : Mem) (hf : fX6_hear v1 v2 v3 M = some M') : Ctg l yX6_hear cX6_hear 5 none 1 21 shC D cA ad [.ref (ad 34), .int v1, .int v2, .int v3] M (Qzv shC D cA ad M') := by
  refine ct_in (by decide) (Nat.le_of_ble_eq_true rfl) ?_
  intro p e s m below meth c ls F hl hw
  have hl : lv_has ls 5 [(0, .ref (ad 34)), (1, .int v1), (2, .int v2), (3, .int v3)] := hl
  unfold fX6_hear at hf
  refine lv_iload_n F.1 F.2.1 dX6_hear_0 rfl (lv_at hl 1 rfl) ?_
  refine b_if_lt F dX6_hear_1 (tgt := 37) (by decide) hf (fun hc7 hf => ?_) (fun hc7 hf => ?_)
  · exact r_vret_w F hw dX6_hear_37 hf
  · refine lv_iload_n F.1 F.2.1 dX6_hear_4 rfl (lv_at hl 1 rfl) ?_
    refine lv_aload_n F.1 F.2.1 dX6_hear_5 rfl (lv_at hl 0 rfl) ?_
    refine gX6_24 F hw rfl dX6_hear_6 ?_
    refine b_icmp_ge F dX6_hear_9 (tgt := 37) (by decide) hf (fun hc6 hf => ?_) (fun hc6 hf => ?_)
    · exact r_vret_w F hw dX6_hear_37 hf
    · refine lv_iload_n F.1 F.2.1 dX6_hear_12 rfl (lv_at hl 1 rfl) ?_
      refine k_iconst_4 F dX6_hear_13 ?_
      refine lv_imul F.1 F.2.1 dX6_hear_14 ?_
      refine lv_iload_n F.1 F.2.1 dX6_hear_15 rfl (lv_at hl 2 rfl) ?_
      refine lv_iadd F.1 F.2.1 dX6_hear_16 ?_
      refine lv_istore F.1 F.2.1 dX6_hear_17 hl (lv' := [(4, .int ((v1 * (4 : Int32)) + v2)), (0, .ref (ad 34)), (1, .int v1), (2, .int v2), (3, .int v3)]) (Nat.le_of_ble_eq_true rfl) rfl (fun ls1 hl => ?_)
      refine lv_aload_n F.1 F.2.1 dX6_hear_19 rfl (lv_at hl 1 rfl) ?_
      refine gX6_21 F hw rfl dX6_hear_20 ?_
      refine lv_iload F.1 F.2.1 dX6_hear_23 (lv_at hl 0 rfl) ?_
      refine lv_aload_n F.1 F.2.1 dX6_hear_25 rfl (lv_at hl 1 rfl) ?_
      refine gX6_21 F hw rfl dX6_hear_26 ?_
      refine lv_iload F.1 F.2.1 dX6_hear_29 (lv_at hl 0 rfl) ?_
      refine r_iald F hw (n := 1560) rfl dX6_hear_31 hf (fun hi2 hf => ?_)
      refine lv_iload_n F.1 F.2.1 dX6_hear_32 rfl (lv_at hl 4 rfl) ?_
      refine k_max F hl kw_519 ⟨Nat.le_of_ble_eq_true rfl, Nat.le_of_ble_eq_true rfl⟩ dX6_hear_33 ?_
      refine r_iast0 F hw (n := 1560) rfl dX6_hear_36 hi2 hf (fun M3 H4 o5 hw hf => ?_)
      exact r_vret_w F hw dX6_hear_37 hf
theorem clX2_178 (F : Fx D cA RX2 cc nL ret p s m args meth c) (hw : Wd shC D cA ad H0 M H locs) (hl : lv_has ls nL lv) {v1 : Int32} {v2 : Int32} {v3 : Int32} (hR : 2 ≤ R.frames ∧ 45 ≤ R.locals) (hrm : (rest.map fun v => v.category).sum ≤ 8) (hd : decode cc pc = .ok (.invokevirtual 178, 3)) {α : Type} {K : Mem → Option α} {res : α} (hf : bnd1 (fX6_hear v1 v2 v3 M) K = some res) (kk : ∀ (M1 : Mem) (H1 : Heap) (locs1 : List Loc), Wd shC D cA ad H0 M1 H1 locs1 → K M1 = some res → W p l e R s m args below meth c H1 locs1 0 0 Q (F0 m (pc + 3) ls rest)) : W p l e R s m args below meth c H locs 0 0 Q (F0 m pc ls (.int v3 :: .int v2 :: .int v1 :: .ref (ad 34) :: rest)) := by
  obtain ⟨M1, h1, h2⟩ := bnd1_some hf
  exact r_aftv hw (r_runV (As := [.int v1, .int v2, .int v3]) F hw hl (cX6_hear_ok l D cA ad M v1 v2 v3 M1 h1) cz6 (show shC[34]? = some (.inr (6, sf6)) from rfl) cwX2_178 hR hrm hd) (fun H1 o1 hw1 => kk M1 H1 o1 hw1 h2)
def fJ9_floorMod_7cf53 (v0 : Int32) (v1 : Int32) : Int32 :=
  if 0 ≤ (v0 ^^^ v1) then
    (jirem v0 v1)
  else
    if (jirem v0 v1) = 0 then
      (jirem v0 v1)
    else
      ((jirem v0 v1) + v1)
set_option maxHeartbeats 4000000 in
set_option maxRecDepth 100000 in
theorem cJ9_floorMod_7cf53_ok (l : Launch) (D : va_G) (cA : Nat → ClassId) (ad : Nat → Nat) (M : Mem)  (v0 v1 : Int32) (hne : ¬ v1 = 0) (r : Int32) (hf : fJ9_floorMod_7cf53 v0 v1 = r) : Ctg l yJ9_floorMod_7cf53 cJ9_floorMod_7cf53 3 (some .int) 0 0 shC D cA ad [.int v0, .int v1] M (Qzi shC D cA ad .int r M) := by
  refine ct_inF (by decide +kernel) (Nat.le_of_ble_eq_true rfl) ?_
  intro p e s m below meth c ls F hl hw
  have hl : lv_has ls 3 [(0, .int v0), (1, .int v1)] := hl
  unfold fJ9_floorMod_7cf53 at hf
  refine lv_iload_n F.1 F.2.1 dJ9_floorMod_7cf53_0 rfl (lv_at hl 0 rfl) ?_
  refine lv_iload_n F.1 F.2.1 dJ9_floorMod_7cf53_1 rfl (lv_at hl 1 rfl) ?_
  refine k_irem F dJ9_floorMod_7cf53_2 hne ?_
  refine lv_istore_n F.1 F.2.1 dJ9_floorMod_7cf53_3 rfl hl (lv' := [(2, .int (jirem v0 v1)), (0, .int v0), (1, .int v1)]) (Nat.le_of_ble_eq_true rfl) rfl (fun ls1 hl => ?_)
  refine lv_iload_n F.1 F.2.1 dJ9_floorMod_7cf53_4 rfl (lv_at hl 1 rfl) ?_
  refine lv_iload_n F.1 F.2.1 dJ9_floorMod_7cf53_5 rfl (lv_at hl 2 rfl) ?_
  refine lv_ixor F.1 F.2.1 dJ9_floorMod_7cf53_6 ?_
  refine b_if_ge F dJ9_floorMod_7cf53_7 (tgt := 18) (by decide) hf (fun hc3 hf => ?_) (fun hc3 hf => ?_)
  · refine lv_iload_n F.1 F.2.1 dJ9_floorMod_7cf53_18 rfl (lv_at hl 0 rfl) ?_
    exact r_iret_t F hw (vp_nar_int _) dJ9_floorMod_7cf53_19 hf
  · refine lv_iload_n F.1 F.2.1 dJ9_floorMod_7cf53_10 rfl (lv_at hl 0 rfl) ?_
    refine b_if_eq F dJ9_floorMod_7cf53_11 (tgt := 18) (by decide) hf (fun hc2 hf => ?_) (fun hc2 hf => ?_)
    · refine lv_iload_n F.1 F.2.1 dJ9_floorMod_7cf53_18 rfl (lv_at hl 0 rfl) ?_
      exact r_iret_t F hw (vp_nar_int _) dJ9_floorMod_7cf53_19 hf
    · refine lv_iload_n F.1 F.2.1 dJ9_floorMod_7cf53_14 rfl (lv_at hl 0 rfl) ?_
      refine lv_iload_n F.1 F.2.1 dJ9_floorMod_7cf53_15 rfl (lv_at hl 2 rfl) ?_
      refine lv_iadd F.1 F.2.1 dJ9_floorMod_7cf53_16 ?_
      exact r_iret_t F hw (vp_nar_int _) dJ9_floorMod_7cf53_17 hf
theorem clX3_43 (F : Fx D cA RX3 cc nL ret p s m args meth c) (hw : Wd shC D cA ad H0 M H locs) (hl : lv_has ls nL lv) {v0 : Int32} {v1 : Int32} (hne : ¬ v1 = 0) (hR : 1 ≤ R.frames ∧ 22 ≤ R.locals) (hrm : (rest.map fun v => v.category).sum ≤ 8) (hd : decode cc pc = .ok (.invokestatic 43, 3)) (kk : ∀ (H1 : Heap) (locs1 : List Loc), Wd shC D cA ad H0 M H1 locs1 → narrow .int (.int (fJ9_floorMod_7cf53 v0 v1)) = .int (fJ9_floorMod_7cf53 v0 v1) → W p l e R s m args below meth c H1 locs1 0 0 Q (F0 m (pc + 3) ls (.int (fJ9_floorMod_7cf53 v0 v1) :: rest))) : W p l e R s m args below meth c H locs 0 0 Q (F0 m pc ls (.int v1 :: .int v0 :: rest)) :=
  r_afti hw (r_runS (As := [.int v0, .int v1]) F hw hl (cJ9_floorMod_7cf53_ok l D cA ad M v0 v1 hne (fJ9_floorMod_7cf53 v0 v1) rfl) cwX3_43 hR hrm hd) (fun H1 o1 hw1 hn => kk H1 o1 hw1 hn)
def fX3_aheadOfLast (x : Nat) (v1 : Int32) (M : Mem) : Int32 :=
  (fJ9_floorMod_7cf53 (v1 - (M x 5)) (64 : Int32))
set_option maxHeartbeats 4000000 in
set_option maxRecDepth 100000 in
theorem cX3_aheadOfLast_ok (l : Launch) (D : va_G) (cA : Nat → ClassId) (ad : Nat → Nat) (M : Mem) {x : Nat} (hx : shC[x]? = some (.inr (3, sf3))) (v1 : Int32) (r : Int32) (hf : fX3_aheadOfLast x v1 M = r) : Ctg l yX3_aheadOfLast cX3_aheadOfLast 2 (some .int) 1 22 shC D cA ad [.ref (ad x), .int v1] M (Qzi shC D cA ad .int r M) := by
  refine ct_in (by decide) (Nat.le_of_ble_eq_true rfl) ?_
  intro p e s m below meth c ls F hl hw
  have hl : lv_has ls 2 [(0, .ref (ad x)), (1, .int v1)] := hl
  unfold fX3_aheadOfLast at hf
  refine lv_iload_n F.1 F.2.1 dX3_aheadOfLast_0 rfl (lv_at hl 1 rfl) ?_
  refine lv_aload_n F.1 F.2.1 dX3_aheadOfLast_1 rfl (lv_at hl 0 rfl) ?_
  refine gX3_31 F hw hx dX3_aheadOfLast_2 ?_
  refine lv_isub F.1 F.2.1 dX3_aheadOfLast_5 ?_
  refine k_bipush_64 F dX3_aheadOfLast_6 ?_
  refine clX3_43 F hw hl (by decide) ⟨Nat.le_of_ble_eq_true rfl, Nat.le_of_ble_eq_true rfl⟩ (Nat.le_of_ble_eq_true rfl) dX3_aheadOfLast_8 (fun H1 o2 hw hn3 => ?_)
  exact r_iret_t F hw (vp_nar_int _) dX3_aheadOfLast_11 hf
theorem clX3_49 (F : Fx D cA RX3 cc nL ret p s m args meth c) (hw : Wd shC D cA ad H0 M H locs) (hl : lv_has ls nL lv) {x : Nat} (hx : shC[x]? = some (.inr (3, sf3))) {v1 : Int32} (hR : 2 ≤ R.frames ∧ 43 ≤ R.locals) (hrm : (rest.map fun v => v.category).sum ≤ 8) (hd : decode cc pc = .ok (.invokevirtual 49, 3)) (kk : ∀ (H1 : Heap) (locs1 : List Loc), Wd shC D cA ad H0 M H1 locs1 → narrow .int (.int (fX3_aheadOfLast x v1 M)) = .int (fX3_aheadOfLast x v1 M) → W p l e R s m args below meth c H1 locs1 0 0 Q (F0 m (pc + 3) ls (.int (fX3_aheadOfLast x v1 M) :: rest))) : W p l e R s m args below meth c H locs 0 0 Q (F0 m pc ls (.int v1 :: .ref (ad x) :: rest)) :=
  r_afti hw (r_runV (As := [.int v1]) F hw hl (cX3_aheadOfLast_ok l D cA ad M hx v1 (fX3_aheadOfLast x v1 M) rfl) cz3 hx cwX3_49 hR hrm hd) (fun H1 o1 hw1 hn => kk H1 o1 hw1 hn)
def fX3_isDue (x : Nat) (v1 : Int32) (M : Mem) : Int32 :=
  if (fX3_aheadOfLast x v1 M) < (1 : Int32) then
    (0 : Int32)
  else
    if (32 : Int32) < (fX3_aheadOfLast x v1 M) then
      (0 : Int32)
    else
      (1 : Int32)
set_option maxHeartbeats 4000000 in
set_option maxRecDepth 100000 in
theorem cX3_isDue_ok (l : Launch) (D : va_G) (cA : Nat → ClassId) (ad : Nat → Nat) (M : Mem) {x : Nat} (hx : shC[x]? = some (.inr (3, sf3))) (v1 : Int32) (r : Int32) (hf : fX3_isDue x v1 M = r) : Ctg l yX3_isDue cX3_isDue 3 (some .boolean) 2 43 shC D cA ad [.ref (ad x), .int v1] M (Qzi shC D cA ad .boolean r M) := by
  refine ct_in (by decide) (Nat.le_of_ble_eq_true rfl) ?_
  intro p e s m below meth c ls F hl hw
  have hl : lv_has ls 3 [(0, .ref (ad x)), (1, .int v1)] := hl
  unfold fX3_isDue at hf
  refine lv_aload_n F.1 F.2.1 dX3_isDue_0 rfl (lv_at hl 0 rfl) ?_
  refine lv_iload_n F.1 F.2.1 dX3_isDue_1 rfl (lv_at hl 1 rfl) ?_
  refine clX3_49 F hw hl hx ⟨Nat.le_of_ble_eq_true rfl, Nat.le_of_ble_eq_true rfl⟩ (Nat.le_of_ble_eq_true rfl) dX3_isDue_2 (fun H1 o2 hw hn3 => ?_)
  refine lv_istore_n F.1 F.2.1 dX3_isDue_5 rfl hl (lv' := [(2, .int (fX3_aheadOfLast x v1 M)), (0, .ref (ad x)), (1, .int v1)]) (Nat.le_of_ble_eq_true rfl) rfl (fun ls4 hl => ?_)
  refine lv_iload_n F.1 F.2.1 dX3_isDue_6 rfl (lv_at hl 0 rfl) ?_
  refine k_iconst_1 F dX3_isDue_7 ?_
  refine b_icmp_lt F dX3_isDue_8 (tgt := 21) (by decide) hf (fun hc6 hf => ?_) (fun hc6 hf => ?_)
  · refine k_iconst_0 F dX3_isDue_21 ?_
    exact r_iret_t F hw rfl dX3_isDue_22 hf
  · refine lv_iload_n F.1 F.2.1 dX3_isDue_11 rfl (lv_at hl 0 rfl) ?_
    refine k_bipush_32 F dX3_isDue_12 ?_
    refine b_icmp_gt F dX3_isDue_14 (tgt := 21) (by decide) hf (fun hc5 hf => ?_) (fun hc5 hf => ?_)
    · refine k_iconst_0 F dX3_isDue_21 ?_
      exact r_iret_t F hw rfl dX3_isDue_22 hf
    · refine k_iconst_1 F dX3_isDue_17 ?_
      refine lv_goto F.1 F.2.1 dX3_isDue_18 (tgt := 22) (by decide) ?_
      exact r_iret_t F hw rfl dX3_isDue_22 hf
theorem clX2_182 (F : Fx D cA RX2 cc nL ret p s m args meth c) (hw : Wd shC D cA ad H0 M H locs) (hl : lv_has ls nL lv) {x : Nat} (hx : shC[x]? = some (.inr (3, sf3))) {v1 : Int32} (hR : 3 ≤ R.frames ∧ 65 ≤ R.locals) (hrm : (rest.map fun v => v.category).sum ≤ 8) (hd : decode cc pc = .ok (.invokevirtual 182, 3)) (kk : ∀ (H1 : Heap) (locs1 : List Loc), Wd shC D cA ad H0 M H1 locs1 → narrow .boolean (.int (fX3_isDue x v1 M)) = .int (fX3_isDue x v1 M) → W p l e R s m args below meth c H1 locs1 0 0 Q (F0 m (pc + 3) ls (.int (fX3_isDue x v1 M) :: rest))) : W p l e R s m args below meth c H locs 0 0 Q (F0 m pc ls (.int v1 :: .ref (ad x) :: rest)) :=
  r_afti hw (r_runV (As := [.int v1]) F hw hl (cX3_isDue_ok l D cA ad M hx v1 (fX3_isDue x v1 M) rfl) cz3 hx cwX2_182 hR hrm hd) (fun H1 o1 hw1 hn => kk H1 o1 hw1 hn)
def fX6_open_L43 : Nat → Int32 → Mem → Option (Mem)
  | 0, _, _ => none
  | n + 1, v4, M =>
    if (4 : Int32) ≤ v4 then
      some M
    else
      ix (((M 34 4) * (4 : Int32)) + v4) 1560 <| wr M 38 (((M 34 4) * (4 : Int32)) + v4).toNatClampNeg (-1 : Int32) fun M15 =>
      fX6_open_L43 n (v4 + (1 : Int32)) M15
def fX6_open (v1 : Int32) (v2 : Int32) (v3 : Int32) (M : Mem) : Option Mem :=
  if (390 : Int32) ≤ (M 34 4) then
    some M
  else
    ix (M 34 4) 390 <| wr M 35 (M 34 4).toNatClampNeg v1 fun M2 =>
    ix (M2 34 4) 390 <| wr M2 36 (M2 34 4).toNatClampNeg v2 fun M6 =>
    ix (M6 34 4) 390 <| wr M6 37 (M6 34 4).toNatClampNeg v3 fun M10 =>
    bnd1 (fX6_open_L43 FUEL (0 : Int32) M10) fun M20 =>
    wr M20 34 4 ((M20 34 4) + (1 : Int32)) fun M24 =>
    some M24
set_option maxHeartbeats 4000000 in
set_option maxRecDepth 100000 in
theorem wX6_open_L43 {p : Program} {l : Launch} {e : Env} {s : State} {m : MethodId} {args : Array Value} {below : List Frame} {meth : Method} {c : Code} {D : va_G} {cA : Nat → ClassId} {ad : Nat → Nat} {Q : State → Prop} (F : Fx D cA RX6 cX6_open 5 none p s m args meth c) : ∀ (n : Nat) (v4 : Int32) (M : Mem) (H : Heap) (o : List Loc) (ls : Array Slot), lv_has ls 5 [(0, .ref (ad 34)), (4, .int v4)] → Wd shC D cA ad s.heap M H o → ∀ (M' : Mem), fX6_open_L43 n v4 M = some M' → (∀ (H1 : Heap) (o1 : List Loc) (ls1 : Array Slot), lv_has ls1 5 [(0, .ref (ad 34))] → Wd shC D cA ad s.heap M' H1 o1 → W p l e (rz 0 0) s m args below meth c H1 o1 0 0 Q (F0 m 70 ls1 [])) → W p l e (rz 0 0) s m args below meth c H o 0 0 Q (F0 m 43 ls []) := by
  intro n
  induction n with
  | zero =>
    intro v4 M H o ls hl hw M' hf kk
    cases hf
  | succ n ih =>
    intro v4 M H o ls hl hw M' hf kk
    rw [fX6_open_L43] at hf
    refine lv_iload F.1 F.2.1 dX6_open_43 (lv_at hl 1 rfl) ?_
    refine k_iconst_4 F dX6_open_45 ?_
    refine b_icmp_ge F dX6_open_46 (tgt := 70) (by decide) hf (fun hc19 hf => ?_) (fun hc19 hf => ?_)
    · cases hf
      exact kk _ _ _ (lv_sub hl [0] rfl) hw
    · refine lv_aload_n F.1 F.2.1 dX6_open_49 rfl (lv_at hl 0 rfl) ?_
      refine gX6_21 F hw rfl dX6_open_50 ?_
      refine lv_aload_n F.1 F.2.1 dX6_open_53 rfl (lv_at hl 0 rfl) ?_
      refine gX6_24 F hw rfl dX6_open_54 ?_
      refine k_iconst_4 F dX6_open_57 ?_
      refine lv_imul F.1 F.2.1 dX6_open_58 ?_
      refine lv_iload F.1 F.2.1 dX6_open_59 (lv_at hl 1 rfl) ?_
      refine lv_iadd F.1 F.2.1 dX6_open_61 ?_
      refine k_iconst_m1 F dX6_open_62 ?_
      refine r_iast F hw (n := 1560) rfl dX6_open_63 hf (fun hi14 M15 H16 o17 hw hf => ?_)
      refine lv_iinc F.1 F.2.1 dX6_open_64 hl (k := 1) rfl (ki_1 _) (lv' := [(4, .int (v4 + (1 : Int32))), (0, .ref (ad 34))]) (Nat.le_of_ble_eq_true rfl) rfl (fun ls18 hl => ?_)
      refine lv_goto F.1 F.2.1 dX6_open_67 (tgt := 43) (by decide) ?_
      exact ih (v4 + (1 : Int32)) M15 _ _ _ (lv_sub hl [1, 0] rfl) hw  M' hf kk
set_option maxHeartbeats 4000000 in
set_option maxRecDepth 100000 in
theorem cX6_open_ok (l : Launch) (D : va_G) (cA : Nat → ClassId) (ad : Nat → Nat) (M : Mem) (v1 : Int32) (v2 : Int32) (v3 : Int32) (M' : Mem) (hf : fX6_open v1 v2 v3 M = some M') : Ctg l yX6_open cX6_open 5 none 0 0 shC D cA ad [.ref (ad 34), .int v1, .int v2, .int v3] M (Qzv shC D cA ad M') := by
  refine ct_in (by decide) (Nat.le_of_ble_eq_true rfl) ?_
  intro p e s m below meth c ls F hl hw
  have hl : lv_has ls 5 [(0, .ref (ad 34)), (1, .int v1), (2, .int v2), (3, .int v3)] := hl
  unfold fX6_open at hf
  refine lv_aload_n F.1 F.2.1 dX6_open_0 rfl (lv_at hl 0 rfl) ?_
  refine gX6_24 F hw rfl dX6_open_1 ?_
  refine k_sipush_390 F dX6_open_4 ?_
  refine b_icmp_ge F dX6_open_7 (tgt := 80) (by decide) hf (fun hc28 hf => ?_) (fun hc28 hf => ?_)
  · exact r_vret_w F hw dX6_open_80 hf
  · refine lv_aload_n F.1 F.2.1 dX6_open_10 rfl (lv_at hl 0 rfl) ?_
    refine gX6_9 F hw rfl dX6_open_11 ?_
    refine lv_aload_n F.1 F.2.1 dX6_open_14 rfl (lv_at hl 0 rfl) ?_
    refine gX6_24 F hw rfl dX6_open_15 ?_
    refine lv_iload_n F.1 F.2.1 dX6_open_18 rfl (lv_at hl 1 rfl) ?_
    refine r_iast F hw (n := 390) rfl dX6_open_19 hf (fun hi1 M2 H3 o4 hw hf => ?_)
    refine lv_aload_n F.1 F.2.1 dX6_open_20 rfl (lv_at hl 0 rfl) ?_
    refine gX6_15 F hw rfl dX6_open_21 ?_
    refine lv_aload_n F.1 F.2.1 dX6_open_24 rfl (lv_at hl 0 rfl) ?_
    refine gX6_24 F hw rfl dX6_open_25 ?_
    refine lv_iload_n F.1 F.2.1 dX6_open_28 rfl (lv_at hl 2 rfl) ?_
    refine r_iast F hw (n := 390) rfl dX6_open_29 hf (fun hi5 M6 H7 o8 hw hf => ?_)
    refine lv_aload_n F.1 F.2.1 dX6_open_30 rfl (lv_at hl 0 rfl) ?_
    refine gX6_18 F hw rfl dX6_open_31 ?_
    refine lv_aload_n F.1 F.2.1 dX6_open_34 rfl (lv_at hl 0 rfl) ?_
    refine gX6_24 F hw rfl dX6_open_35 ?_
    refine lv_iload_n F.1 F.2.1 dX6_open_38 rfl (lv_at hl 3 rfl) ?_
    refine r_iast F hw (n := 390) rfl dX6_open_39 hf (fun hi9 M10 H11 o12 hw hf => ?_)
    refine k_iconst_0 F dX6_open_40 ?_
    refine lv_istore F.1 F.2.1 dX6_open_41 hl (lv' := [(4, .int (0 : Int32)), (0, .ref (ad 34)), (1, .int v1), (2, .int v2), (3, .int v3)]) (Nat.le_of_ble_eq_true rfl) rfl (fun ls13 hl => ?_)
    obtain ⟨M20, hq27, hf⟩ := bnd1_some hf
    refine wX6_open_L43 F FUEL (0 : Int32) M10 _ _ _ (lv_sub hl [1, 0] rfl) hw M20 hq27 (fun H21 o22 ls23 hl hw => ?_)
    refine lv_aload_n F.1 F.2.1 dX6_open_70 rfl (lv_at hl 0 rfl) ?_
    refine lv_dup F.1 F.2.1 dX6_open_71 rfl ?_
    refine gX6_24 F hw rfl dX6_open_72 ?_
    refine k_iconst_1 F dX6_open_75 ?_
    refine lv_iadd F.1 F.2.1 dX6_open_76 ?_
    refine qX6_24 F hw rfl dX6_open_77 hf (fun M24 H25 o26 hw hf => ?_)
    exact r_vret_w F hw dX6_open_80 hf
theorem clX2_186 (F : Fx D cA RX2 cc nL ret p s m args meth c) (hw : Wd shC D cA ad H0 M H locs) (hl : lv_has ls nL lv) {v1 : Int32} {v2 : Int32} {v3 : Int32} (hR : 1 ≤ R.frames ∧ 24 ≤ R.locals) (hrm : (rest.map fun v => v.category).sum ≤ 8) (hd : decode cc pc = .ok (.invokevirtual 186, 3)) {α : Type} {K : Mem → Option α} {res : α} (hf : bnd1 (fX6_open v1 v2 v3 M) K = some res) (kk : ∀ (M1 : Mem) (H1 : Heap) (locs1 : List Loc), Wd shC D cA ad H0 M1 H1 locs1 → K M1 = some res → W p l e R s m args below meth c H1 locs1 0 0 Q (F0 m (pc + 3) ls rest)) : W p l e R s m args below meth c H locs 0 0 Q (F0 m pc ls (.int v3 :: .int v2 :: .int v1 :: .ref (ad 34) :: rest)) := by
  obtain ⟨M1, h1, h2⟩ := bnd1_some hf
  exact r_aftv hw (r_runV (As := [.int v1, .int v2, .int v3]) F hw hl (cX6_open_ok l D cA ad M v1 v2 v3 M1 h1) cz6 (show shC[34]? = some (.inr (6, sf6)) from rfl) cwX2_186 hR hrm hd) (fun H1 o1 hw1 => kk M1 H1 o1 hw1 h2)
def fX6_heardAt (v1 : Int32) (v2 : Int32) (M : Mem) : Option Int32 :=
  ix ((v1 * (4 : Int32)) + v2) 1560 <|
  some (M 38 ((v1 * (4 : Int32)) + v2).toNatClampNeg)
set_option maxHeartbeats 4000000 in
set_option maxRecDepth 100000 in
theorem cX6_heardAt_ok (l : Launch) (D : va_G) (cA : Nat → ClassId) (ad : Nat → Nat) (M : Mem) (v1 : Int32) (v2 : Int32) (r : Int32) (hf : fX6_heardAt v1 v2 M = some r) : Ctg l yX6_heardAt cX6_heardAt 3 (some .int) 0 0 shC D cA ad [.ref (ad 34), .int v1, .int v2] M (Qzi shC D cA ad .int r M) := by
  refine ct_in (by decide) (Nat.le_of_ble_eq_true rfl) ?_
  intro p e s m below meth c ls F hl hw
  have hl : lv_has ls 3 [(0, .ref (ad 34)), (1, .int v1), (2, .int v2)] := hl
  unfold fX6_heardAt at hf
  refine lv_aload_n F.1 F.2.1 dX6_heardAt_0 rfl (lv_at hl 0 rfl) ?_
  refine gX6_21 F hw rfl dX6_heardAt_1 ?_
  refine lv_iload_n F.1 F.2.1 dX6_heardAt_4 rfl (lv_at hl 1 rfl) ?_
  refine k_iconst_4 F dX6_heardAt_5 ?_
  refine lv_imul F.1 F.2.1 dX6_heardAt_6 ?_
  refine lv_iload_n F.1 F.2.1 dX6_heardAt_7 rfl (lv_at hl 2 rfl) ?_
  refine lv_iadd F.1 F.2.1 dX6_heardAt_8 ?_
  refine r_iald F hw (n := 1560) rfl dX6_heardAt_9 hf (fun hi1 hf => ?_)
  exact r_iret_o F hw (vp_nar_int _) dX6_heardAt_10 hf
theorem clX2_227 (F : Fx D cA RX2 cc nL ret p s m args meth c) (hw : Wd shC D cA ad H0 M H locs) (hl : lv_has ls nL lv) {v1 : Int32} {v2 : Int32} (hR : 1 ≤ R.frames ∧ 22 ≤ R.locals) (hrm : (rest.map fun v => v.category).sum ≤ 8) (hd : decode cc pc = .ok (.invokevirtual 227, 3)) {α : Type} {K : Int32 → Option α} {res : α} (hf : bnd1 (fX6_heardAt v1 v2 M) K = some res) (kk : ∀ (t : Int32) (H1 : Heap) (locs1 : List Loc), Wd shC D cA ad H0 M H1 locs1 → narrow .int (.int t) = .int t → K t = some res → W p l e R s m args below meth c H1 locs1 0 0 Q (F0 m (pc + 3) ls (.int t :: rest))) : W p l e R s m args below meth c H locs 0 0 Q (F0 m pc ls (.int v2 :: .int v1 :: .ref (ad 34) :: rest)) := by
  obtain ⟨t, h1, h2⟩ := bnd1_some hf
  exact r_afti hw (r_runV (As := [.int v1, .int v2]) F hw hl (cX6_heardAt_ok l D cA ad M v1 v2 t h1) cz6 (show shC[34]? = some (.inr (6, sf6)) from rfl) cwX2_227 hR hrm hd) (fun H1 o1 hw1 hn => kk t H1 o1 hw1 hn h2)
theorem clX6_34 (F : Fx D cA RX6 cc nL ret p s m args meth c) (hw : Wd shC D cA ad H0 M H locs) (hl : lv_has ls nL lv) {v1 : Int32} {v2 : Int32} (hR : 1 ≤ R.frames ∧ 22 ≤ R.locals) (hrm : (rest.map fun v => v.category).sum ≤ 8) (hd : decode cc pc = .ok (.invokevirtual 34, 3)) {α : Type} {K : Int32 → Option α} {res : α} (hf : bnd1 (fX6_heardAt v1 v2 M) K = some res) (kk : ∀ (t : Int32) (H1 : Heap) (locs1 : List Loc), Wd shC D cA ad H0 M H1 locs1 → narrow .int (.int t) = .int t → K t = some res → W p l e R s m args below meth c H1 locs1 0 0 Q (F0 m (pc + 3) ls (.int t :: rest))) : W p l e R s m args below meth c H locs 0 0 Q (F0 m pc ls (.int v2 :: .int v1 :: .ref (ad 34) :: rest)) := by
  obtain ⟨t, h1, h2⟩ := bnd1_some hf
  exact r_afti hw (r_runV (As := [.int v1, .int v2]) F hw hl (cX6_heardAt_ok l D cA ad M v1 v2 t h1) cz6 (show shC[34]? = some (.inr (6, sf6)) from rfl) cwX6_34 hR hrm hd) (fun H1 o1 hw1 hn => kk t H1 o1 hw1 hn h2)
def fX6_bestGate_L4 : Nat → Int32 → Int32 → Int32 → Mem → Option (Int32)
  | 0, _, _, _, _ => none
  | n + 1, v1, v2, v3, M =>
    if (4 : Int32) ≤ v3 then
      some v2
    else
      bnd1 (fX6_heardAt v1 v3 M) fun t6 =>
      bnd1 (fX6_heardAt v1 v2 M) fun t10 =>
      if t6 ≤ t10 then
        fX6_bestGate_L4 n v1 v2 (v3 + (1 : Int32)) M
      else
        fX6_bestGate_L4 n v1 v3 (v3 + (1 : Int32)) M
def fX6_bestGate (v1 : Int32) (M : Mem) : Option Int32 :=
  bnd1 (fX6_bestGate_L4 FUEL v1 (0 : Int32) (1 : Int32) M) fun w16 =>
  some w16
set_option maxHeartbeats 4000000 in
set_option maxRecDepth 100000 in
theorem wX6_bestGate_L4 {p : Program} {l : Launch} {e : Env} {s : State} {m : MethodId} {args : Array Value} {below : List Frame} {meth : Method} {c : Code} {D : va_G} {cA : Nat → ClassId} {ad : Nat → Nat} {Q : State → Prop} (F : Fx D cA RX6 cX6_bestGate 4 (some .int) p s m args meth c) : ∀ (n : Nat) (v1 : Int32) (v2 : Int32) (v3 : Int32) (M : Mem) (H : Heap) (o : List Loc) (ls : Array Slot), lv_has ls 4 [(0, .ref (ad 34)), (1, .int v1), (2, .int v2), (3, .int v3)] → Wd shC D cA ad s.heap M H o → ∀ (u2 : Int32), fX6_bestGate_L4 n v1 v2 v3 M = some u2 → (∀ (H1 : Heap) (o1 : List Loc) (ls1 : Array Slot), lv_has ls1 4 [(2, .int u2)] → Wd shC D cA ad s.heap M H1 o1 → W p l e (rz 1 22) s m args below meth c H1 o1 0 0 Q (F0 m 32 ls1 [])) → W p l e (rz 1 22) s m args below meth c H o 0 0 Q (F0 m 4 ls []) := by
  intro n
  induction n with
  | zero =>
    intro v1 v2 v3 M H o ls hl hw u2 hf kk
    cases hf
  | succ n ih =>
    intro v1 v2 v3 M H o ls hl hw u2 hf kk
    rw [fX6_bestGate_L4] at hf
    refine lv_iload_n F.1 F.2.1 dX6_bestGate_4 rfl (lv_at hl 3 rfl) ?_
    refine k_iconst_4 F dX6_bestGate_5 ?_
    refine b_icmp_ge F dX6_bestGate_6 (tgt := 32) (by decide) hf (fun hc15 hf => ?_) (fun hc15 hf => ?_)
    · cases hf
      exact kk _ _ _ (lv_sub hl [2] rfl) hw
    · refine lv_aload_n F.1 F.2.1 dX6_bestGate_9 rfl (lv_at hl 0 rfl) ?_
      refine lv_iload_n F.1 F.2.1 dX6_bestGate_10 rfl (lv_at hl 1 rfl) ?_
      refine lv_iload_n F.1 F.2.1 dX6_bestGate_11 rfl (lv_at hl 3 rfl) ?_
      refine clX6_34 F hw hl ⟨Nat.le_of_ble_eq_true rfl, Nat.le_of_ble_eq_true rfl⟩ (Nat.le_of_ble_eq_true rfl) dX6_bestGate_12 hf (fun t6 H3 o4 hw hn5 hf => ?_)
      refine lv_aload_n F.1 F.2.1 dX6_bestGate_15 rfl (lv_at hl 0 rfl) ?_
      refine lv_iload_n F.1 F.2.1 dX6_bestGate_16 rfl (lv_at hl 1 rfl) ?_
      refine lv_iload_n F.1 F.2.1 dX6_bestGate_17 rfl (lv_at hl 2 rfl) ?_
      refine clX6_34 F hw hl ⟨Nat.le_of_ble_eq_true rfl, Nat.le_of_ble_eq_true rfl⟩ (Nat.le_of_ble_eq_true rfl) dX6_bestGate_18 hf (fun t10 H7 o8 hw hn9 hf => ?_)
      refine b_icmp_le F dX6_bestGate_21 (tgt := 26) (by decide) hf (fun hc14 hf => ?_) (fun hc14 hf => ?_)
      · refine lv_iinc F.1 F.2.1 dX6_bestGate_26 hl (k := 3) rfl (ki_1 _) (lv' := [(3, .int (v3 + (1 : Int32))), (0, .ref (ad 34)), (1, .int v1), (2, .int v2)]) (Nat.le_of_ble_eq_true rfl) rfl (fun ls11 hl => ?_)
        refine lv_goto F.1 F.2.1 dX6_bestGate_29 (tgt := 4) (by decide) ?_
        exact ih v1 v2 (v3 + (1 : Int32)) M _ _ _ (lv_sub hl [1, 2, 3, 0] rfl) hw u2 hf kk
      · refine lv_iload_n F.1 F.2.1 dX6_bestGate_24 rfl (lv_at hl 3 rfl) ?_
        refine lv_istore_n F.1 F.2.1 dX6_bestGate_25 rfl hl (lv' := [(2, .int v3), (0, .ref (ad 34)), (1, .int v1), (3, .int v3)]) (Nat.le_of_ble_eq_true rfl) rfl (fun ls12 hl => ?_)
        refine lv_iinc F.1 F.2.1 dX6_bestGate_26 hl (k := 3) rfl (ki_1 _) (lv' := [(3, .int (v3 + (1 : Int32))), (2, .int v3), (0, .ref (ad 34)), (1, .int v1)]) (Nat.le_of_ble_eq_true rfl) rfl (fun ls13 hl => ?_)
        refine lv_goto F.1 F.2.1 dX6_bestGate_29 (tgt := 4) (by decide) ?_
        exact ih v1 v3 (v3 + (1 : Int32)) M _ _ _ (lv_sub hl [2, 3, 1, 0] rfl) hw u2 hf kk
set_option maxHeartbeats 4000000 in
set_option maxRecDepth 100000 in
theorem cX6_bestGate_ok (l : Launch) (D : va_G) (cA : Nat → ClassId) (ad : Nat → Nat) (M : Mem) (v1 : Int32) (r : Int32) (hf : fX6_bestGate v1 M = some r) : Ctg l yX6_bestGate cX6_bestGate 4 (some .int) 1 22 shC D cA ad [.ref (ad 34), .int v1] M (Qzi shC D cA ad .int r M) := by
  refine ct_in (by decide) (Nat.le_of_ble_eq_true rfl) ?_
  intro p e s m below meth c ls F hl hw
  have hl : lv_has ls 4 [(0, .ref (ad 34)), (1, .int v1)] := hl
  unfold fX6_bestGate at hf
  refine k_iconst_0 F dX6_bestGate_0 ?_
  refine lv_istore_n F.1 F.2.1 dX6_bestGate_1 rfl hl (lv' := [(2, .int (0 : Int32)), (0, .ref (ad 34)), (1, .int v1)]) (Nat.le_of_ble_eq_true rfl) rfl (fun ls1 hl => ?_)
  refine k_iconst_1 F dX6_bestGate_2 ?_
  refine lv_istore_n F.1 F.2.1 dX6_bestGate_3 rfl hl (lv' := [(3, .int (1 : Int32)), (2, .int (0 : Int32)), (0, .ref (ad 34)), (1, .int v1)]) (Nat.le_of_ble_eq_true rfl) rfl (fun ls2 hl => ?_)
  obtain ⟨w16, hq20, hf⟩ := bnd1_some hf
  refine wX6_bestGate_L4 F FUEL v1 (0 : Int32) (1 : Int32) M _ _ _ (lv_sub hl [2, 3, 1, 0] rfl) hw w16 hq20 (fun H17 o18 ls19 hl hw => ?_)
  refine lv_iload_n F.1 F.2.1 dX6_bestGate_32 rfl (lv_at hl 0 rfl) ?_
  exact r_iret_o F hw (vp_nar_int _) dX6_bestGate_33 hf
theorem clX2_220 (F : Fx D cA RX2 cc nL ret p s m args meth c) (hw : Wd shC D cA ad H0 M H locs) (hl : lv_has ls nL lv) {v1 : Int32} (hR : 2 ≤ R.frames ∧ 45 ≤ R.locals) (hrm : (rest.map fun v => v.category).sum ≤ 8) (hd : decode cc pc = .ok (.invokevirtual 220, 3)) {α : Type} {K : Int32 → Option α} {res : α} (hf : bnd1 (fX6_bestGate v1 M) K = some res) (kk : ∀ (t : Int32) (H1 : Heap) (locs1 : List Loc), Wd shC D cA ad H0 M H1 locs1 → narrow .int (.int t) = .int t → K t = some res → W p l e R s m args below meth c H1 locs1 0 0 Q (F0 m (pc + 3) ls (.int t :: rest))) : W p l e R s m args below meth c H locs 0 0 Q (F0 m pc ls (.int v1 :: .ref (ad 34) :: rest)) := by
  obtain ⟨t, h1, h2⟩ := bnd1_some hf
  exact r_afti hw (r_runV (As := [.int v1]) F hw hl (cX6_bestGate_ok l D cA ad M v1 t h1) cz6 (show shC[34]? = some (.inr (6, sf6)) from rfl) cwX2_220 hR hrm hd) (fun H1 o1 hw1 hn => kk t H1 o1 hw1 hn h2)
def fX3_takeLetter (x : Nat) (v1 : Int32) (v2 : Int32) (M : Mem) : Option Mem :=
  wr M x 9 ((M x 9) + ((fX3_aheadOfLast x v1 M) - (1 : Int32))) fun M4 =>
  wr M4 x 5 v1 fun M7 =>
  wr M7 x 8 ((M7 x 8) + (1 : Int32)) fun M10 =>
  jn (fun (M13 : Mem) =>
    ix (M13 x 7) 4 <| wr M13 (x + 6) (M13 x 7).toNatClampNeg v2 fun M19 =>
    wr M19 x 7 ((M19 x 7) + (1 : Int32)) fun M22 =>
    some M22) fun j17 =>
  if (M10 x 7) < (4 : Int32) then
    j17 M10
  else
    cpy M10 (x + 6) 4 (x + 6) 4 (1 : Int32) (0 : Int32) (3 : Int32) fun M25 =>
    wr M25 x 7 (3 : Int32) fun M28 =>
    j17 M28
set_option maxHeartbeats 4000000 in
set_option maxRecDepth 100000 in
theorem cX3_takeLetter_ok (l : Launch) (D : va_G) (cA : Nat → ClassId) (ad : Nat → Nat) (M : Mem) {x : Nat} (hx : shC[x]? = some (.inr (3, sf3))) (v1 : Int32) (v2 : Int32) (M' : Mem) (hf : fX3_takeLetter x v1 v2 M = some M') : Ctg l yX3_takeLetter cX3_takeLetter 3 none 2 43 shC D cA ad [.ref (ad x), .int v1, .int v2] M (Qzv shC D cA ad M') := by
  refine ct_in (by decide) (Nat.le_of_ble_eq_true rfl) ?_
  intro p e s m below meth c ls F hl hw
  have hl : lv_has ls 3 [(0, .ref (ad x)), (1, .int v1), (2, .int v2)] := hl
  unfold fX3_takeLetter at hf
  refine lv_aload_n F.1 F.2.1 dX3_takeLetter_0 rfl (lv_at hl 0 rfl) ?_
  refine lv_dup F.1 F.2.1 dX3_takeLetter_1 rfl ?_
  refine gX3_40 F hw hx dX3_takeLetter_2 ?_
  refine lv_aload_n F.1 F.2.1 dX3_takeLetter_5 rfl (lv_at hl 0 rfl) ?_
  refine lv_iload_n F.1 F.2.1 dX3_takeLetter_6 rfl (lv_at hl 1 rfl) ?_
  refine clX3_49 F hw hl hx ⟨Nat.le_of_ble_eq_true rfl, Nat.le_of_ble_eq_true rfl⟩ (Nat.le_of_ble_eq_true rfl) dX3_takeLetter_7 (fun H1 o2 hw hn3 => ?_)
  refine k_iconst_1 F dX3_takeLetter_10 ?_
  refine lv_isub F.1 F.2.1 dX3_takeLetter_11 ?_
  refine lv_iadd F.1 F.2.1 dX3_takeLetter_12 ?_
  refine qX3_40 F hw hx dX3_takeLetter_13 hf (fun M4 H5 o6 hw hf => ?_)
  refine lv_aload_n F.1 F.2.1 dX3_takeLetter_16 rfl (lv_at hl 0 rfl) ?_
  refine lv_iload_n F.1 F.2.1 dX3_takeLetter_17 rfl (lv_at hl 1 rfl) ?_
  refine qX3_31 F hw hx dX3_takeLetter_18 hf (fun M7 H8 o9 hw hf => ?_)
  refine lv_aload_n F.1 F.2.1 dX3_takeLetter_21 rfl (lv_at hl 0 rfl) ?_
  refine lv_dup F.1 F.2.1 dX3_takeLetter_22 rfl ?_
  refine gX3_37 F hw hx dX3_takeLetter_23 ?_
  refine k_iconst_1 F dX3_takeLetter_26 ?_
  refine lv_iadd F.1 F.2.1 dX3_takeLetter_27 ?_
  refine qX3_37 F hw hx dX3_takeLetter_28 hf (fun M10 H11 o12 hw hf => ?_)
  refine lv_aload_n F.1 F.2.1 dX3_takeLetter_31 rfl (lv_at hl 0 rfl) ?_
  refine gX3_34 F hw hx dX3_takeLetter_32 ?_
  refine k_iconst_4 F dX3_takeLetter_35 ?_
  refine jn_go1 (fun (M13 : Mem) => ∀ (H14 : Heap) (o15 : List Loc) (ls16 : Array Slot), lv_has ls16 3 [(0, .ref (ad x)), (2, .int v2)] → Wd shC D cA ad s.heap M13 H14 o15 → W p l e (rz 2 43) s m ([.ref (ad x), .int v1, .int v2] : List Value).toArray below meth c H14 o15 0 0 (MQ below (Qzv shC D cA ad M') ([.ref (ad x), .int v1, .int v2] : List Value).toArray s 0 0 (Az shC ad)) (F0 m 58 ls16 [])) hf (fun M13 hf H14 o15 ls16 hl hw => ?_) (fun j17 Jj17 hf => ?_)
  · refine lv_aload_n F.1 F.2.1 dX3_takeLetter_58 rfl (lv_at hl 0 rfl) ?_
    refine gX3_9 F hw hx dX3_takeLetter_59 ?_
    refine lv_aload_n F.1 F.2.1 dX3_takeLetter_62 rfl (lv_at hl 0 rfl) ?_
    refine gX3_34 F hw hx dX3_takeLetter_63 ?_
    refine lv_iload_n F.1 F.2.1 dX3_takeLetter_66 rfl (lv_at hl 1 rfl) ?_
    refine r_iast F hw (n := 4) (sh_marg hx) dX3_takeLetter_67 hf (fun hi18 M19 H20 o21 hw hf => ?_)
    refine lv_aload_n F.1 F.2.1 dX3_takeLetter_68 rfl (lv_at hl 0 rfl) ?_
    refine lv_dup F.1 F.2.1 dX3_takeLetter_69 rfl ?_
    refine gX3_34 F hw hx dX3_takeLetter_70 ?_
    refine k_iconst_1 F dX3_takeLetter_73 ?_
    refine lv_iadd F.1 F.2.1 dX3_takeLetter_74 ?_
    refine qX3_34 F hw hx dX3_takeLetter_75 hf (fun M22 H23 o24 hw hf => ?_)
    exact r_vret_w F hw dX3_takeLetter_78 hf
  · refine b_icmp_lt F dX3_takeLetter_36 (tgt := 58) (by decide) hf (fun hc31 hf => ?_) (fun hc31 hf => ?_)
    · exact Jj17 M10 hf _ _ _ (lv_sub hl [0, 2] rfl) hw
    · refine lv_aload_n F.1 F.2.1 dX3_takeLetter_39 rfl (lv_at hl 0 rfl) ?_
      refine gX3_9 F hw hx dX3_takeLetter_40 ?_
      refine k_iconst_1 F dX3_takeLetter_43 ?_
      refine lv_aload_n F.1 F.2.1 dX3_takeLetter_44 rfl (lv_at hl 0 rfl) ?_
      refine gX3_9 F hw hx dX3_takeLetter_45 ?_
      refine k_iconst_0 F dX3_takeLetter_48 ?_
      refine k_iconst_3 F dX3_takeLetter_49 ?_
      refine k_copy F hw hl kw_574 (sh_marg hx) (sh_marg hx) ⟨Nat.le_of_ble_eq_true rfl, Nat.le_of_ble_eq_true rfl⟩ dX3_takeLetter_50 hf (fun M25 H26 o27 hw hf => ?_)
      refine lv_aload_n F.1 F.2.1 dX3_takeLetter_53 rfl (lv_at hl 0 rfl) ?_
      refine k_iconst_3 F dX3_takeLetter_54 ?_
      refine qX3_34 F hw hx dX3_takeLetter_55 hf (fun M28 H29 o30 hw hf => ?_)
      exact Jj17 M28 hf _ _ _ (lv_sub hl [0, 2] rfl) hw
theorem clX2_230 (F : Fx D cA RX2 cc nL ret p s m args meth c) (hw : Wd shC D cA ad H0 M H locs) (hl : lv_has ls nL lv) {x : Nat} (hx : shC[x]? = some (.inr (3, sf3))) {v1 : Int32} {v2 : Int32} (hR : 3 ≤ R.frames ∧ 65 ≤ R.locals) (hrm : (rest.map fun v => v.category).sum ≤ 8) (hd : decode cc pc = .ok (.invokevirtual 230, 3)) {α : Type} {K : Mem → Option α} {res : α} (hf : bnd1 (fX3_takeLetter x v1 v2 M) K = some res) (kk : ∀ (M1 : Mem) (H1 : Heap) (locs1 : List Loc), Wd shC D cA ad H0 M1 H1 locs1 → K M1 = some res → W p l e R s m args below meth c H1 locs1 0 0 Q (F0 m (pc + 3) ls rest)) : W p l e R s m args below meth c H locs 0 0 Q (F0 m pc ls (.int v2 :: .int v1 :: .ref (ad x) :: rest)) := by
  obtain ⟨M1, h1, h2⟩ := bnd1_some hf
  exact r_aftv hw (r_runV (As := [.int v1, .int v2]) F hw hl (cX3_takeLetter_ok l D cA ad M hx v1 v2 M1 h1) cz3 hx cwX2_230 hR hrm hd) (fun H1 o1 hw1 => kk M1 H1 o1 hw1 h2)
def fX3_greatestMargin_L4 : Nat → Nat → Int32 → Int32 → Mem → Option (Int32)
  | 0, _, _, _, _ => none
  | n + 1, x, v1, v2, M =>
    if (M x 7) ≤ v2 then
      some v1
    else
      if (4 : Int32) ≤ v2 then
        some v1
      else
        ix v2 4 <|
        fX3_greatestMargin_L4 n x (jmax v1 (M (x + 6) v2.toNatClampNeg)) (v2 + (1 : Int32)) M
def fX3_greatestMargin (x : Nat) (M : Mem) : Option Int32 :=
  bnd1 (fX3_greatestMargin_L4 FUEL x (-1 : Int32) (0 : Int32) M) fun w8 =>
  some w8
set_option maxHeartbeats 4000000 in
set_option maxRecDepth 100000 in
theorem wX3_greatestMargin_L4 {p : Program} {l : Launch} {e : Env} {s : State} {m : MethodId} {args : Array Value} {below : List Frame} {meth : Method} {c : Code} {D : va_G} {cA : Nat → ClassId} {ad : Nat → Nat} {Q : State → Prop} (F : Fx D cA RX3 cX3_greatestMargin 3 (some .int) p s m args meth c) {x : Nat} (hx : shC[x]? = some (.inr (3, sf3))) : ∀ (n : Nat) (v1 : Int32) (v2 : Int32) (M : Mem) (H : Heap) (o : List Loc) (ls : Array Slot), lv_has ls 3 [(0, .ref (ad x)), (1, .int v1), (2, .int v2)] → Wd shC D cA ad s.heap M H o → ∀ (u1 : Int32), fX3_greatestMargin_L4 n x v1 v2 M = some u1 → (∀ (H1 : Heap) (o1 : List Loc) (ls1 : Array Slot), lv_has ls1 3 [(1, .int u1)] → Wd shC D cA ad s.heap M H1 o1 → W p l e (rz 1 21) s m args below meth c H1 o1 0 0 Q (F0 m 34 ls1 [])) → W p l e (rz 1 21) s m args below meth c H o 0 0 Q (F0 m 4 ls []) := by
  intro n
  induction n with
  | zero =>
    intro v1 v2 M H o ls hl hw u1 hf kk
    cases hf
  | succ n ih =>
    intro v1 v2 M H o ls hl hw u1 hf kk
    rw [fX3_greatestMargin_L4] at hf
    refine lv_iload_n F.1 F.2.1 dX3_greatestMargin_4 rfl (lv_at hl 2 rfl) ?_
    refine lv_aload_n F.1 F.2.1 dX3_greatestMargin_5 rfl (lv_at hl 0 rfl) ?_
    refine gX3_34 F hw hx dX3_greatestMargin_6 ?_
    refine b_icmp_ge F dX3_greatestMargin_9 (tgt := 34) (by decide) hf (fun hc7 hf => ?_) (fun hc7 hf => ?_)
    · cases hf
      exact kk _ _ _ (lv_sub hl [1] rfl) hw
    · refine lv_iload_n F.1 F.2.1 dX3_greatestMargin_12 rfl (lv_at hl 2 rfl) ?_
      refine k_iconst_4 F dX3_greatestMargin_13 ?_
      refine b_icmp_ge F dX3_greatestMargin_14 (tgt := 34) (by decide) hf (fun hc6 hf => ?_) (fun hc6 hf => ?_)
      · cases hf
        exact kk _ _ _ (lv_sub hl [1] rfl) hw
      · refine lv_iload_n F.1 F.2.1 dX3_greatestMargin_17 rfl (lv_at hl 1 rfl) ?_
        refine lv_aload_n F.1 F.2.1 dX3_greatestMargin_18 rfl (lv_at hl 0 rfl) ?_
        refine gX3_9 F hw hx dX3_greatestMargin_19 ?_
        refine lv_iload_n F.1 F.2.1 dX3_greatestMargin_22 rfl (lv_at hl 2 rfl) ?_
        refine r_iald F hw (n := 4) (sh_marg hx) dX3_greatestMargin_23 hf (fun hi3 hf => ?_)
        refine k_max F hl kw_581 ⟨Nat.le_of_ble_eq_true rfl, Nat.le_of_ble_eq_true rfl⟩ dX3_greatestMargin_24 ?_
        refine lv_istore_n F.1 F.2.1 dX3_greatestMargin_27 rfl hl (lv' := [(1, .int (jmax v1 (M (x + 6) v2.toNatClampNeg))), (0, .ref (ad x)), (2, .int v2)]) (Nat.le_of_ble_eq_true rfl) rfl (fun ls4 hl => ?_)
        refine lv_iinc F.1 F.2.1 dX3_greatestMargin_28 hl (k := 2) rfl (ki_1 _) (lv' := [(2, .int (v2 + (1 : Int32))), (1, .int (jmax v1 (M (x + 6) v2.toNatClampNeg))), (0, .ref (ad x))]) (Nat.le_of_ble_eq_true rfl) rfl (fun ls5 hl => ?_)
        refine lv_goto F.1 F.2.1 dX3_greatestMargin_31 (tgt := 4) (by decide) ?_
        exact ih (jmax v1 (M (x + 6) v2.toNatClampNeg)) (v2 + (1 : Int32)) M _ _ _ (lv_sub hl [2, 1, 0] rfl) hw u1 hf kk
set_option maxHeartbeats 4000000 in
set_option maxRecDepth 100000 in
theorem cX3_greatestMargin_ok (l : Launch) (D : va_G) (cA : Nat → ClassId) (ad : Nat → Nat) (M : Mem) {x : Nat} (hx : shC[x]? = some (.inr (3, sf3)))  (r : Int32) (hf : fX3_greatestMargin x M = some r) : Ctg l yX3_greatestMargin cX3_greatestMargin 3 (some .int) 1 21 shC D cA ad [.ref (ad x)] M (Qzi shC D cA ad .int r M) := by
  refine ct_in (by decide) (Nat.le_of_ble_eq_true rfl) ?_
  intro p e s m below meth c ls F hl hw
  have hl : lv_has ls 3 [(0, .ref (ad x))] := hl
  unfold fX3_greatestMargin at hf
  refine k_iconst_m1 F dX3_greatestMargin_0 ?_
  refine lv_istore_n F.1 F.2.1 dX3_greatestMargin_1 rfl hl (lv' := [(1, .int (-1 : Int32)), (0, .ref (ad x))]) (Nat.le_of_ble_eq_true rfl) rfl (fun ls1 hl => ?_)
  refine k_iconst_0 F dX3_greatestMargin_2 ?_
  refine lv_istore_n F.1 F.2.1 dX3_greatestMargin_3 rfl hl (lv' := [(2, .int (0 : Int32)), (1, .int (-1 : Int32)), (0, .ref (ad x))]) (Nat.le_of_ble_eq_true rfl) rfl (fun ls2 hl => ?_)
  obtain ⟨w8, hq12, hf⟩ := bnd1_some hf
  refine wX3_greatestMargin_L4 F hx FUEL (-1 : Int32) (0 : Int32) M _ _ _ (lv_sub hl [2, 1, 0] rfl) hw w8 hq12 (fun H9 o10 ls11 hl hw => ?_)
  refine lv_iload_n F.1 F.2.1 dX3_greatestMargin_34 rfl (lv_at hl 0 rfl) ?_
  exact r_iret_o F hw (vp_nar_int _) dX3_greatestMargin_35 hf
theorem clX2_232 (F : Fx D cA RX2 cc nL ret p s m args meth c) (hw : Wd shC D cA ad H0 M H locs) (hl : lv_has ls nL lv) {x : Nat} (hx : shC[x]? = some (.inr (3, sf3))) (hR : 2 ≤ R.frames ∧ 43 ≤ R.locals) (hrm : (rest.map fun v => v.category).sum ≤ 8) (hd : decode cc pc = .ok (.invokevirtual 232, 3)) {α : Type} {K : Int32 → Option α} {res : α} (hf : bnd1 (fX3_greatestMargin x M) K = some res) (kk : ∀ (t : Int32) (H1 : Heap) (locs1 : List Loc), Wd shC D cA ad H0 M H1 locs1 → narrow .int (.int t) = .int t → K t = some res → W p l e R s m args below meth c H1 locs1 0 0 Q (F0 m (pc + 3) ls (.int t :: rest))) : W p l e R s m args below meth c H locs 0 0 Q (F0 m pc ls (.ref (ad x) :: rest)) := by
  obtain ⟨t, h1, h2⟩ := bnd1_some hf
  exact r_afti hw (r_runV (As := []) F hw hl (cX3_greatestMargin_ok l D cA ad M hx t h1) cz3 hx cwX2_232 hR hrm hd) (fun H1 o1 hw1 hn => kk t H1 o1 hw1 hn h2)
def fX5_find_L16 : Nat → Int32 → Mem → Option (Int32 × Mem)
  | 0, _, _ => none
  | n + 1, v4, M =>
    if v4 < (5 : Int32) then
      some (v4, M)
    else
      if (5 : Int32) ≤ (M 39 0) then
        some (v4, M)
      else
        wr M 39 0 ((M 39 0) + (1 : Int32)) fun M8 =>
        fX5_find_L16 n (v4 + (-5 : Int32)) M8
def fX5_find_L46 : Nat → Int32 → Mem → Option (Int32 × Mem)
  | 0, _, _ => none
  | n + 1, v4, M =>
    if v4 < (2 : Int32) then
      some (v4, M)
    else
      if (M 39 1) ≤ 0 then
        some (v4, M)
      else
        wr M 39 1 ((M 39 1) - (1 : Int32)) fun M19 =>
        fX5_find_L46 n (v4 + (-2 : Int32)) M19
def fX5_find_L75 : Nat → Int32 → Mem → Option (Int32 × Mem)
  | 0, _, _ => none
  | n + 1, v4, M =>
    if 0 ≤ v4 then
      some (v4, M)
    else
      if (4 : Int32) ≤ (M 39 1) then
        some (v4, M)
      else
        wr M 39 1 ((M 39 1) + (1 : Int32)) fun M30 =>
        fX5_find_L75 n (v4 + (2 : Int32)) M30
def fX5_find_L104 : Nat → Int32 → Mem → Option (Mem)
  | 0, _, _ => none
  | n + 1, v4, M =>
    if 0 ≤ v4 then
      some M
    else
      if (M 39 0) ≤ 0 then
        some M
      else
        wr M 39 0 ((M 39 0) - (1 : Int32)) fun M41 =>
        fX5_find_L104 n (v4 + (5 : Int32)) M41
def fX5_find (v1 : Int32) (v2 : Int32) (v3 : Int32) (M : Mem) : Option Mem :=
  wr M 39 0 v1 fun M1 =>
  wr M1 39 1 v2 fun M4 =>
  bnd2 (fX5_find_L16 FUEL (v3 - (6 : Int32)) M4) fun w14 M15 =>
  bnd2 (fX5_find_L46 FUEL w14 M15) fun w25 M26 =>
  bnd2 (fX5_find_L75 FUEL w25 M26) fun w36 M37 =>
  bnd1 (fX5_find_L104 FUEL w36 M37) fun M47 =>
  some M47
set_option maxHeartbeats 4000000 in
set_option maxRecDepth 100000 in
theorem wX5_find_L16 {p : Program} {l : Launch} {e : Env} {s : State} {m : MethodId} {args : Array Value} {below : List Frame} {meth : Method} {c : Code} {D : va_G} {cA : Nat → ClassId} {ad : Nat → Nat} {Q : State → Prop} (F : Fx D cA RX5 cX5_find 5 none p s m args meth c) : ∀ (n : Nat) (v4 : Int32) (M : Mem) (H : Heap) (o : List Loc) (ls : Array Slot), lv_has ls 5 [(0, .ref (ad 39)), (4, .int v4)] → Wd shC D cA ad s.heap M H o → ∀ (u4 : Int32) (M' : Mem), fX5_find_L16 n v4 M = some (u4, M') → (∀ (H1 : Heap) (o1 : List Loc) (ls1 : Array Slot), lv_has ls1 5 [(4, .int u4), (0, .ref (ad 39))] → Wd shC D cA ad s.heap M' H1 o1 → W p l e (rz 0 0) s m args below meth c H1 o1 0 0 Q (F0 m 46 ls1 [])) → W p l e (rz 0 0) s m args below meth c H o 0 0 Q (F0 m 16 ls []) := by
  intro n
  induction n with
  | zero =>
    intro v4 M H o ls hl hw u4 M' hf kk
    cases hf
  | succ n ih =>
    intro v4 M H o ls hl hw u4 M' hf kk
    rw [fX5_find_L16] at hf
    refine lv_iload F.1 F.2.1 dX5_find_16 (lv_at hl 1 rfl) ?_
    refine k_iconst_5 F dX5_find_18 ?_
    refine b_icmp_lt F dX5_find_19 (tgt := 46) (by decide) hf (fun hc13 hf => ?_) (fun hc13 hf => ?_)
    · cases hf
      exact kk _ _ _ (lv_sub hl [1, 0] rfl) hw
    · refine lv_aload_n F.1 F.2.1 dX5_find_22 rfl (lv_at hl 0 rfl) ?_
      refine gX5_9 F hw rfl dX5_find_23 ?_
      refine k_iconst_5 F dX5_find_26 ?_
      refine b_icmp_ge F dX5_find_27 (tgt := 46) (by decide) hf (fun hc12 hf => ?_) (fun hc12 hf => ?_)
      · cases hf
        exact kk _ _ _ (lv_sub hl [1, 0] rfl) hw
      · refine lv_aload_n F.1 F.2.1 dX5_find_30 rfl (lv_at hl 0 rfl) ?_
        refine lv_dup F.1 F.2.1 dX5_find_31 rfl ?_
        refine gX5_9 F hw rfl dX5_find_32 ?_
        refine k_iconst_1 F dX5_find_35 ?_
        refine lv_iadd F.1 F.2.1 dX5_find_36 ?_
        refine qX5_9 F hw rfl dX5_find_37 hf (fun M8 H9 o10 hw hf => ?_)
        refine lv_iinc F.1 F.2.1 dX5_find_40 hl (k := 1) rfl (ki_m5 _) (lv' := [(4, .int (v4 + (-5 : Int32))), (0, .ref (ad 39))]) (Nat.le_of_ble_eq_true rfl) rfl (fun ls11 hl => ?_)
        refine lv_goto F.1 F.2.1 dX5_find_43 (tgt := 16) (by decide) ?_
        exact ih (v4 + (-5 : Int32)) M8 _ _ _ (lv_sub hl [1, 0] rfl) hw u4 M' hf kk
set_option maxHeartbeats 4000000 in
set_option maxRecDepth 100000 in
theorem wX5_find_L46 {p : Program} {l : Launch} {e : Env} {s : State} {m : MethodId} {args : Array Value} {below : List Frame} {meth : Method} {c : Code} {D : va_G} {cA : Nat → ClassId} {ad : Nat → Nat} {Q : State → Prop} (F : Fx D cA RX5 cX5_find 5 none p s m args meth c) : ∀ (n : Nat) (v4 : Int32) (M : Mem) (H : Heap) (o : List Loc) (ls : Array Slot), lv_has ls 5 [(0, .ref (ad 39)), (4, .int v4)] → Wd shC D cA ad s.heap M H o → ∀ (u4 : Int32) (M' : Mem), fX5_find_L46 n v4 M = some (u4, M') → (∀ (H1 : Heap) (o1 : List Loc) (ls1 : Array Slot), lv_has ls1 5 [(4, .int u4), (0, .ref (ad 39))] → Wd shC D cA ad s.heap M' H1 o1 → W p l e (rz 0 0) s m args below meth c H1 o1 0 0 Q (F0 m 75 ls1 [])) → W p l e (rz 0 0) s m args below meth c H o 0 0 Q (F0 m 46 ls []) := by
  intro n
  induction n with
  | zero =>
    intro v4 M H o ls hl hw u4 M' hf kk
    cases hf
  | succ n ih =>
    intro v4 M H o ls hl hw u4 M' hf kk
    rw [fX5_find_L46] at hf
    refine lv_iload F.1 F.2.1 dX5_find_46 (lv_at hl 1 rfl) ?_
    refine k_iconst_2 F dX5_find_48 ?_
    refine b_icmp_lt F dX5_find_49 (tgt := 75) (by decide) hf (fun hc24 hf => ?_) (fun hc24 hf => ?_)
    · cases hf
      exact kk _ _ _ (lv_sub hl [1, 0] rfl) hw
    · refine lv_aload_n F.1 F.2.1 dX5_find_52 rfl (lv_at hl 0 rfl) ?_
      refine gX5_15 F hw rfl dX5_find_53 ?_
      refine b_if_le F dX5_find_56 (tgt := 75) (by decide) hf (fun hc23 hf => ?_) (fun hc23 hf => ?_)
      · cases hf
        exact kk _ _ _ (lv_sub hl [1, 0] rfl) hw
      · refine lv_aload_n F.1 F.2.1 dX5_find_59 rfl (lv_at hl 0 rfl) ?_
        refine lv_dup F.1 F.2.1 dX5_find_60 rfl ?_
        refine gX5_15 F hw rfl dX5_find_61 ?_
        refine k_iconst_1 F dX5_find_64 ?_
        refine lv_isub F.1 F.2.1 dX5_find_65 ?_
        refine qX5_15 F hw rfl dX5_find_66 hf (fun M19 H20 o21 hw hf => ?_)
        refine lv_iinc F.1 F.2.1 dX5_find_69 hl (k := 1) rfl (ki_m2 _) (lv' := [(4, .int (v4 + (-2 : Int32))), (0, .ref (ad 39))]) (Nat.le_of_ble_eq_true rfl) rfl (fun ls22 hl => ?_)
        refine lv_goto F.1 F.2.1 dX5_find_72 (tgt := 46) (by decide) ?_
        exact ih (v4 + (-2 : Int32)) M19 _ _ _ (lv_sub hl [1, 0] rfl) hw u4 M' hf kk
set_option maxHeartbeats 4000000 in
set_option maxRecDepth 100000 in
theorem wX5_find_L75 {p : Program} {l : Launch} {e : Env} {s : State} {m : MethodId} {args : Array Value} {below : List Frame} {meth : Method} {c : Code} {D : va_G} {cA : Nat → ClassId} {ad : Nat → Nat} {Q : State → Prop} (F : Fx D cA RX5 cX5_find 5 none p s m args meth c) : ∀ (n : Nat) (v4 : Int32) (M : Mem) (H : Heap) (o : List Loc) (ls : Array Slot), lv_has ls 5 [(0, .ref (ad 39)), (4, .int v4)] → Wd shC D cA ad s.heap M H o → ∀ (u4 : Int32) (M' : Mem), fX5_find_L75 n v4 M = some (u4, M') → (∀ (H1 : Heap) (o1 : List Loc) (ls1 : Array Slot), lv_has ls1 5 [(4, .int u4), (0, .ref (ad 39))] → Wd shC D cA ad s.heap M' H1 o1 → W p l e (rz 0 0) s m args below meth c H1 o1 0 0 Q (F0 m 104 ls1 [])) → W p l e (rz 0 0) s m args below meth c H o 0 0 Q (F0 m 75 ls []) := by
  intro n
  induction n with
  | zero =>
    intro v4 M H o ls hl hw u4 M' hf kk
    cases hf
  | succ n ih =>
    intro v4 M H o ls hl hw u4 M' hf kk
    rw [fX5_find_L75] at hf
    refine lv_iload F.1 F.2.1 dX5_find_75 (lv_at hl 1 rfl) ?_
    refine b_if_ge F dX5_find_77 (tgt := 104) (by decide) hf (fun hc35 hf => ?_) (fun hc35 hf => ?_)
    · cases hf
      exact kk _ _ _ (lv_sub hl [1, 0] rfl) hw
    · refine lv_aload_n F.1 F.2.1 dX5_find_80 rfl (lv_at hl 0 rfl) ?_
      refine gX5_15 F hw rfl dX5_find_81 ?_
      refine k_iconst_4 F dX5_find_84 ?_
      refine b_icmp_ge F dX5_find_85 (tgt := 104) (by decide) hf (fun hc34 hf => ?_) (fun hc34 hf => ?_)
      · cases hf
        exact kk _ _ _ (lv_sub hl [1, 0] rfl) hw
      · refine lv_aload_n F.1 F.2.1 dX5_find_88 rfl (lv_at hl 0 rfl) ?_
        refine lv_dup F.1 F.2.1 dX5_find_89 rfl ?_
        refine gX5_15 F hw rfl dX5_find_90 ?_
        refine k_iconst_1 F dX5_find_93 ?_
        refine lv_iadd F.1 F.2.1 dX5_find_94 ?_
        refine qX5_15 F hw rfl dX5_find_95 hf (fun M30 H31 o32 hw hf => ?_)
        refine lv_iinc F.1 F.2.1 dX5_find_98 hl (k := 1) rfl (ki_2 _) (lv' := [(4, .int (v4 + (2 : Int32))), (0, .ref (ad 39))]) (Nat.le_of_ble_eq_true rfl) rfl (fun ls33 hl => ?_)
        refine lv_goto F.1 F.2.1 dX5_find_101 (tgt := 75) (by decide) ?_
        exact ih (v4 + (2 : Int32)) M30 _ _ _ (lv_sub hl [1, 0] rfl) hw u4 M' hf kk
set_option maxHeartbeats 4000000 in
set_option maxRecDepth 100000 in
theorem wX5_find_L104 {p : Program} {l : Launch} {e : Env} {s : State} {m : MethodId} {args : Array Value} {below : List Frame} {meth : Method} {c : Code} {D : va_G} {cA : Nat → ClassId} {ad : Nat → Nat} {Q : State → Prop} (F : Fx D cA RX5 cX5_find 5 none p s m args meth c) : ∀ (n : Nat) (v4 : Int32) (M : Mem) (H : Heap) (o : List Loc) (ls : Array Slot), lv_has ls 5 [(0, .ref (ad 39)), (4, .int v4)] → Wd shC D cA ad s.heap M H o → ∀ (M' : Mem), fX5_find_L104 n v4 M = some M' → (∀ (H1 : Heap) (o1 : List Loc) (ls1 : Array Slot), lv_has ls1 5 [] → Wd shC D cA ad s.heap M' H1 o1 → W p l e (rz 0 0) s m args below meth c H1 o1 0 0 Q (F0 m 132 ls1 [])) → W p l e (rz 0 0) s m args below meth c H o 0 0 Q (F0 m 104 ls []) := by
  intro n
  induction n with
  | zero =>
    intro v4 M H o ls hl hw M' hf kk
    cases hf
  | succ n ih =>
    intro v4 M H o ls hl hw M' hf kk
    rw [fX5_find_L104] at hf
    refine lv_iload F.1 F.2.1 dX5_find_104 (lv_at hl 1 rfl) ?_
    refine b_if_ge F dX5_find_106 (tgt := 132) (by decide) hf (fun hc46 hf => ?_) (fun hc46 hf => ?_)
    · cases hf
      exact kk _ _ _ (lv_sub hl [] rfl) hw
    · refine lv_aload_n F.1 F.2.1 dX5_find_109 rfl (lv_at hl 0 rfl) ?_
      refine gX5_9 F hw rfl dX5_find_110 ?_
      refine b_if_le F dX5_find_113 (tgt := 132) (by decide) hf (fun hc45 hf => ?_) (fun hc45 hf => ?_)
      · cases hf
        exact kk _ _ _ (lv_sub hl [] rfl) hw
      · refine lv_aload_n F.1 F.2.1 dX5_find_116 rfl (lv_at hl 0 rfl) ?_
        refine lv_dup F.1 F.2.1 dX5_find_117 rfl ?_
        refine gX5_9 F hw rfl dX5_find_118 ?_
        refine k_iconst_1 F dX5_find_121 ?_
        refine lv_isub F.1 F.2.1 dX5_find_122 ?_
        refine qX5_9 F hw rfl dX5_find_123 hf (fun M41 H42 o43 hw hf => ?_)
        refine lv_iinc F.1 F.2.1 dX5_find_126 hl (k := 1) rfl (ki_5 _) (lv' := [(4, .int (v4 + (5 : Int32))), (0, .ref (ad 39))]) (Nat.le_of_ble_eq_true rfl) rfl (fun ls44 hl => ?_)
        refine lv_goto F.1 F.2.1 dX5_find_129 (tgt := 104) (by decide) ?_
        exact ih (v4 + (5 : Int32)) M41 _ _ _ (lv_sub hl [1, 0] rfl) hw  M' hf kk
set_option maxHeartbeats 4000000 in
set_option maxRecDepth 100000 in
theorem cX5_find_ok (l : Launch) (D : va_G) (cA : Nat → ClassId) (ad : Nat → Nat) (M : Mem) (v1 : Int32) (v2 : Int32) (v3 : Int32) (M' : Mem) (hf : fX5_find v1 v2 v3 M = some M') : Ctg l yX5_find cX5_find 5 none 0 0 shC D cA ad [.ref (ad 39), .int v1, .int v2, .int v3] M (Qzv shC D cA ad M') := by
  refine ct_in (by decide) (Nat.le_of_ble_eq_true rfl) ?_
  intro p e s m below meth c ls F hl hw
  have hl : lv_has ls 5 [(0, .ref (ad 39)), (1, .int v1), (2, .int v2), (3, .int v3)] := hl
  unfold fX5_find at hf
  refine lv_aload_n F.1 F.2.1 dX5_find_0 rfl (lv_at hl 0 rfl) ?_
  refine lv_iload_n F.1 F.2.1 dX5_find_1 rfl (lv_at hl 1 rfl) ?_
  refine qX5_9 F hw rfl dX5_find_2 hf (fun M1 H2 o3 hw hf => ?_)
  refine lv_aload_n F.1 F.2.1 dX5_find_5 rfl (lv_at hl 0 rfl) ?_
  refine lv_iload_n F.1 F.2.1 dX5_find_6 rfl (lv_at hl 2 rfl) ?_
  refine qX5_15 F hw rfl dX5_find_7 hf (fun M4 H5 o6 hw hf => ?_)
  refine lv_iload_n F.1 F.2.1 dX5_find_10 rfl (lv_at hl 3 rfl) ?_
  refine k_bipush_6 F dX5_find_11 ?_
  refine lv_isub F.1 F.2.1 dX5_find_13 ?_
  refine lv_istore F.1 F.2.1 dX5_find_14 hl (lv' := [(4, .int (v3 - (6 : Int32))), (0, .ref (ad 39)), (1, .int v1), (2, .int v2), (3, .int v3)]) (Nat.le_of_ble_eq_true rfl) rfl (fun ls7 hl => ?_)
  obtain ⟨w14, M15, hq54, hf⟩ := bnd2_some hf
  refine wX5_find_L16 F FUEL (v3 - (6 : Int32)) M4 _ _ _ (lv_sub hl [1, 0] rfl) hw w14 M15 hq54 (fun H16 o17 ls18 hl hw => ?_)
  obtain ⟨w25, M26, hq53, hf⟩ := bnd2_some hf
  refine wX5_find_L46 F FUEL w14 M15 _ _ _ (lv_sub hl [1, 0] rfl) hw w25 M26 hq53 (fun H27 o28 ls29 hl hw => ?_)
  obtain ⟨w36, M37, hq52, hf⟩ := bnd2_some hf
  refine wX5_find_L75 F FUEL w25 M26 _ _ _ (lv_sub hl [1, 0] rfl) hw w36 M37 hq52 (fun H38 o39 ls40 hl hw => ?_)
  obtain ⟨M47, hq51, hf⟩ := bnd1_some hf
  refine wX5_find_L104 F FUEL w36 M37 _ _ _ (lv_sub hl [1, 0] rfl) hw M47 hq51 (fun H48 o49 ls50 hl hw => ?_)
  exact r_vret_w F hw dX5_find_132 hf
theorem clX2_235 (F : Fx D cA RX2 cc nL ret p s m args meth c) (hw : Wd shC D cA ad H0 M H locs) (hl : lv_has ls nL lv) {v1 : Int32} {v2 : Int32} {v3 : Int32} (hR : 1 ≤ R.frames ∧ 24 ≤ R.locals) (hrm : (rest.map fun v => v.category).sum ≤ 8) (hd : decode cc pc = .ok (.invokevirtual 235, 3)) {α : Type} {K : Mem → Option α} {res : α} (hf : bnd1 (fX5_find v1 v2 v3 M) K = some res) (kk : ∀ (M1 : Mem) (H1 : Heap) (locs1 : List Loc), Wd shC D cA ad H0 M1 H1 locs1 → K M1 = some res → W p l e R s m args below meth c H1 locs1 0 0 Q (F0 m (pc + 3) ls rest)) : W p l e R s m args below meth c H locs 0 0 Q (F0 m pc ls (.int v3 :: .int v2 :: .int v1 :: .ref (ad 39) :: rest)) := by
  obtain ⟨M1, h1, h2⟩ := bnd1_some hf
  exact r_aftv hw (r_runV (As := [.int v1, .int v2, .int v3]) F hw hl (cX5_find_ok l D cA ad M v1 v2 v3 M1 h1) cz5 (show shC[39]? = some (.inr (5, sf5)) from rfl) cwX2_235 hR hrm hd) (fun H1 o1 hw1 => kk M1 H1 o1 hw1 h2)
def fX6_dropFirst (v1 : Int32) (M : Mem) : Option Mem :=
  if v1 ≤ 0 then
    some M
  else
    if ((M 34 4) - v1) < 0 then
      some M
    else
      cpy M 35 390 35 390 v1 (0 : Int32) ((M 34 4) - v1) fun M2 =>
      cpy M2 36 390 36 390 v1 (0 : Int32) ((M 34 4) - v1) fun M5 =>
      cpy M5 37 390 37 390 v1 (0 : Int32) ((M 34 4) - v1) fun M8 =>
      cpy M8 38 1560 38 1560 (v1 * (4 : Int32)) (0 : Int32) (((M 34 4) - v1) * (4 : Int32)) fun M11 =>
      wr M11 34 4 ((M 34 4) - v1) fun M14 =>
      some M14
set_option maxHeartbeats 4000000 in
set_option maxRecDepth 100000 in
theorem cX6_dropFirst_ok (l : Launch) (D : va_G) (cA : Nat → ClassId) (ad : Nat → Nat) (M : Mem) (v1 : Int32) (M' : Mem) (hf : fX6_dropFirst v1 M = some M') : Ctg l yX6_dropFirst cX6_dropFirst 3 none 1 40 shC D cA ad [.ref (ad 34), .int v1] M (Qzv shC D cA ad M') := by
  refine ct_in (by decide) (Nat.le_of_ble_eq_true rfl) ?_
  intro p e s m below meth c ls F hl hw
  have hl : lv_has ls 3 [(0, .ref (ad 34)), (1, .int v1)] := hl
  unfold fX6_dropFirst at hf
  refine lv_aload_n F.1 F.2.1 dX6_dropFirst_0 rfl (lv_at hl 0 rfl) ?_
  refine gX6_24 F hw rfl dX6_dropFirst_1 ?_
  refine lv_iload_n F.1 F.2.1 dX6_dropFirst_4 rfl (lv_at hl 1 rfl) ?_
  refine lv_isub F.1 F.2.1 dX6_dropFirst_5 ?_
  refine lv_istore_n F.1 F.2.1 dX6_dropFirst_6 rfl hl (lv' := [(2, .int ((M 34 4) - v1)), (0, .ref (ad 34)), (1, .int v1)]) (Nat.le_of_ble_eq_true rfl) rfl (fun ls1 hl => ?_)
  refine lv_iload_n F.1 F.2.1 dX6_dropFirst_7 rfl (lv_at hl 2 rfl) ?_
  refine b_if_le F dX6_dropFirst_8 (tgt := 80) (by decide) hf (fun hc18 hf => ?_) (fun hc18 hf => ?_)
  · exact r_vret_w F hw dX6_dropFirst_80 hf
  · refine lv_iload_n F.1 F.2.1 dX6_dropFirst_11 rfl (lv_at hl 0 rfl) ?_
    refine b_if_lt F dX6_dropFirst_12 (tgt := 80) (by decide) hf (fun hc17 hf => ?_) (fun hc17 hf => ?_)
    · exact r_vret_w F hw dX6_dropFirst_80 hf
    · refine lv_aload_n F.1 F.2.1 dX6_dropFirst_15 rfl (lv_at hl 1 rfl) ?_
      refine gX6_9 F hw rfl dX6_dropFirst_16 ?_
      refine lv_iload_n F.1 F.2.1 dX6_dropFirst_19 rfl (lv_at hl 2 rfl) ?_
      refine lv_aload_n F.1 F.2.1 dX6_dropFirst_20 rfl (lv_at hl 1 rfl) ?_
      refine gX6_9 F hw rfl dX6_dropFirst_21 ?_
      refine k_iconst_0 F dX6_dropFirst_24 ?_
      refine lv_iload_n F.1 F.2.1 dX6_dropFirst_25 rfl (lv_at hl 0 rfl) ?_
      refine k_copy F hw hl kw_590 rfl rfl ⟨Nat.le_of_ble_eq_true rfl, Nat.le_of_ble_eq_true rfl⟩ dX6_dropFirst_26 hf (fun M2 H3 o4 hw hf => ?_)
      refine lv_aload_n F.1 F.2.1 dX6_dropFirst_29 rfl (lv_at hl 1 rfl) ?_
      refine gX6_15 F hw rfl dX6_dropFirst_30 ?_
      refine lv_iload_n F.1 F.2.1 dX6_dropFirst_33 rfl (lv_at hl 2 rfl) ?_
      refine lv_aload_n F.1 F.2.1 dX6_dropFirst_34 rfl (lv_at hl 1 rfl) ?_
      refine gX6_15 F hw rfl dX6_dropFirst_35 ?_
      refine k_iconst_0 F dX6_dropFirst_38 ?_
      refine lv_iload_n F.1 F.2.1 dX6_dropFirst_39 rfl (lv_at hl 0 rfl) ?_
      refine k_copy F hw hl kw_590 rfl rfl ⟨Nat.le_of_ble_eq_true rfl, Nat.le_of_ble_eq_true rfl⟩ dX6_dropFirst_40 hf (fun M5 H6 o7 hw hf => ?_)
      refine lv_aload_n F.1 F.2.1 dX6_dropFirst_43 rfl (lv_at hl 1 rfl) ?_
      refine gX6_18 F hw rfl dX6_dropFirst_44 ?_
      refine lv_iload_n F.1 F.2.1 dX6_dropFirst_47 rfl (lv_at hl 2 rfl) ?_
      refine lv_aload_n F.1 F.2.1 dX6_dropFirst_48 rfl (lv_at hl 1 rfl) ?_
      refine gX6_18 F hw rfl dX6_dropFirst_49 ?_
      refine k_iconst_0 F dX6_dropFirst_52 ?_
      refine lv_iload_n F.1 F.2.1 dX6_dropFirst_53 rfl (lv_at hl 0 rfl) ?_
      refine k_copy F hw hl kw_590 rfl rfl ⟨Nat.le_of_ble_eq_true rfl, Nat.le_of_ble_eq_true rfl⟩ dX6_dropFirst_54 hf (fun M8 H9 o10 hw hf => ?_)
      refine lv_aload_n F.1 F.2.1 dX6_dropFirst_57 rfl (lv_at hl 1 rfl) ?_
      refine gX6_21 F hw rfl dX6_dropFirst_58 ?_
      refine lv_iload_n F.1 F.2.1 dX6_dropFirst_61 rfl (lv_at hl 2 rfl) ?_
      refine k_iconst_4 F dX6_dropFirst_62 ?_
      refine lv_imul F.1 F.2.1 dX6_dropFirst_63 ?_
      refine lv_aload_n F.1 F.2.1 dX6_dropFirst_64 rfl (lv_at hl 1 rfl) ?_
      refine gX6_21 F hw rfl dX6_dropFirst_65 ?_
      refine k_iconst_0 F dX6_dropFirst_68 ?_
      refine lv_iload_n F.1 F.2.1 dX6_dropFirst_69 rfl (lv_at hl 0 rfl) ?_
      refine k_iconst_4 F dX6_dropFirst_70 ?_
      refine lv_imul F.1 F.2.1 dX6_dropFirst_71 ?_
      refine k_copy F hw hl kw_590 rfl rfl ⟨Nat.le_of_ble_eq_true rfl, Nat.le_of_ble_eq_true rfl⟩ dX6_dropFirst_72 hf (fun M11 H12 o13 hw hf => ?_)
      refine lv_aload_n F.1 F.2.1 dX6_dropFirst_75 rfl (lv_at hl 1 rfl) ?_
      refine lv_iload_n F.1 F.2.1 dX6_dropFirst_76 rfl (lv_at hl 0 rfl) ?_
      refine qX6_24 F hw rfl dX6_dropFirst_77 hf (fun M14 H15 o16 hw hf => ?_)
      exact r_vret_w F hw dX6_dropFirst_80 hf
theorem clX2_201 (F : Fx D cA RX2 cc nL ret p s m args meth c) (hw : Wd shC D cA ad H0 M H locs) (hl : lv_has ls nL lv) {v1 : Int32} (hR : 2 ≤ R.frames ∧ 62 ≤ R.locals) (hrm : (rest.map fun v => v.category).sum ≤ 8) (hd : decode cc pc = .ok (.invokevirtual 201, 3)) {α : Type} {K : Mem → Option α} {res : α} (hf : bnd1 (fX6_dropFirst v1 M) K = some res) (kk : ∀ (M1 : Mem) (H1 : Heap) (locs1 : List Loc), Wd shC D cA ad H0 M1 H1 locs1 → K M1 = some res → W p l e R s m args below meth c H1 locs1 0 0 Q (F0 m (pc + 3) ls rest)) : W p l e R s m args below meth c H locs 0 0 Q (F0 m pc ls (.int v1 :: .ref (ad 34) :: rest)) := by
  obtain ⟨M1, h1, h2⟩ := bnd1_some hf
  exact r_aftv hw (r_runV (As := [.int v1]) F hw hl (cX6_dropFirst_ok l D cA ad M v1 M1 h1) cz6 (show shC[34]? = some (.inr (6, sf6)) from rfl) cwX2_201 hR hrm hd) (fun H1 o1 hw1 => kk M1 H1 o1 hw1 h2)
def fX3_hasSent (x : Nat) (M : Mem) : Int32 :=
  if (M x 4) = (-2 : Int32) then
    (0 : Int32)
  else
    (1 : Int32)
set_option maxHeartbeats 4000000 in
set_option maxRecDepth 100000 in
theorem cX3_hasSent_ok (l : Launch) (D : va_G) (cA : Nat → ClassId) (ad : Nat → Nat) (M : Mem) {x : Nat} (hx : shC[x]? = some (.inr (3, sf3)))  (r : Int32) (hf : fX3_hasSent x M = r) : Ctg l yX3_hasSent cX3_hasSent 1 (some .boolean) 0 0 shC D cA ad [.ref (ad x)] M (Qzi shC D cA ad .boolean r M) := by
  refine ct_in (by decide) (Nat.le_of_ble_eq_true rfl) ?_
  intro p e s m below meth c ls F hl hw
  have hl : lv_has ls 1 [(0, .ref (ad x))] := hl
  unfold fX3_hasSent at hf
  refine lv_aload_n F.1 F.2.1 dX3_hasSent_0 rfl (lv_at hl 0 rfl) ?_
  refine gX3_28 F hw hx dX3_hasSent_1 ?_
  refine k_bipush_m2 F dX3_hasSent_4 ?_
  refine b_icmp_eq F dX3_hasSent_6 (tgt := 13) (by decide) hf (fun hc1 hf => ?_) (fun hc1 hf => ?_)
  · refine k_iconst_0 F dX3_hasSent_13 ?_
    exact r_iret_t F hw rfl dX3_hasSent_14 hf
  · refine k_iconst_1 F dX3_hasSent_9 ?_
    refine lv_goto F.1 F.2.1 dX3_hasSent_10 (tgt := 14) (by decide) ?_
    exact r_iret_t F hw rfl dX3_hasSent_14 hf
theorem clX7_97 (F : Fx D cA RX7 cc nL ret p s m args meth c) (hw : Wd shC D cA ad H0 M H locs) (hl : lv_has ls nL lv) {x : Nat} (hx : shC[x]? = some (.inr (3, sf3))) (hR : 1 ≤ R.frames ∧ 20 ≤ R.locals) (hrm : (rest.map fun v => v.category).sum ≤ 8) (hd : decode cc pc = .ok (.invokevirtual 97, 3)) (kk : ∀ (H1 : Heap) (locs1 : List Loc), Wd shC D cA ad H0 M H1 locs1 → narrow .boolean (.int (fX3_hasSent x M)) = .int (fX3_hasSent x M) → W p l e R s m args below meth c H1 locs1 0 0 Q (F0 m (pc + 3) ls (.int (fX3_hasSent x M) :: rest))) : W p l e R s m args below meth c H locs 0 0 Q (F0 m pc ls (.ref (ad x) :: rest)) :=
  r_afti hw (r_runV (As := []) F hw hl (cX3_hasSent_ok l D cA ad M hx (fX3_hasSent x M) rfl) cz3 hx cwX7_97 hR hrm hd) (fun H1 o1 hw1 hn => kk H1 o1 hw1 hn)
def fX3_value (x : Nat) (v1 : Int32) (M : Mem) : Int32 :=
  if v1 = (0 : Int32) then
    (M x 0)
  else if v1 = (1 : Int32) then
    (M x 1)
  else if v1 = (2 : Int32) then
    (M x 2)
  else if v1 = (3 : Int32) then
    (M x 3)
  else if v1 = (4 : Int32) then
    (M x 5)
  else if v1 = (5 : Int32) then
    (M x 7)
  else if v1 = (6 : Int32) then
    (M x 8)
  else 
    (M x 9)
set_option maxHeartbeats 4000000 in
set_option maxRecDepth 100000 in
theorem cX3_value_ok (l : Launch) (D : va_G) (cA : Nat → ClassId) (ad : Nat → Nat) (M : Mem) {x : Nat} (hx : shC[x]? = some (.inr (3, sf3))) (v1 : Int32) (r : Int32) (hf : fX3_value x v1 M = r) : Ctg l yX3_value cX3_value 2 (some .int) 0 0 shC D cA ad [.ref (ad x), .int v1] M (Qzi shC D cA ad .int r M) := by
  refine ct_in (by decide) (Nat.le_of_ble_eq_true rfl) ?_
  intro p e s m below meth c ls F hl hw
  have hl : lv_has ls 2 [(0, .ref (ad x)), (1, .int v1)] := hl
  unfold fX3_value at hf
  refine lv_iload_n F.1 F.2.1 dX3_value_0 rfl (lv_at hl 1 rfl) ?_
  by_cases hc1 : v1 = (0 : Int32)
  · rw [if_pos hc1] at hf
    refine lv_tableIn F.1 F.2.1 dX3_value_1 (tgt := 44) (off := 43) (by rw [hc1]; decide) (by rw [hc1]; decide) (by rw [hc1]; decide) (by decide) ?_
    refine lv_aload_n F.1 F.2.1 dX3_value_44 rfl (lv_at hl 0 rfl) ?_
    refine gX3_15 F hw hx dX3_value_45 ?_
    exact r_iret_t F hw (vp_nar_int _) dX3_value_48 hf
  · rw [if_neg hc1] at hf
    by_cases hc2 : v1 = (1 : Int32)
    · rw [if_pos hc2] at hf
      refine lv_tableIn F.1 F.2.1 dX3_value_1 (tgt := 49) (off := 48) (by rw [hc2]; decide) (by rw [hc2]; decide) (by rw [hc2]; decide) (by decide) ?_
      refine lv_aload_n F.1 F.2.1 dX3_value_49 rfl (lv_at hl 0 rfl) ?_
      refine gX3_19 F hw hx dX3_value_50 ?_
      exact r_iret_t F hw (vp_nar_int _) dX3_value_53 hf
    · rw [if_neg hc2] at hf
      by_cases hc3 : v1 = (2 : Int32)
      · rw [if_pos hc3] at hf
        refine lv_tableIn F.1 F.2.1 dX3_value_1 (tgt := 54) (off := 53) (by rw [hc3]; decide) (by rw [hc3]; decide) (by rw [hc3]; decide) (by decide) ?_
        refine lv_aload_n F.1 F.2.1 dX3_value_54 rfl (lv_at hl 0 rfl) ?_
        refine gX3_22 F hw hx dX3_value_55 ?_
        exact r_iret_t F hw (vp_nar_int _) dX3_value_58 hf
      · rw [if_neg hc3] at hf
        by_cases hc4 : v1 = (3 : Int32)
        · rw [if_pos hc4] at hf
          refine lv_tableIn F.1 F.2.1 dX3_value_1 (tgt := 59) (off := 58) (by rw [hc4]; decide) (by rw [hc4]; decide) (by rw [hc4]; decide) (by decide) ?_
          refine lv_aload_n F.1 F.2.1 dX3_value_59 rfl (lv_at hl 0 rfl) ?_
          refine gX3_25 F hw hx dX3_value_60 ?_
          exact r_iret_t F hw (vp_nar_int _) dX3_value_63 hf
        · rw [if_neg hc4] at hf
          by_cases hc5 : v1 = (4 : Int32)
          · rw [if_pos hc5] at hf
            refine lv_tableIn F.1 F.2.1 dX3_value_1 (tgt := 64) (off := 63) (by rw [hc5]; decide) (by rw [hc5]; decide) (by rw [hc5]; decide) (by decide) ?_
            refine lv_aload_n F.1 F.2.1 dX3_value_64 rfl (lv_at hl 0 rfl) ?_
            refine gX3_31 F hw hx dX3_value_65 ?_
            exact r_iret_t F hw (vp_nar_int _) dX3_value_68 hf
          · rw [if_neg hc5] at hf
            by_cases hc6 : v1 = (5 : Int32)
            · rw [if_pos hc6] at hf
              refine lv_tableIn F.1 F.2.1 dX3_value_1 (tgt := 69) (off := 68) (by rw [hc6]; decide) (by rw [hc6]; decide) (by rw [hc6]; decide) (by decide) ?_
              refine lv_aload_n F.1 F.2.1 dX3_value_69 rfl (lv_at hl 0 rfl) ?_
              refine gX3_34 F hw hx dX3_value_70 ?_
              exact r_iret_t F hw (vp_nar_int _) dX3_value_73 hf
            · rw [if_neg hc6] at hf
              by_cases hc7 : v1 = (6 : Int32)
              · rw [if_pos hc7] at hf
                refine lv_tableIn F.1 F.2.1 dX3_value_1 (tgt := 74) (off := 73) (by rw [hc7]; decide) (by rw [hc7]; decide) (by rw [hc7]; decide) (by decide) ?_
                refine lv_aload_n F.1 F.2.1 dX3_value_74 rfl (lv_at hl 0 rfl) ?_
                refine gX3_37 F hw hx dX3_value_75 ?_
                exact r_iret_t F hw (vp_nar_int _) dX3_value_78 hf
              · rw [if_neg hc7] at hf
                refine lv_tableOut F.1 F.2.1 dX3_value_1 (tgt := 79) (by have hc1t := lv_neT (a := 0) hc1 (by decide); have hc2t := lv_neT (a := 1) hc2 (by decide); have hc3t := lv_neT (a := 2) hc3 (by decide); have hc4t := lv_neT (a := 3) hc4 (by decide); have hc5t := lv_neT (a := 4) hc5 (by decide); have hc6t := lv_neT (a := 5) hc6 (by decide); have hc7t := lv_neT (a := 6) hc7 (by decide); omega) (by decide) ?_
                refine lv_aload_n F.1 F.2.1 dX3_value_79 rfl (lv_at hl 0 rfl) ?_
                refine gX3_40 F hw hx dX3_value_80 ?_
                exact r_iret_t F hw (vp_nar_int _) dX3_value_83 hf
theorem clX3_62 (F : Fx D cA RX3 cc nL ret p s m args meth c) (hw : Wd shC D cA ad H0 M H locs) (hl : lv_has ls nL lv) {x : Nat} (hx : shC[x]? = some (.inr (3, sf3))) {v1 : Int32} (hR : 1 ≤ R.frames ∧ 21 ≤ R.locals) (hrm : (rest.map fun v => v.category).sum ≤ 8) (hd : decode cc pc = .ok (.invokevirtual 62, 3)) (kk : ∀ (H1 : Heap) (locs1 : List Loc), Wd shC D cA ad H0 M H1 locs1 → narrow .int (.int (fX3_value x v1 M)) = .int (fX3_value x v1 M) → W p l e R s m args below meth c H1 locs1 0 0 Q (F0 m (pc + 3) ls (.int (fX3_value x v1 M) :: rest))) : W p l e R s m args below meth c H locs 0 0 Q (F0 m pc ls (.int v1 :: .ref (ad x) :: rest)) :=
  r_afti hw (r_runV (As := [.int v1]) F hw hl (cX3_value_ok l D cA ad M hx v1 (fX3_value x v1 M) rfl) cz3 hx cwX3_62 hR hrm hd) (fun H1 o1 hw1 hn => kk H1 o1 hw1 hn)
theorem clX7_115 (F : Fx D cA RX7 cc nL ret p s m args meth c) (hw : Wd shC D cA ad H0 M H locs) (hl : lv_has ls nL lv) {x : Nat} (hx : shC[x]? = some (.inr (3, sf3))) {v1 : Int32} (hR : 1 ≤ R.frames ∧ 21 ≤ R.locals) (hrm : (rest.map fun v => v.category).sum ≤ 8) (hd : decode cc pc = .ok (.invokevirtual 115, 3)) (kk : ∀ (H1 : Heap) (locs1 : List Loc), Wd shC D cA ad H0 M H1 locs1 → narrow .int (.int (fX3_value x v1 M)) = .int (fX3_value x v1 M) → W p l e R s m args below meth c H1 locs1 0 0 Q (F0 m (pc + 3) ls (.int (fX3_value x v1 M) :: rest))) : W p l e R s m args below meth c H locs 0 0 Q (F0 m pc ls (.int v1 :: .ref (ad x) :: rest)) :=
  r_afti hw (r_runV (As := [.int v1]) F hw hl (cX3_value_ok l D cA ad M hx v1 (fX3_value x v1 M) rfl) cz3 hx cwX7_115 hR hrm hd) (fun H1 o1 hw1 hn => kk H1 o1 hw1 hn)
def fX3_change (x : Nat) (v1 : Int32) (v2 : Int32) (M : Mem) : Option (Int32 × Mem) :=
  if v1 = (0 : Int32) then
    wr M x 0 v2 fun M6 =>
    some ((fX3_value x v1 M), M6)
  else if v1 = (1 : Int32) then
    wr M x 1 v2 fun M10 =>
    some ((fX3_value x v1 M), M10)
  else if v1 = (2 : Int32) then
    wr M x 2 v2 fun M14 =>
    some ((fX3_value x v1 M), M14)
  else 
    wr M x 3 v2 fun M17 =>
    some ((fX3_value x v1 M), M17)
set_option maxHeartbeats 4000000 in
set_option maxRecDepth 100000 in
theorem cX3_change_ok (l : Launch) (D : va_G) (cA : Nat → ClassId) (ad : Nat → Nat) (M : Mem) {x : Nat} (hx : shC[x]? = some (.inr (3, sf3))) (v1 : Int32) (v2 : Int32) (r : Int32) (M' : Mem) (hf : fX3_change x v1 v2 M = some (r, M')) : Ctg l yX3_change cX3_change 4 (some .int) 1 21 shC D cA ad [.ref (ad x), .int v1, .int v2] M (Qzi shC D cA ad .int r M') := by
  refine ct_in (by decide) (Nat.le_of_ble_eq_true rfl) ?_
  intro p e s m below meth c ls F hl hw
  have hl : lv_has ls 4 [(0, .ref (ad x)), (1, .int v1), (2, .int v2)] := hl
  unfold fX3_change at hf
  refine lv_aload_n F.1 F.2.1 dX3_change_0 rfl (lv_at hl 0 rfl) ?_
  refine lv_iload_n F.1 F.2.1 dX3_change_1 rfl (lv_at hl 1 rfl) ?_
  refine clX3_62 F hw hl hx ⟨Nat.le_of_ble_eq_true rfl, Nat.le_of_ble_eq_true rfl⟩ (Nat.le_of_ble_eq_true rfl) dX3_change_2 (fun H1 o2 hw hn3 => ?_)
  refine lv_istore_n F.1 F.2.1 dX3_change_5 rfl hl (lv' := [(3, .int (fX3_value x v1 M)), (0, .ref (ad x)), (1, .int v1), (2, .int v2)]) (Nat.le_of_ble_eq_true rfl) rfl (fun ls4 hl => ?_)
  refine lv_iload_n F.1 F.2.1 dX3_change_6 rfl (lv_at hl 2 rfl) ?_
  by_cases hc5 : v1 = (0 : Int32)
  · rw [if_pos hc5] at hf
    refine lv_tableIn F.1 F.2.1 dX3_change_7 (tgt := 32) (off := 25) (by rw [hc5]; decide) (by rw [hc5]; decide) (by rw [hc5]; decide) (by decide) ?_
    refine lv_aload_n F.1 F.2.1 dX3_change_32 rfl (lv_at hl 1 rfl) ?_
    refine lv_iload_n F.1 F.2.1 dX3_change_33 rfl (lv_at hl 3 rfl) ?_
    refine qX3_15 F hw hx dX3_change_34 hf (fun M6 H7 o8 hw hf => ?_)
    refine lv_goto F.1 F.2.1 dX3_change_37 (tgt := 61) (by decide) ?_
    refine lv_iload_n F.1 F.2.1 dX3_change_61 rfl (lv_at hl 0 rfl) ?_
    exact r_iret_w F hw (vp_nar_int _) dX3_change_62 hf
  · rw [if_neg hc5] at hf
    by_cases hc9 : v1 = (1 : Int32)
    · rw [if_pos hc9] at hf
      refine lv_tableIn F.1 F.2.1 dX3_change_7 (tgt := 40) (off := 33) (by rw [hc9]; decide) (by rw [hc9]; decide) (by rw [hc9]; decide) (by decide) ?_
      refine lv_aload_n F.1 F.2.1 dX3_change_40 rfl (lv_at hl 1 rfl) ?_
      refine lv_iload_n F.1 F.2.1 dX3_change_41 rfl (lv_at hl 3 rfl) ?_
      refine qX3_19 F hw hx dX3_change_42 hf (fun M10 H11 o12 hw hf => ?_)
      refine lv_goto F.1 F.2.1 dX3_change_45 (tgt := 61) (by decide) ?_
      refine lv_iload_n F.1 F.2.1 dX3_change_61 rfl (lv_at hl 0 rfl) ?_
      exact r_iret_w F hw (vp_nar_int _) dX3_change_62 hf
    · rw [if_neg hc9] at hf
      by_cases hc13 : v1 = (2 : Int32)
      · rw [if_pos hc13] at hf
        refine lv_tableIn F.1 F.2.1 dX3_change_7 (tgt := 48) (off := 41) (by rw [hc13]; decide) (by rw [hc13]; decide) (by rw [hc13]; decide) (by decide) ?_
        refine lv_aload_n F.1 F.2.1 dX3_change_48 rfl (lv_at hl 1 rfl) ?_
        refine lv_iload_n F.1 F.2.1 dX3_change_49 rfl (lv_at hl 3 rfl) ?_
        refine qX3_22 F hw hx dX3_change_50 hf (fun M14 H15 o16 hw hf => ?_)
        refine lv_goto F.1 F.2.1 dX3_change_53 (tgt := 61) (by decide) ?_
        refine lv_iload_n F.1 F.2.1 dX3_change_61 rfl (lv_at hl 0 rfl) ?_
        exact r_iret_w F hw (vp_nar_int _) dX3_change_62 hf
      · rw [if_neg hc13] at hf
        refine lv_tableOut F.1 F.2.1 dX3_change_7 (tgt := 56) (by have hc5t := lv_neT (a := 0) hc5 (by decide); have hc9t := lv_neT (a := 1) hc9 (by decide); have hc13t := lv_neT (a := 2) hc13 (by decide); omega) (by decide) ?_
        refine lv_aload_n F.1 F.2.1 dX3_change_56 rfl (lv_at hl 1 rfl) ?_
        refine lv_iload_n F.1 F.2.1 dX3_change_57 rfl (lv_at hl 3 rfl) ?_
        refine qX3_25 F hw hx dX3_change_58 hf (fun M17 H18 o19 hw hf => ?_)
        refine lv_iload_n F.1 F.2.1 dX3_change_61 rfl (lv_at hl 0 rfl) ?_
        exact r_iret_w F hw (vp_nar_int _) dX3_change_62 hf
theorem clX7_81 (F : Fx D cA RX7 cc nL ret p s m args meth c) (hw : Wd shC D cA ad H0 M H locs) (hl : lv_has ls nL lv) {x : Nat} (hx : shC[x]? = some (.inr (3, sf3))) {v1 : Int32} {v2 : Int32} (hR : 2 ≤ R.frames ∧ 44 ≤ R.locals) (hrm : (rest.map fun v => v.category).sum ≤ 8) (hd : decode cc pc = .ok (.invokevirtual 81, 3)) {α : Type} {K : Int32 → Mem → Option α} {res : α} (hf : bnd2 (fX3_change x v1 v2 M) K = some res) (kk : ∀ (t : Int32) (M1 : Mem) (H1 : Heap) (locs1 : List Loc), Wd shC D cA ad H0 M1 H1 locs1 → narrow .int (.int t) = .int t → K t M1 = some res → W p l e R s m args below meth c H1 locs1 0 0 Q (F0 m (pc + 3) ls (.int t :: rest))) : W p l e R s m args below meth c H locs 0 0 Q (F0 m pc ls (.int v2 :: .int v1 :: .ref (ad x) :: rest)) := by
  obtain ⟨t, M1, h1, h2⟩ := bnd2_some hf
  exact r_afti hw (r_runV (As := [.int v1, .int v2]) F hw hl (cX3_change_ok l D cA ad M hx v1 v2 t M1 h1) cz3 hx cwX7_81 hR hrm hd) (fun H1 o1 hw1 hn => kk t M1 H1 o1 hw1 hn h2)
def fX6_gateBits_L4 : Nat → Int32 → Int32 → Int32 → Mem → Option (Int32)
  | 0, _, _, _, _ => none
  | n + 1, v1, v2, v3, M =>
    if (4 : Int32) ≤ v3 then
      some v2
    else
      bnd1 (fX6_heardAt v1 v3 M) fun t6 =>
      if t6 = (-1 : Int32) then
        fX6_gateBits_L4 n v1 v2 (v3 + (1 : Int32)) M
      else
        fX6_gateBits_L4 n v1 (v2 ||| (jshl (1 : Int32) v3)) (v3 + (1 : Int32)) M
def fX6_gateBits (v1 : Int32) (M : Mem) : Option Int32 :=
  bnd1 (fX6_gateBits_L4 FUEL v1 (0 : Int32) (0 : Int32) M) fun w12 =>
  some w12
set_option maxHeartbeats 4000000 in
set_option maxRecDepth 100000 in
theorem wX6_gateBits_L4 {p : Program} {l : Launch} {e : Env} {s : State} {m : MethodId} {args : Array Value} {below : List Frame} {meth : Method} {c : Code} {D : va_G} {cA : Nat → ClassId} {ad : Nat → Nat} {Q : State → Prop} (F : Fx D cA RX6 cX6_gateBits 4 (some .int) p s m args meth c) : ∀ (n : Nat) (v1 : Int32) (v2 : Int32) (v3 : Int32) (M : Mem) (H : Heap) (o : List Loc) (ls : Array Slot), lv_has ls 4 [(0, .ref (ad 34)), (1, .int v1), (2, .int v2), (3, .int v3)] → Wd shC D cA ad s.heap M H o → ∀ (u2 : Int32), fX6_gateBits_L4 n v1 v2 v3 M = some u2 → (∀ (H1 : Heap) (o1 : List Loc) (ls1 : Array Slot), lv_has ls1 4 [(2, .int u2)] → Wd shC D cA ad s.heap M H1 o1 → W p l e (rz 1 22) s m args below meth c H1 o1 0 0 Q (F0 m 31 ls1 [])) → W p l e (rz 1 22) s m args below meth c H o 0 0 Q (F0 m 4 ls []) := by
  intro n
  induction n with
  | zero =>
    intro v1 v2 v3 M H o ls hl hw u2 hf kk
    cases hf
  | succ n ih =>
    intro v1 v2 v3 M H o ls hl hw u2 hf kk
    rw [fX6_gateBits_L4] at hf
    refine lv_iload_n F.1 F.2.1 dX6_gateBits_4 rfl (lv_at hl 3 rfl) ?_
    refine k_iconst_4 F dX6_gateBits_5 ?_
    refine b_icmp_ge F dX6_gateBits_6 (tgt := 31) (by decide) hf (fun hc11 hf => ?_) (fun hc11 hf => ?_)
    · cases hf
      exact kk _ _ _ (lv_sub hl [2] rfl) hw
    · refine lv_aload_n F.1 F.2.1 dX6_gateBits_9 rfl (lv_at hl 0 rfl) ?_
      refine lv_iload_n F.1 F.2.1 dX6_gateBits_10 rfl (lv_at hl 1 rfl) ?_
      refine lv_iload_n F.1 F.2.1 dX6_gateBits_11 rfl (lv_at hl 3 rfl) ?_
      refine clX6_34 F hw hl ⟨Nat.le_of_ble_eq_true rfl, Nat.le_of_ble_eq_true rfl⟩ (Nat.le_of_ble_eq_true rfl) dX6_gateBits_12 hf (fun t6 H3 o4 hw hn5 hf => ?_)
      refine k_iconst_m1 F dX6_gateBits_15 ?_
      refine b_icmp_eq F dX6_gateBits_16 (tgt := 25) (by decide) hf (fun hc10 hf => ?_) (fun hc10 hf => ?_)
      · refine lv_iinc F.1 F.2.1 dX6_gateBits_25 hl (k := 3) rfl (ki_1 _) (lv' := [(3, .int (v3 + (1 : Int32))), (0, .ref (ad 34)), (1, .int v1), (2, .int v2)]) (Nat.le_of_ble_eq_true rfl) rfl (fun ls7 hl => ?_)
        refine lv_goto F.1 F.2.1 dX6_gateBits_28 (tgt := 4) (by decide) ?_
        exact ih v1 v2 (v3 + (1 : Int32)) M _ _ _ (lv_sub hl [1, 2, 3, 0] rfl) hw u2 hf kk
      · refine lv_iload_n F.1 F.2.1 dX6_gateBits_19 rfl (lv_at hl 2 rfl) ?_
        refine k_iconst_1 F dX6_gateBits_20 ?_
        refine lv_iload_n F.1 F.2.1 dX6_gateBits_21 rfl (lv_at hl 3 rfl) ?_
        refine k_ishl F dX6_gateBits_22 ?_
        refine lv_ior F.1 F.2.1 dX6_gateBits_23 ?_
        refine lv_istore_n F.1 F.2.1 dX6_gateBits_24 rfl hl (lv' := [(2, .int (v2 ||| (jshl (1 : Int32) v3))), (0, .ref (ad 34)), (1, .int v1), (3, .int v3)]) (Nat.le_of_ble_eq_true rfl) rfl (fun ls8 hl => ?_)
        refine lv_iinc F.1 F.2.1 dX6_gateBits_25 hl (k := 3) rfl (ki_1 _) (lv' := [(3, .int (v3 + (1 : Int32))), (2, .int (v2 ||| (jshl (1 : Int32) v3))), (0, .ref (ad 34)), (1, .int v1)]) (Nat.le_of_ble_eq_true rfl) rfl (fun ls9 hl => ?_)
        refine lv_goto F.1 F.2.1 dX6_gateBits_28 (tgt := 4) (by decide) ?_
        exact ih v1 (v2 ||| (jshl (1 : Int32) v3)) (v3 + (1 : Int32)) M _ _ _ (lv_sub hl [2, 3, 1, 0] rfl) hw u2 hf kk
set_option maxHeartbeats 4000000 in
set_option maxRecDepth 100000 in
theorem cX6_gateBits_ok (l : Launch) (D : va_G) (cA : Nat → ClassId) (ad : Nat → Nat) (M : Mem) (v1 : Int32) (r : Int32) (hf : fX6_gateBits v1 M = some r) : Ctg l yX6_gateBits cX6_gateBits 4 (some .int) 1 22 shC D cA ad [.ref (ad 34), .int v1] M (Qzi shC D cA ad .int r M) := by
  refine ct_in (by decide) (Nat.le_of_ble_eq_true rfl) ?_
  intro p e s m below meth c ls F hl hw
  have hl : lv_has ls 4 [(0, .ref (ad 34)), (1, .int v1)] := hl
  unfold fX6_gateBits at hf
  refine k_iconst_0 F dX6_gateBits_0 ?_
  refine lv_istore_n F.1 F.2.1 dX6_gateBits_1 rfl hl (lv' := [(2, .int (0 : Int32)), (0, .ref (ad 34)), (1, .int v1)]) (Nat.le_of_ble_eq_true rfl) rfl (fun ls1 hl => ?_)
  refine k_iconst_0 F dX6_gateBits_2 ?_
  refine lv_istore_n F.1 F.2.1 dX6_gateBits_3 rfl hl (lv' := [(3, .int (0 : Int32)), (2, .int (0 : Int32)), (0, .ref (ad 34)), (1, .int v1)]) (Nat.le_of_ble_eq_true rfl) rfl (fun ls2 hl => ?_)
  obtain ⟨w12, hq16, hf⟩ := bnd1_some hf
  refine wX6_gateBits_L4 F FUEL v1 (0 : Int32) (0 : Int32) M _ _ _ (lv_sub hl [2, 3, 1, 0] rfl) hw w12 hq16 (fun H13 o14 ls15 hl hw => ?_)
  refine lv_iload_n F.1 F.2.1 dX6_gateBits_31 rfl (lv_at hl 0 rfl) ?_
  exact r_iret_o F hw (vp_nar_int _) dX6_gateBits_32 hf
theorem clX6_43 (F : Fx D cA RX6 cc nL ret p s m args meth c) (hw : Wd shC D cA ad H0 M H locs) (hl : lv_has ls nL lv) {v1 : Int32} (hR : 2 ≤ R.frames ∧ 45 ≤ R.locals) (hrm : (rest.map fun v => v.category).sum ≤ 8) (hd : decode cc pc = .ok (.invokevirtual 43, 3)) {α : Type} {K : Int32 → Option α} {res : α} (hf : bnd1 (fX6_gateBits v1 M) K = some res) (kk : ∀ (t : Int32) (H1 : Heap) (locs1 : List Loc), Wd shC D cA ad H0 M H1 locs1 → narrow .int (.int t) = .int t → K t = some res → W p l e R s m args below meth c H1 locs1 0 0 Q (F0 m (pc + 3) ls (.int t :: rest))) : W p l e R s m args below meth c H locs 0 0 Q (F0 m pc ls (.int v1 :: .ref (ad 34) :: rest)) := by
  obtain ⟨t, h1, h2⟩ := bnd1_some hf
  exact r_afti hw (r_runV (As := [.int v1]) F hw hl (cX6_gateBits_ok l D cA ad M v1 t h1) cz6 (show shC[34]? = some (.inr (6, sf6)) from rfl) cwX6_43 hR hrm hd) (fun H1 o1 hw1 hn => kk t H1 o1 hw1 hn h2)
def fX6_value (v1 : Int32) (v2 : Int32) (M : Mem) : Option Int32 :=
  if v2 = (0 : Int32) then
    ix v1 390 <|
    some (M 35 v1.toNatClampNeg)
  else if v2 = (1 : Int32) then
    ix v1 390 <|
    some (M 36 v1.toNatClampNeg)
  else 
    bnd1 (fX6_gateBits v1 M) fun t8 =>
    some t8
set_option maxHeartbeats 4000000 in
set_option maxRecDepth 100000 in
theorem cX6_value_ok (l : Launch) (D : va_G) (cA : Nat → ClassId) (ad : Nat → Nat) (M : Mem) (v1 : Int32) (v2 : Int32) (r : Int32) (hf : fX6_value v1 v2 M = some r) : Ctg l yX6_value cX6_value 3 (some .int) 2 45 shC D cA ad [.ref (ad 34), .int v1, .int v2] M (Qzi shC D cA ad .int r M) := by
  refine ct_in (by decide) (Nat.le_of_ble_eq_true rfl) ?_
  intro p e s m below meth c ls F hl hw
  have hl : lv_has ls 3 [(0, .ref (ad 34)), (1, .int v1), (2, .int v2)] := hl
  unfold fX6_value at hf
  refine lv_iload_n F.1 F.2.1 dX6_value_0 rfl (lv_at hl 2 rfl) ?_
  by_cases hc1 : v2 = (0 : Int32)
  · rw [if_pos hc1] at hf
    refine lv_lookup F.1 F.2.1 dX6_value_1 (tgt := 28) (off := 27) (by decide) (by rw [hc1]; decide) (by decide) ?_
    refine lv_aload_n F.1 F.2.1 dX6_value_28 rfl (lv_at hl 0 rfl) ?_
    refine gX6_9 F hw rfl dX6_value_29 ?_
    refine lv_iload_n F.1 F.2.1 dX6_value_32 rfl (lv_at hl 1 rfl) ?_
    refine r_iald F hw (n := 390) rfl dX6_value_33 hf (fun hi2 hf => ?_)
    exact r_iret_o F hw (vp_nar_int _) dX6_value_34 hf
  · rw [if_neg hc1] at hf
    by_cases hc3 : v2 = (1 : Int32)
    · rw [if_pos hc3] at hf
      refine lv_lookup F.1 F.2.1 dX6_value_1 (tgt := 35) (off := 34) (by decide) (by rw [hc3]; decide) (by decide) ?_
      refine lv_aload_n F.1 F.2.1 dX6_value_35 rfl (lv_at hl 0 rfl) ?_
      refine gX6_15 F hw rfl dX6_value_36 ?_
      refine lv_iload_n F.1 F.2.1 dX6_value_39 rfl (lv_at hl 1 rfl) ?_
      refine r_iald F hw (n := 390) rfl dX6_value_40 hf (fun hi4 hf => ?_)
      exact r_iret_o F hw (vp_nar_int _) dX6_value_41 hf
    · rw [if_neg hc3] at hf
      refine lv_lookup F.1 F.2.1 dX6_value_1 (tgt := 42) (off := 41) (by decide) ((lv_osw hc1 (by decide)).trans ((lv_osw hc3 (by decide)).trans rfl)) (by decide) ?_
      refine lv_aload_n F.1 F.2.1 dX6_value_42 rfl (lv_at hl 0 rfl) ?_
      refine lv_iload_n F.1 F.2.1 dX6_value_43 rfl (lv_at hl 1 rfl) ?_
      refine clX6_43 F hw hl ⟨Nat.le_of_ble_eq_true rfl, Nat.le_of_ble_eq_true rfl⟩ (Nat.le_of_ble_eq_true rfl) dX6_value_44 hf (fun t8 H5 o6 hw hn7 hf => ?_)
      exact r_iret_o F hw (vp_nar_int _) dX6_value_47 hf
theorem clX7_148 (F : Fx D cA RX7 cc nL ret p s m args meth c) (hw : Wd shC D cA ad H0 M H locs) (hl : lv_has ls nL lv) {v1 : Int32} {v2 : Int32} (hR : 3 ≤ R.frames ∧ 67 ≤ R.locals) (hrm : (rest.map fun v => v.category).sum ≤ 8) (hd : decode cc pc = .ok (.invokevirtual 148, 3)) {α : Type} {K : Int32 → Option α} {res : α} (hf : bnd1 (fX6_value v1 v2 M) K = some res) (kk : ∀ (t : Int32) (H1 : Heap) (locs1 : List Loc), Wd shC D cA ad H0 M H1 locs1 → narrow .int (.int t) = .int t → K t = some res → W p l e R s m args below meth c H1 locs1 0 0 Q (F0 m (pc + 3) ls (.int t :: rest))) : W p l e R s m args below meth c H locs 0 0 Q (F0 m pc ls (.int v2 :: .int v1 :: .ref (ad 34) :: rest)) := by
  obtain ⟨t, h1, h2⟩ := bnd1_some hf
  exact r_afti hw (r_runV (As := [.int v1, .int v2]) F hw hl (cX6_value_ok l D cA ad M v1 v2 t h1) cz6 (show shC[34]? = some (.inr (6, sf6)) from rfl) cwX7_148 hR hrm hd) (fun H1 o1 hw1 hn => kk t H1 o1 hw1 hn h2)
end RW
