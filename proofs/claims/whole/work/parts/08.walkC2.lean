section RW
variable {p : Program} {l : Launch} {e : Env} {R : Room} {s : State} {m : MethodId} {args : Array Value} {below : List Frame} {meth : Method} {c : Code} {H : Heap} {locs : List Loc} {Q : State → Prop}
variable {sh : List Sh} {D : va_G} {cA : Nat → ClassId} {ad : Nat → Nat} {H0 : Heap} {M : Mem} {cc : ByteArray} {own : String} {nL : Nat} {ret : Option FieldType} {pc : Nat} {ls : Array Slot} {rest : List Value} {lv : List (Nat × Value)}
def fX2_startAnew_L53 : Nat → Int32 → Mem → Option (Mem)
  | 0, _, _ => none
  | n + 1, v1, M =>
    if (6 : Int32) ≤ v1 then
      some M
    else
      ix v1 6 <|
      bnd1 (fX3_becomeNew (11 + v1.toNatClampNeg) M) fun M33 =>
      bnd1 (fX3_becomeUnknown (11 + v1.toNatClampNeg) M33) fun M37 =>
      bnd1 (fJ7_fill_53178 (4 + v1.toNatClampNeg) (20 : Int32) M37) fun M41 =>
      fX2_startAnew_L53 n (v1 + (1 : Int32)) M41
def fX2_startAnew_L96 : Nat → Int32 → Mem → Option (Mem)
  | 0, _, _ => none
  | n + 1, v1, M =>
    if (4 : Int32) ≤ v1 then
      some M
    else
      ix v1 4 <|
      bnd1 (fX1_becomeNew (24 + v1.toNatClampNeg) M) fun M53 =>
      fX2_startAnew_L96 n (v1 + (1 : Int32)) M53
def fX2_startAnew (M : Mem) : Option Mem :=
  wr M 1 3 (0 : Int32) fun M1 =>
  wr M1 28 5 (0 : Int32) fun M4 =>
  wr M4 34 4 (0 : Int32) fun M7 =>
  wr M7 1 10 (0 : Int32) fun M10 =>
  wr M10 1 11 (0 : Int32) fun M13 =>
  wr M13 1 12 (0 : Int32) fun M16 =>
  wr M16 1 13 (0 : Int32) fun M19 =>
  wr M19 1 14 (0 : Int32) fun M22 =>
  wr M22 1 15 (0 : Int32) fun M25 =>
  bnd1 (fX2_startAnew_L53 FUEL (0 : Int32) M25) fun M44 =>
  bnd1 (fX2_startAnew_L96 FUEL (0 : Int32) M44) fun M56 =>
  some M56
set_option maxHeartbeats 4000000 in
set_option maxRecDepth 100000 in
theorem wX2_startAnew_L53 {p : Program} {l : Launch} {e : Env} {s : State} {m : MethodId} {args : Array Value} {below : List Frame} {meth : Method} {c : Code} {D : va_G} {cA : Nat → ClassId} {ad : Nat → Nat} {Q : State → Prop} (F : Fx D cA RX2 cX2_startAnew 2 none p s m args meth c) : ∀ (n : Nat) (v1 : Int32) (M : Mem) (H : Heap) (o : List Loc) (ls : Array Slot), lv_has ls 2 [(0, .ref (ad 1)), (1, .int v1)] → Wd shC D cA ad s.heap M H o → ∀ (M' : Mem), fX2_startAnew_L53 n v1 M = some M' → (∀ (H1 : Heap) (o1 : List Loc) (ls1 : Array Slot), lv_has ls1 2 [(0, .ref (ad 1))] → Wd shC D cA ad s.heap M' H1 o1 → W p l e (rz 1 23) s m args below meth c H1 o1 0 0 Q (F0 m 94 ls1 [])) → W p l e (rz 1 23) s m args below meth c H o 0 0 Q (F0 m 53 ls []) := by
  intro n
  induction n with
  | zero =>
    intro v1 M H o ls hl hw M' hf kk
    cases hf
  | succ n ih =>
    intro v1 M H o ls hl hw M' hf kk
    rw [fX2_startAnew_L53] at hf
    refine lv_iload_n F.1 F.2.1 dX2_startAnew_53 rfl (lv_at hl 1 rfl) ?_
    refine k_bipush_6 F dX2_startAnew_54 ?_
    refine b_icmp_ge F dX2_startAnew_56 (tgt := 94) (by decide) hf (fun hc43 hf => ?_) (fun hc43 hf => ?_)
    · cases hf
      exact kk _ _ _ (lv_sub hl [0] rfl) hw
    · refine lv_aload_n F.1 F.2.1 dX2_startAnew_59 rfl (lv_at hl 0 rfl) ?_
      refine gX2_28 F hw rfl dX2_startAnew_60 ?_
      refine lv_iload_n F.1 F.2.1 dX2_startAnew_63 rfl (lv_at hl 1 rfl) ?_
      refine r_aald F hw (t := 2) (b := 11) (n := 6) rfl rfl rfl dX2_startAnew_64 hf (fun hi29 hf => ?_)
      refine clX2_86 F hw hl (sh_in11 hi29) ⟨Nat.le_of_ble_eq_true rfl, Nat.le_of_ble_eq_true rfl⟩ (Nat.le_of_ble_eq_true rfl) dX2_startAnew_65 hf (fun M33 H30 o31 hw hf => ?_)
      refine lv_aload_n F.1 F.2.1 dX2_startAnew_68 rfl (lv_at hl 0 rfl) ?_
      refine gX2_28 F hw rfl dX2_startAnew_69 ?_
      refine lv_iload_n F.1 F.2.1 dX2_startAnew_72 rfl (lv_at hl 1 rfl) ?_
      refine r_aald0 F hw (t := 2) (b := 11) (n := 6) rfl rfl rfl dX2_startAnew_73 hi29 ?_
      refine clX2_89 F hw hl (sh_in11 hi29) ⟨Nat.le_of_ble_eq_true rfl, Nat.le_of_ble_eq_true rfl⟩ (Nat.le_of_ble_eq_true rfl) dX2_startAnew_74 hf (fun M37 H34 o35 hw hf => ?_)
      refine lv_aload_n F.1 F.2.1 dX2_startAnew_77 rfl (lv_at hl 0 rfl) ?_
      refine gX2_23 F hw rfl dX2_startAnew_78 ?_
      refine lv_iload_n F.1 F.2.1 dX2_startAnew_81 rfl (lv_at hl 1 rfl) ?_
      refine r_aald0 F hw (t := 1) (b := 4) (n := 6) rfl rfl rfl dX2_startAnew_82 hi29 ?_
      refine k_bipush_20 F dX2_startAnew_83 ?_
      refine clX2_92 F hw hl (sh_in4 hi29) ⟨Nat.le_of_ble_eq_true rfl, Nat.le_of_ble_eq_true rfl⟩ (Nat.le_of_ble_eq_true rfl) dX2_startAnew_85 hf (fun M41 H38 o39 hw hf => ?_)
      refine lv_iinc F.1 F.2.1 dX2_startAnew_88 hl (k := 1) rfl (ki_1 _) (lv' := [(1, .int (v1 + (1 : Int32))), (0, .ref (ad 1))]) (Nat.le_of_ble_eq_true rfl) rfl (fun ls42 hl => ?_)
      refine lv_goto F.1 F.2.1 dX2_startAnew_91 (tgt := 53) (by decide) ?_
      exact ih (v1 + (1 : Int32)) M41 _ _ _ (lv_sub hl [1, 0] rfl) hw  M' hf kk
set_option maxHeartbeats 4000000 in
set_option maxRecDepth 100000 in
theorem wX2_startAnew_L96 {p : Program} {l : Launch} {e : Env} {s : State} {m : MethodId} {args : Array Value} {below : List Frame} {meth : Method} {c : Code} {D : va_G} {cA : Nat → ClassId} {ad : Nat → Nat} {Q : State → Prop} (F : Fx D cA RX2 cX2_startAnew 2 none p s m args meth c) : ∀ (n : Nat) (v1 : Int32) (M : Mem) (H : Heap) (o : List Loc) (ls : Array Slot), lv_has ls 2 [(0, .ref (ad 1)), (1, .int v1)] → Wd shC D cA ad s.heap M H o → ∀ (M' : Mem), fX2_startAnew_L96 n v1 M = some M' → (∀ (H1 : Heap) (o1 : List Loc) (ls1 : Array Slot), lv_has ls1 2 [] → Wd shC D cA ad s.heap M' H1 o1 → W p l e (rz 1 23) s m args below meth c H1 o1 0 0 Q (F0 m 116 ls1 [])) → W p l e (rz 1 23) s m args below meth c H o 0 0 Q (F0 m 96 ls []) := by
  intro n
  induction n with
  | zero =>
    intro v1 M H o ls hl hw M' hf kk
    cases hf
  | succ n ih =>
    intro v1 M H o ls hl hw M' hf kk
    rw [fX2_startAnew_L96] at hf
    refine lv_iload_n F.1 F.2.1 dX2_startAnew_96 rfl (lv_at hl 1 rfl) ?_
    refine k_iconst_4 F dX2_startAnew_97 ?_
    refine b_icmp_ge F dX2_startAnew_98 (tgt := 116) (by decide) hf (fun hc55 hf => ?_) (fun hc55 hf => ?_)
    · cases hf
      exact kk _ _ _ (lv_sub hl [] rfl) hw
    · refine lv_aload_n F.1 F.2.1 dX2_startAnew_101 rfl (lv_at hl 0 rfl) ?_
      refine gX2_34 F hw rfl dX2_startAnew_102 ?_
      refine lv_iload_n F.1 F.2.1 dX2_startAnew_105 rfl (lv_at hl 1 rfl) ?_
      refine r_aald F hw (t := 3) (b := 24) (n := 4) rfl rfl rfl dX2_startAnew_106 hf (fun hi49 hf => ?_)
      refine clX2_98 F hw hl (sh_in24 hi49) ⟨Nat.le_of_ble_eq_true rfl, Nat.le_of_ble_eq_true rfl⟩ (Nat.le_of_ble_eq_true rfl) dX2_startAnew_107 hf (fun M53 H50 o51 hw hf => ?_)
      refine lv_iinc F.1 F.2.1 dX2_startAnew_110 hl (k := 1) rfl (ki_1 _) (lv' := [(1, .int (v1 + (1 : Int32))), (0, .ref (ad 1))]) (Nat.le_of_ble_eq_true rfl) rfl (fun ls54 hl => ?_)
      refine lv_goto F.1 F.2.1 dX2_startAnew_113 (tgt := 96) (by decide) ?_
      exact ih (v1 + (1 : Int32)) M53 _ _ _ (lv_sub hl [1, 0] rfl) hw  M' hf kk
set_option maxHeartbeats 4000000 in
set_option maxRecDepth 100000 in
theorem cX2_startAnew_ok (l : Launch) (D : va_G) (cA : Nat → ClassId) (ad : Nat → Nat) (M : Mem)  (M' : Mem) (hf : fX2_startAnew M = some M') : Ctg l yX2_startAnew cX2_startAnew 2 none 1 23 shC D cA ad [.ref (ad 1)] M (Qzv shC D cA ad M') := by
  refine ct_in (by decide) (Nat.le_of_ble_eq_true rfl) ?_
  intro p e s m below meth c ls F hl hw
  have hl : lv_has ls 2 [(0, .ref (ad 1))] := hl
  unfold fX2_startAnew at hf
  refine lv_aload_n F.1 F.2.1 dX2_startAnew_0 rfl (lv_at hl 0 rfl) ?_
  refine k_iconst_0 F dX2_startAnew_1 ?_
  refine qX2_61 F hw rfl dX2_startAnew_2 hf (fun M1 H2 o3 hw hf => ?_)
  refine lv_aload_n F.1 F.2.1 dX2_startAnew_5 rfl (lv_at hl 0 rfl) ?_
  refine gX2_41 F hw rfl dX2_startAnew_6 ?_
  refine k_iconst_0 F dX2_startAnew_9 ?_
  refine qX2_64 F hw rfl dX2_startAnew_10 hf (fun M4 H5 o6 hw hf => ?_)
  refine lv_aload_n F.1 F.2.1 dX2_startAnew_13 rfl (lv_at hl 0 rfl) ?_
  refine gX2_48 F hw rfl dX2_startAnew_14 ?_
  refine k_iconst_0 F dX2_startAnew_17 ?_
  refine qX2_67 F hw rfl dX2_startAnew_18 hf (fun M7 H8 o9 hw hf => ?_)
  refine lv_aload_n F.1 F.2.1 dX2_startAnew_21 rfl (lv_at hl 0 rfl) ?_
  refine k_iconst_0 F dX2_startAnew_22 ?_
  refine qX2_68 F hw rfl dX2_startAnew_23 hf (fun M10 H11 o12 hw hf => ?_)
  refine lv_aload_n F.1 F.2.1 dX2_startAnew_26 rfl (lv_at hl 0 rfl) ?_
  refine k_iconst_0 F dX2_startAnew_27 ?_
  refine qX2_71 F hw rfl dX2_startAnew_28 hf (fun M13 H14 o15 hw hf => ?_)
  refine lv_aload_n F.1 F.2.1 dX2_startAnew_31 rfl (lv_at hl 0 rfl) ?_
  refine k_iconst_0 F dX2_startAnew_32 ?_
  refine qX2_74 F hw rfl dX2_startAnew_33 hf (fun M16 H17 o18 hw hf => ?_)
  refine lv_aload_n F.1 F.2.1 dX2_startAnew_36 rfl (lv_at hl 0 rfl) ?_
  refine k_iconst_0 F dX2_startAnew_37 ?_
  refine qX2_77 F hw rfl dX2_startAnew_38 hf (fun M19 H20 o21 hw hf => ?_)
  refine lv_aload_n F.1 F.2.1 dX2_startAnew_41 rfl (lv_at hl 0 rfl) ?_
  refine k_iconst_0 F dX2_startAnew_42 ?_
  refine qX2_80 F hw rfl dX2_startAnew_43 hf (fun M22 H23 o24 hw hf => ?_)
  refine lv_aload_n F.1 F.2.1 dX2_startAnew_46 rfl (lv_at hl 0 rfl) ?_
  refine k_iconst_0 F dX2_startAnew_47 ?_
  refine qX2_83 F hw rfl dX2_startAnew_48 hf (fun M25 H26 o27 hw hf => ?_)
  refine k_iconst_0 F dX2_startAnew_51 ?_
  refine lv_istore_n F.1 F.2.1 dX2_startAnew_52 rfl hl (lv' := [(1, .int (0 : Int32)), (0, .ref (ad 1))]) (Nat.le_of_ble_eq_true rfl) rfl (fun ls28 hl => ?_)
  obtain ⟨M44, hq61, hf⟩ := bnd1_some hf
  refine wX2_startAnew_L53 F FUEL (0 : Int32) M25 _ _ _ (lv_sub hl [1, 0] rfl) hw M44 hq61 (fun H45 o46 ls47 hl hw => ?_)
  refine k_iconst_0 F dX2_startAnew_94 ?_
  refine lv_istore_n F.1 F.2.1 dX2_startAnew_95 rfl hl (lv' := [(1, .int (0 : Int32)), (0, .ref (ad 1))]) (Nat.le_of_ble_eq_true rfl) rfl (fun ls48 hl => ?_)
  obtain ⟨M56, hq60, hf⟩ := bnd1_some hf
  refine wX2_startAnew_L96 F FUEL (0 : Int32) M44 _ _ _ (lv_sub hl [1, 0] rfl) hw M56 hq60 (fun H57 o58 ls59 hl hw => ?_)
  exact r_vret_w F hw dX2_startAnew_116 hf
theorem clX7_23 (F : Fx D cA RX7 cc nL ret p s m args meth c) (hw : Wd shC D cA ad H0 M H locs) (hl : lv_has ls nL lv) (hR : 2 ≤ R.frames ∧ 44 ≤ R.locals) (hrm : (rest.map fun v => v.category).sum ≤ 8) (hd : decode cc pc = .ok (.invokevirtual 23, 3)) {α : Type} {K : Mem → Option α} {res : α} (hf : bnd1 (fX2_startAnew M) K = some res) (kk : ∀ (M1 : Mem) (H1 : Heap) (locs1 : List Loc), Wd shC D cA ad H0 M1 H1 locs1 → K M1 = some res → W p l e R s m args below meth c H1 locs1 0 0 Q (F0 m (pc + 3) ls rest)) : W p l e R s m args below meth c H locs 0 0 Q (F0 m pc ls (.ref (ad 1) :: rest)) := by
  obtain ⟨M1, h1, h2⟩ := bnd1_some hf
  exact r_aftv hw (r_runV (As := []) F hw hl (cX2_startAnew_ok l D cA ad M M1 h1) cz2 (show shC[1]? = some (.inr (2, sf2)) from rfl) cwX7_23 hR hrm hd) (fun H1 o1 hw1 => kk M1 H1 o1 hw1 h2)
def fX2_drawGains_L21 : Nat → Int64 → Int32 → Int32 → Int32 → Mem → Option (Int64 × Int32 × Mem)
  | 0, _, _, _, _, _ => none
  | n + 1, v2, v4, v5, v6, M =>
    if (M 1 1) ≤ v6 then
      some (v2, v4, M)
    else
      ix v5 6 <|
      ix v6 4 <| wr M (4 + v5.toNatClampNeg) v6.toNatClampNeg (jlrem (jldiv (jlrem ((v2 * (1103515245 : Int64)) + (12345 : Int64)) (2147483648 : Int64)) (65536 : Int64)) (61 : Int64)).toInt32 fun M8 =>
      fX2_drawGains_L21 n (jlrem ((v2 * (1103515245 : Int64)) + (12345 : Int64)) (2147483648 : Int64)) (v4 + (M8 (4 + v5.toNatClampNeg) v6.toNatClampNeg)) v5 (v6 + (1 : Int32)) M8
def fX2_drawGains_L9 : Nat → Int64 → Int32 → Int32 → Mem → Option (Int32 × Mem)
  | 0, _, _, _, _ => none
  | n + 1, v2, v4, v5, M =>
    if (M 1 0) ≤ v5 then
      some (v4, M)
    else
      bnd3 (fX2_drawGains_L21 FUEL v2 v4 v5 (0 : Int32) M) fun w14 w15 M16 =>
      fX2_drawGains_L9 n w14 w15 (v5 + (1 : Int32)) M16
def fX2_drawGains (v1 : Int32) (M : Mem) : Option (Int32 × Mem) :=
  bnd2 (fX2_drawGains_L9 FUEL v1.toInt64 (0 : Int32) (0 : Int32) M) fun w23 M24 =>
  some (w23, M24)
set_option maxHeartbeats 4000000 in
set_option maxRecDepth 100000 in
theorem wX2_drawGains_L21 {p : Program} {l : Launch} {e : Env} {s : State} {m : MethodId} {args : Array Value} {below : List Frame} {meth : Method} {c : Code} {D : va_G} {cA : Nat → ClassId} {ad : Nat → Nat} {Q : State → Prop} (F : Fx D cA RX2 cX2_drawGains 7 (some .int) p s m args meth c) : ∀ (n : Nat) (v2 : Int64) (v4 : Int32) (v5 : Int32) (v6 : Int32) (M : Mem) (H : Heap) (o : List Loc) (ls : Array Slot), lv_has ls 7 [(0, .ref (ad 1)), (2, .long v2), (4, .int v4), (5, .int v5), (6, .int v6)] → Wd shC D cA ad s.heap M H o → ∀ (u2 : Int64) (u4 : Int32) (M' : Mem), fX2_drawGains_L21 n v2 v4 v5 v6 M = some (u2, u4, M') → (∀ (H1 : Heap) (o1 : List Loc) (ls1 : Array Slot), lv_has ls1 7 [(2, .long u2), (4, .int u4), (0, .ref (ad 1)), (5, .int v5)] → Wd shC D cA ad s.heap M' H1 o1 → W p l e (rz 0 0) s m args below meth c H1 o1 0 0 Q (F0 m 85 ls1 [])) → W p l e (rz 0 0) s m args below meth c H o 0 0 Q (F0 m 21 ls []) := by
  intro n
  induction n with
  | zero =>
    intro v2 v4 v5 v6 M H o ls hl hw u2 u4 M' hf kk
    cases hf
  | succ n ih =>
    intro v2 v4 v5 v6 M H o ls hl hw u2 u4 M' hf kk
    rw [fX2_drawGains_L21] at hf
    refine lv_iload F.1 F.2.1 dX2_drawGains_21 (lv_at hl 4 rfl) ?_
    refine lv_aload_n F.1 F.2.1 dX2_drawGains_23 rfl (lv_at hl 0 rfl) ?_
    refine gX2_15 F hw rfl dX2_drawGains_24 ?_
    refine b_icmp_ge F dX2_drawGains_27 (tgt := 85) (by decide) hf (fun hc13 hf => ?_) (fun hc13 hf => ?_)
    · cases hf
      exact kk _ _ _ (lv_sub hl [1, 2, 0, 3] rfl) hw
    · refine lv_lload_n F.1 F.2.1 dX2_drawGains_30 rfl (lv_at hl 1 rfl) ?_
      refine lv_ldc2 F.1 F.2.1 F.2.2.2.1 (F.2.2.2.2.1 _ kw_423) dX2_drawGains_31 ?_
      refine lv_lmul F.1 F.2.1 dX2_drawGains_34 ?_
      refine lv_ldc2 F.1 F.2.1 F.2.2.2.1 (F.2.2.2.2.1 _ kw_424) dX2_drawGains_35 ?_
      refine lv_ladd F.1 F.2.1 dX2_drawGains_38 ?_
      refine lv_ldc2 F.1 F.2.1 F.2.2.2.1 (F.2.2.2.2.1 _ kw_425) dX2_drawGains_39 ?_
      refine k_lrem F dX2_drawGains_42 (by decide) ?_
      refine lv_lstore_n F.1 F.2.1 dX2_drawGains_43 rfl hl (lv' := [(2, .long (jlrem ((v2 * (1103515245 : Int64)) + (12345 : Int64)) (2147483648 : Int64))), (0, .ref (ad 1)), (4, .int v4), (5, .int v5), (6, .int v6)]) (Nat.le_of_ble_eq_true rfl) rfl (fun ls5 hl => ?_)
      refine lv_aload_n F.1 F.2.1 dX2_drawGains_44 rfl (lv_at hl 1 rfl) ?_
      refine gX2_23 F hw rfl dX2_drawGains_45 ?_
      refine lv_iload F.1 F.2.1 dX2_drawGains_48 (lv_at hl 3 rfl) ?_
      refine r_aald F hw (t := 1) (b := 4) (n := 6) rfl rfl rfl dX2_drawGains_50 hf (fun hi6 hf => ?_)
      refine lv_iload F.1 F.2.1 dX2_drawGains_51 (lv_at hl 4 rfl) ?_
      refine lv_lload_n F.1 F.2.1 dX2_drawGains_53 rfl (lv_at hl 0 rfl) ?_
      refine lv_ldc2 F.1 F.2.1 F.2.2.2.1 (F.2.2.2.2.1 _ kw_426) dX2_drawGains_54 ?_
      refine k_ldiv F dX2_drawGains_57 (by decide) ?_
      refine lv_ldc2 F.1 F.2.1 F.2.2.2.1 (F.2.2.2.2.1 _ kw_427) dX2_drawGains_58 ?_
      refine k_lrem F dX2_drawGains_61 (by decide) ?_
      refine lv_l2i F.1 F.2.1 dX2_drawGains_62 rfl ?_
      refine r_iast F hw (n := 4) (sh_in4 hi6) dX2_drawGains_63 hf (fun hi7 M8 H9 o10 hw hf => ?_)
      refine lv_iload F.1 F.2.1 dX2_drawGains_64 (lv_at hl 2 rfl) ?_
      refine lv_aload_n F.1 F.2.1 dX2_drawGains_66 rfl (lv_at hl 1 rfl) ?_
      refine gX2_23 F hw rfl dX2_drawGains_67 ?_
      refine lv_iload F.1 F.2.1 dX2_drawGains_70 (lv_at hl 3 rfl) ?_
      refine r_aald0 F hw (t := 1) (b := 4) (n := 6) rfl rfl rfl dX2_drawGains_72 hi6 ?_
      refine lv_iload F.1 F.2.1 dX2_drawGains_73 (lv_at hl 4 rfl) ?_
      refine r_iald0 F hw (n := 4) (sh_in4 hi6) dX2_drawGains_75 hi7 ?_
      refine lv_iadd F.1 F.2.1 dX2_drawGains_76 ?_
      refine lv_istore F.1 F.2.1 dX2_drawGains_77 hl (lv' := [(4, .int (v4 + (M8 (4 + v5.toNatClampNeg) v6.toNatClampNeg))), (2, .long (jlrem ((v2 * (1103515245 : Int64)) + (12345 : Int64)) (2147483648 : Int64))), (0, .ref (ad 1)), (5, .int v5), (6, .int v6)]) (Nat.le_of_ble_eq_true rfl) rfl (fun ls11 hl => ?_)
      refine lv_iinc F.1 F.2.1 dX2_drawGains_79 hl (k := 4) rfl (ki_1 _) (lv' := [(6, .int (v6 + (1 : Int32))), (4, .int (v4 + (M8 (4 + v5.toNatClampNeg) v6.toNatClampNeg))), (2, .long (jlrem ((v2 * (1103515245 : Int64)) + (12345 : Int64)) (2147483648 : Int64))), (0, .ref (ad 1)), (5, .int v5)]) (Nat.le_of_ble_eq_true rfl) rfl (fun ls12 hl => ?_)
      refine lv_goto F.1 F.2.1 dX2_drawGains_82 (tgt := 21) (by decide) ?_
      exact ih (jlrem ((v2 * (1103515245 : Int64)) + (12345 : Int64)) (2147483648 : Int64)) (v4 + (M8 (4 + v5.toNatClampNeg) v6.toNatClampNeg)) v5 (v6 + (1 : Int32)) M8 _ _ _ (lv_sub hl [3, 2, 1, 4, 0] rfl) hw u2 u4 M' hf kk
set_option maxHeartbeats 4000000 in
set_option maxRecDepth 100000 in
theorem wX2_drawGains_L9 {p : Program} {l : Launch} {e : Env} {s : State} {m : MethodId} {args : Array Value} {below : List Frame} {meth : Method} {c : Code} {D : va_G} {cA : Nat → ClassId} {ad : Nat → Nat} {Q : State → Prop} (F : Fx D cA RX2 cX2_drawGains 7 (some .int) p s m args meth c) : ∀ (n : Nat) (v2 : Int64) (v4 : Int32) (v5 : Int32) (M : Mem) (H : Heap) (o : List Loc) (ls : Array Slot), lv_has ls 7 [(0, .ref (ad 1)), (2, .long v2), (4, .int v4), (5, .int v5)] → Wd shC D cA ad s.heap M H o → ∀ (u4 : Int32) (M' : Mem), fX2_drawGains_L9 n v2 v4 v5 M = some (u4, M') → (∀ (H1 : Heap) (o1 : List Loc) (ls1 : Array Slot), lv_has ls1 7 [(4, .int u4)] → Wd shC D cA ad s.heap M' H1 o1 → W p l e (rz 0 0) s m args below meth c H1 o1 0 0 Q (F0 m 91 ls1 [])) → W p l e (rz 0 0) s m args below meth c H o 0 0 Q (F0 m 9 ls []) := by
  intro n
  induction n with
  | zero =>
    intro v2 v4 v5 M H o ls hl hw u4 M' hf kk
    cases hf
  | succ n ih =>
    intro v2 v4 v5 M H o ls hl hw u4 M' hf kk
    rw [fX2_drawGains_L9] at hf
    refine lv_iload F.1 F.2.1 dX2_drawGains_9 (lv_at hl 3 rfl) ?_
    refine lv_aload_n F.1 F.2.1 dX2_drawGains_11 rfl (lv_at hl 0 rfl) ?_
    refine gX2_9 F hw rfl dX2_drawGains_12 ?_
    refine b_icmp_ge F dX2_drawGains_15 (tgt := 91) (by decide) hf (fun hc22 hf => ?_) (fun hc22 hf => ?_)
    · cases hf
      exact kk _ _ _ (lv_sub hl [2] rfl) hw
    · refine k_iconst_0 F dX2_drawGains_18 ?_
      refine lv_istore F.1 F.2.1 dX2_drawGains_19 hl (lv' := [(6, .int (0 : Int32)), (0, .ref (ad 1)), (2, .long v2), (4, .int v4), (5, .int v5)]) (Nat.le_of_ble_eq_true rfl) rfl (fun ls4 hl => ?_)
      obtain ⟨w14, w15, M16, hq21, hf⟩ := bnd3_some hf
      refine wX2_drawGains_L21 F FUEL v2 v4 v5 (0 : Int32) M _ _ _ (lv_sub hl [1, 2, 3, 4, 0] rfl) hw w14 w15 M16 hq21 (fun H17 o18 ls19 hl hw => ?_)
      refine lv_iinc F.1 F.2.1 dX2_drawGains_85 hl (k := 3) rfl (ki_1 _) (lv' := [(5, .int (v5 + (1 : Int32))), (2, .long w14), (4, .int w15), (0, .ref (ad 1))]) (Nat.le_of_ble_eq_true rfl) rfl (fun ls20 hl => ?_)
      refine lv_goto F.1 F.2.1 dX2_drawGains_88 (tgt := 9) (by decide) ?_
      exact ih w14 w15 (v5 + (1 : Int32)) M16 _ _ _ (lv_sub hl [3, 1, 2, 0] rfl) hw u4 M' hf kk
set_option maxHeartbeats 4000000 in
set_option maxRecDepth 100000 in
theorem cX2_drawGains_ok (l : Launch) (D : va_G) (cA : Nat → ClassId) (ad : Nat → Nat) (M : Mem) (v1 : Int32) (r : Int32) (M' : Mem) (hf : fX2_drawGains v1 M = some (r, M')) : Ctg l yX2_drawGains cX2_drawGains 7 (some .int) 0 0 shC D cA ad [.ref (ad 1), .int v1] M (Qzi shC D cA ad .int r M') := by
  refine ct_in (by decide) (Nat.le_of_ble_eq_true rfl) ?_
  intro p e s m below meth c ls F hl hw
  have hl : lv_has ls 7 [(0, .ref (ad 1)), (1, .int v1)] := hl
  unfold fX2_drawGains at hf
  refine lv_iload_n F.1 F.2.1 dX2_drawGains_0 rfl (lv_at hl 1 rfl) ?_
  refine lv_i2l F.1 F.2.1 dX2_drawGains_1 rfl ?_
  refine lv_lstore_n F.1 F.2.1 dX2_drawGains_2 rfl hl (lv' := [(2, .long v1.toInt64), (0, .ref (ad 1)), (1, .int v1)]) (Nat.le_of_ble_eq_true rfl) rfl (fun ls1 hl => ?_)
  refine k_iconst_0 F dX2_drawGains_3 ?_
  refine lv_istore F.1 F.2.1 dX2_drawGains_4 hl (lv' := [(4, .int (0 : Int32)), (2, .long v1.toInt64), (0, .ref (ad 1)), (1, .int v1)]) (Nat.le_of_ble_eq_true rfl) rfl (fun ls2 hl => ?_)
  refine k_iconst_0 F dX2_drawGains_6 ?_
  refine lv_istore F.1 F.2.1 dX2_drawGains_7 hl (lv' := [(5, .int (0 : Int32)), (4, .int (0 : Int32)), (2, .long v1.toInt64), (0, .ref (ad 1)), (1, .int v1)]) (Nat.le_of_ble_eq_true rfl) rfl (fun ls3 hl => ?_)
  obtain ⟨w23, M24, hq28, hf⟩ := bnd2_some hf
  refine wX2_drawGains_L9 F FUEL v1.toInt64 (0 : Int32) (0 : Int32) M _ _ _ (lv_sub hl [3, 2, 1, 0] rfl) hw w23 M24 hq28 (fun H25 o26 ls27 hl hw => ?_)
  refine lv_iload F.1 F.2.1 dX2_drawGains_91 (lv_at hl 0 rfl) ?_
  exact r_iret_w F hw (vp_nar_int _) dX2_drawGains_93 hf
theorem clX7_71 (F : Fx D cA RX7 cc nL ret p s m args meth c) (hw : Wd shC D cA ad H0 M H locs) (hl : lv_has ls nL lv) {v1 : Int32} (hR : 1 ≤ R.frames ∧ 26 ≤ R.locals) (hrm : (rest.map fun v => v.category).sum ≤ 8) (hd : decode cc pc = .ok (.invokevirtual 71, 3)) {α : Type} {K : Int32 → Mem → Option α} {res : α} (hf : bnd2 (fX2_drawGains v1 M) K = some res) (kk : ∀ (t : Int32) (M1 : Mem) (H1 : Heap) (locs1 : List Loc), Wd shC D cA ad H0 M1 H1 locs1 → narrow .int (.int t) = .int t → K t M1 = some res → W p l e R s m args below meth c H1 locs1 0 0 Q (F0 m (pc + 3) ls (.int t :: rest))) : W p l e R s m args below meth c H locs 0 0 Q (F0 m pc ls (.int v1 :: .ref (ad 1) :: rest)) := by
  obtain ⟨t, M1, h1, h2⟩ := bnd2_some hf
  exact r_afti hw (r_runV (As := [.int v1]) F hw hl (cX2_drawGains_ok l D cA ad M v1 t M1 h1) cz2 (show shC[1]? = some (.inr (2, sf2)) from rfl) cwX7_71 hR hrm hd) (fun H1 o1 hw1 hn => kk t M1 H1 o1 hw1 hn h2)
def fX2_isFull (M : Mem) : Int32 :=
  if (M 28 5) ≤ (56 : Int32) then
    (0 : Int32)
  else
    (1 : Int32)
set_option maxHeartbeats 4000000 in
set_option maxRecDepth 100000 in
theorem cX2_isFull_ok (l : Launch) (D : va_G) (cA : Nat → ClassId) (ad : Nat → Nat) (M : Mem)  (r : Int32) (hf : fX2_isFull M = r) : Ctg l yX2_isFull cX2_isFull 1 (some .boolean) 0 0 shC D cA ad [.ref (ad 1)] M (Qzi shC D cA ad .boolean r M) := by
  refine ct_in (by decide) (Nat.le_of_ble_eq_true rfl) ?_
  intro p e s m below meth c ls F hl hw
  have hl : lv_has ls 1 [(0, .ref (ad 1))] := hl
  unfold fX2_isFull at hf
  refine lv_aload_n F.1 F.2.1 dX2_isFull_0 rfl (lv_at hl 0 rfl) ?_
  refine gX2_41 F hw rfl dX2_isFull_1 ?_
  refine gX2_64 F hw rfl dX2_isFull_4 ?_
  refine k_bipush_56 F dX2_isFull_7 ?_
  refine b_icmp_le F dX2_isFull_9 (tgt := 16) (by decide) hf (fun hc1 hf => ?_) (fun hc1 hf => ?_)
  · refine k_iconst_0 F dX2_isFull_16 ?_
    exact r_iret_t F hw rfl dX2_isFull_17 hf
  · refine k_iconst_1 F dX2_isFull_12 ?_
    refine lv_goto F.1 F.2.1 dX2_isFull_13 (tgt := 17) (by decide) ?_
    exact r_iret_t F hw rfl dX2_isFull_17 hf
theorem clX7_87 (F : Fx D cA RX7 cc nL ret p s m args meth c) (hw : Wd shC D cA ad H0 M H locs) (hl : lv_has ls nL lv) (hR : 1 ≤ R.frames ∧ 20 ≤ R.locals) (hrm : (rest.map fun v => v.category).sum ≤ 8) (hd : decode cc pc = .ok (.invokevirtual 87, 3)) (kk : ∀ (H1 : Heap) (locs1 : List Loc), Wd shC D cA ad H0 M H1 locs1 → narrow .boolean (.int (fX2_isFull M)) = .int (fX2_isFull M) → W p l e R s m args below meth c H1 locs1 0 0 Q (F0 m (pc + 3) ls (.int (fX2_isFull M) :: rest))) : W p l e R s m args below meth c H locs 0 0 Q (F0 m pc ls (.ref (ad 1) :: rest)) :=
  r_afti hw (r_runV (As := []) F hw hl (cX2_isFull_ok l D cA ad M (fX2_isFull M) rfl) cz2 (show shC[1]? = some (.inr (2, sf2)) from rfl) cwX7_87 hR hrm hd) (fun H1 o1 hw1 hn => kk H1 o1 hw1 hn)
def fX2_marginAt (v1 : Int32) (v2 : Int32) (M : Mem) : Option Int32 :=
  ix v1 6 <|
  ix v2 4 <|
  some (((M (4 + v1.toNatClampNeg) v2.toNatClampNeg) + ((2 : Int32) * (M (11 + v1.toNatClampNeg) 1))) - ((5 : Int32) * (M (11 + v1.toNatClampNeg) 0)))
set_option maxHeartbeats 4000000 in
set_option maxRecDepth 100000 in
theorem cX2_marginAt_ok (l : Launch) (D : va_G) (cA : Nat → ClassId) (ad : Nat → Nat) (M : Mem) (v1 : Int32) (v2 : Int32) (r : Int32) (hf : fX2_marginAt v1 v2 M = some r) : Ctg l yX2_marginAt cX2_marginAt 3 (some .int) 0 0 shC D cA ad [.ref (ad 1), .int v1, .int v2] M (Qzi shC D cA ad .int r M) := by
  refine ct_in (by decide) (Nat.le_of_ble_eq_true rfl) ?_
  intro p e s m below meth c ls F hl hw
  have hl : lv_has ls 3 [(0, .ref (ad 1)), (1, .int v1), (2, .int v2)] := hl
  unfold fX2_marginAt at hf
  refine lv_aload_n F.1 F.2.1 dX2_marginAt_0 rfl (lv_at hl 0 rfl) ?_
  refine gX2_23 F hw rfl dX2_marginAt_1 ?_
  refine lv_iload_n F.1 F.2.1 dX2_marginAt_4 rfl (lv_at hl 1 rfl) ?_
  refine r_aald F hw (t := 1) (b := 4) (n := 6) rfl rfl rfl dX2_marginAt_5 hf (fun hi1 hf => ?_)
  refine lv_iload_n F.1 F.2.1 dX2_marginAt_6 rfl (lv_at hl 2 rfl) ?_
  refine r_iald F hw (n := 4) (sh_in4 hi1) dX2_marginAt_7 hf (fun hi2 hf => ?_)
  refine k_iconst_2 F dX2_marginAt_8 ?_
  refine lv_aload_n F.1 F.2.1 dX2_marginAt_9 rfl (lv_at hl 0 rfl) ?_
  refine gX2_28 F hw rfl dX2_marginAt_10 ?_
  refine lv_iload_n F.1 F.2.1 dX2_marginAt_13 rfl (lv_at hl 1 rfl) ?_
  refine r_aald0 F hw (t := 2) (b := 11) (n := 6) rfl rfl rfl dX2_marginAt_14 hi1 ?_
  refine gX2_109 F hw (sh_in11 hi1) dX2_marginAt_15 ?_
  refine lv_imul F.1 F.2.1 dX2_marginAt_18 ?_
  refine lv_iadd F.1 F.2.1 dX2_marginAt_19 ?_
  refine k_iconst_5 F dX2_marginAt_20 ?_
  refine lv_aload_n F.1 F.2.1 dX2_marginAt_21 rfl (lv_at hl 0 rfl) ?_
  refine gX2_28 F hw rfl dX2_marginAt_22 ?_
  refine lv_iload_n F.1 F.2.1 dX2_marginAt_25 rfl (lv_at hl 1 rfl) ?_
  refine r_aald0 F hw (t := 2) (b := 11) (n := 6) rfl rfl rfl dX2_marginAt_26 hi1 ?_
  refine gX2_112 F hw (sh_in11 hi1) dX2_marginAt_27 ?_
  refine lv_imul F.1 F.2.1 dX2_marginAt_30 ?_
  refine lv_isub F.1 F.2.1 dX2_marginAt_31 ?_
  exact r_iret_o F hw (vp_nar_int _) dX2_marginAt_32 hf
theorem clX2_126 (F : Fx D cA RX2 cc nL ret p s m args meth c) (hw : Wd shC D cA ad H0 M H locs) (hl : lv_has ls nL lv) {v1 : Int32} {v2 : Int32} (hR : 1 ≤ R.frames ∧ 22 ≤ R.locals) (hrm : (rest.map fun v => v.category).sum ≤ 8) (hd : decode cc pc = .ok (.invokevirtual 126, 3)) {α : Type} {K : Int32 → Option α} {res : α} (hf : bnd1 (fX2_marginAt v1 v2 M) K = some res) (kk : ∀ (t : Int32) (H1 : Heap) (locs1 : List Loc), Wd shC D cA ad H0 M H1 locs1 → narrow .int (.int t) = .int t → K t = some res → W p l e R s m args below meth c H1 locs1 0 0 Q (F0 m (pc + 3) ls (.int t :: rest))) : W p l e R s m args below meth c H locs 0 0 Q (F0 m pc ls (.int v2 :: .int v1 :: .ref (ad 1) :: rest)) := by
  obtain ⟨t, h1, h2⟩ := bnd1_some hf
  exact r_afti hw (r_runV (As := [.int v1, .int v2]) F hw hl (cX2_marginAt_ok l D cA ad M v1 v2 t h1) cz2 (show shC[1]? = some (.inr (2, sf2)) from rfl) cwX2_126 hR hrm hd) (fun H1 o1 hw1 hn => kk t H1 o1 hw1 hn h2)
theorem clX7_128 (F : Fx D cA RX7 cc nL ret p s m args meth c) (hw : Wd shC D cA ad H0 M H locs) (hl : lv_has ls nL lv) {v1 : Int32} {v2 : Int32} (hR : 1 ≤ R.frames ∧ 22 ≤ R.locals) (hrm : (rest.map fun v => v.category).sum ≤ 8) (hd : decode cc pc = .ok (.invokevirtual 128, 3)) {α : Type} {K : Int32 → Option α} {res : α} (hf : bnd1 (fX2_marginAt v1 v2 M) K = some res) (kk : ∀ (t : Int32) (H1 : Heap) (locs1 : List Loc), Wd shC D cA ad H0 M H1 locs1 → narrow .int (.int t) = .int t → K t = some res → W p l e R s m args below meth c H1 locs1 0 0 Q (F0 m (pc + 3) ls (.int t :: rest))) : W p l e R s m args below meth c H locs 0 0 Q (F0 m pc ls (.int v2 :: .int v1 :: .ref (ad 1) :: rest)) := by
  obtain ⟨t, h1, h2⟩ := bnd1_some hf
  exact r_afti hw (r_runV (As := [.int v1, .int v2]) F hw hl (cX2_marginAt_ok l D cA ad M v1 v2 t h1) cz2 (show shC[1]? = some (.inr (2, sf2)) from rfl) cwX7_128 hR hrm hd) (fun H1 o1 hw1 hn => kk t H1 o1 hw1 hn h2)
def fX2_spread_L5 : Nat → Int32 → Int32 → Int32 → Int32 → Mem → Option (Int32 × Mem)
  | 0, _, _, _, _, _ => none
  | n + 1, v1, v2, v3, v4, M =>
    if (M 1 1) ≤ v4 then
      some (v3, M)
    else
      bnd1 (fX2_marginAt v1 v4 M) fun t6 =>
      if t6 < 0 then
        fX2_spread_L5 n v1 v2 v3 (v4 + (1 : Int32)) M
      else
        ix v4 4 <|
        bnd1 (fX0_add v1 v2 v4 t6 (((M 1 3) + (1 : Int32)) + (M (24 + v4.toNatClampNeg) 0)) M) fun M13 =>
        wr M13 (24 + v4.toNatClampNeg) 3 ((M13 (24 + v4.toNatClampNeg) 3) + (1 : Int32)) fun M14 =>
        fX2_spread_L5 n v1 v2 (v3 + (1 : Int32)) (v4 + (1 : Int32)) M14
def fX2_spread (v1 : Int32) (v2 : Int32) (M : Mem) : Option (Int32 × Mem) :=
  bnd2 (fX2_spread_L5 FUEL v1 v2 (0 : Int32) (0 : Int32) M) fun w21 M22 =>
  some (w21, M22)
set_option maxHeartbeats 4000000 in
set_option maxRecDepth 100000 in
theorem wX2_spread_L5 {p : Program} {l : Launch} {e : Env} {s : State} {m : MethodId} {args : Array Value} {below : List Frame} {meth : Method} {c : Code} {D : va_G} {cA : Nat → ClassId} {ad : Nat → Nat} {Q : State → Prop} (F : Fx D cA RX2 cX2_spread 6 (some .int) p s m args meth c) : ∀ (n : Nat) (v1 : Int32) (v2 : Int32) (v3 : Int32) (v4 : Int32) (M : Mem) (H : Heap) (o : List Loc) (ls : Array Slot), lv_has ls 6 [(0, .ref (ad 1)), (1, .int v1), (2, .int v2), (3, .int v3), (4, .int v4)] → Wd shC D cA ad s.heap M H o → ∀ (u3 : Int32) (M' : Mem), fX2_spread_L5 n v1 v2 v3 v4 M = some (u3, M') → (∀ (H1 : Heap) (o1 : List Loc) (ls1 : Array Slot), lv_has ls1 6 [(3, .int u3)] → Wd shC D cA ad s.heap M' H1 o1 → W p l e (rz 1 25) s m args below meth c H1 o1 0 0 Q (F0 m 83 ls1 [])) → W p l e (rz 1 25) s m args below meth c H o 0 0 Q (F0 m 5 ls []) := by
  intro n
  induction n with
  | zero =>
    intro v1 v2 v3 v4 M H o ls hl hw u3 M' hf kk
    cases hf
  | succ n ih =>
    intro v1 v2 v3 v4 M H o ls hl hw u3 M' hf kk
    rw [fX2_spread_L5] at hf
    refine lv_iload F.1 F.2.1 dX2_spread_5 (lv_at hl 4 rfl) ?_
    refine lv_aload_n F.1 F.2.1 dX2_spread_7 rfl (lv_at hl 0 rfl) ?_
    refine gX2_15 F hw rfl dX2_spread_8 ?_
    refine b_icmp_ge F dX2_spread_11 (tgt := 83) (by decide) hf (fun hc20 hf => ?_) (fun hc20 hf => ?_)
    · cases hf
      exact kk _ _ _ (lv_sub hl [3] rfl) hw
    · refine lv_aload_n F.1 F.2.1 dX2_spread_14 rfl (lv_at hl 0 rfl) ?_
      refine lv_iload_n F.1 F.2.1 dX2_spread_15 rfl (lv_at hl 1 rfl) ?_
      refine lv_iload F.1 F.2.1 dX2_spread_16 (lv_at hl 4 rfl) ?_
      refine clX2_126 F hw hl ⟨Nat.le_of_ble_eq_true rfl, Nat.le_of_ble_eq_true rfl⟩ (Nat.le_of_ble_eq_true rfl) dX2_spread_18 hf (fun t6 H3 o4 hw hn5 hf => ?_)
      refine lv_istore F.1 F.2.1 dX2_spread_21 hl (lv' := [(5, .int t6), (0, .ref (ad 1)), (1, .int v1), (2, .int v2), (3, .int v3), (4, .int v4)]) (Nat.le_of_ble_eq_true rfl) rfl (fun ls7 hl => ?_)
      refine lv_iload F.1 F.2.1 dX2_spread_23 (lv_at hl 0 rfl) ?_
      refine b_if_lt F dX2_spread_25 (tgt := 77) (by decide) hf (fun hc19 hf => ?_) (fun hc19 hf => ?_)
      · refine lv_iinc F.1 F.2.1 dX2_spread_77 hl (k := 5) rfl (ki_1 _) (lv' := [(4, .int (v4 + (1 : Int32))), (5, .int t6), (0, .ref (ad 1)), (1, .int v1), (2, .int v2), (3, .int v3)]) (Nat.le_of_ble_eq_true rfl) rfl (fun ls8 hl => ?_)
        refine lv_goto F.1 F.2.1 dX2_spread_80 (tgt := 5) (by decide) ?_
        exact ih v1 v2 v3 (v4 + (1 : Int32)) M _ _ _ (lv_sub hl [2, 3, 4, 5, 0] rfl) hw u3 M' hf kk
      · refine lv_aload_n F.1 F.2.1 dX2_spread_28 rfl (lv_at hl 1 rfl) ?_
        refine gX2_41 F hw rfl dX2_spread_29 ?_
        refine lv_iload_n F.1 F.2.1 dX2_spread_32 rfl (lv_at hl 2 rfl) ?_
        refine lv_iload_n F.1 F.2.1 dX2_spread_33 rfl (lv_at hl 3 rfl) ?_
        refine lv_iload F.1 F.2.1 dX2_spread_34 (lv_at hl 5 rfl) ?_
        refine lv_iload F.1 F.2.1 dX2_spread_36 (lv_at hl 0 rfl) ?_
        refine lv_aload_n F.1 F.2.1 dX2_spread_38 rfl (lv_at hl 1 rfl) ?_
        refine gX2_61 F hw rfl dX2_spread_39 ?_
        refine k_iconst_1 F dX2_spread_42 ?_
        refine lv_iadd F.1 F.2.1 dX2_spread_43 ?_
        refine lv_aload_n F.1 F.2.1 dX2_spread_44 rfl (lv_at hl 1 rfl) ?_
        refine gX2_34 F hw rfl dX2_spread_45 ?_
        refine lv_iload F.1 F.2.1 dX2_spread_48 (lv_at hl 5 rfl) ?_
        refine r_aald F hw (t := 3) (b := 24) (n := 4) rfl rfl rfl dX2_spread_50 hf (fun hi9 hf => ?_)
        refine gX2_129 F hw (sh_in24 hi9) dX2_spread_51 ?_
        refine lv_iadd F.1 F.2.1 dX2_spread_54 ?_
        refine clX2_132 F hw hl ⟨Nat.le_of_ble_eq_true rfl, Nat.le_of_ble_eq_true rfl⟩ (Nat.le_of_ble_eq_true rfl) dX2_spread_55 hf (fun M13 H10 o11 hw hf => ?_)
        refine lv_aload_n F.1 F.2.1 dX2_spread_58 rfl (lv_at hl 1 rfl) ?_
        refine gX2_34 F hw rfl dX2_spread_59 ?_
        refine lv_iload F.1 F.2.1 dX2_spread_62 (lv_at hl 5 rfl) ?_
        refine r_aald0 F hw (t := 3) (b := 24) (n := 4) rfl rfl rfl dX2_spread_64 hi9 ?_
        refine lv_dup F.1 F.2.1 dX2_spread_65 rfl ?_
        refine gX2_136 F hw (sh_in24 hi9) dX2_spread_66 ?_
        refine k_iconst_1 F dX2_spread_69 ?_
        refine lv_iadd F.1 F.2.1 dX2_spread_70 ?_
        refine qX2_136 F hw (sh_in24 hi9) dX2_spread_71 hf (fun M14 H15 o16 hw hf => ?_)
        refine lv_iinc F.1 F.2.1 dX2_spread_74 hl (k := 4) rfl (ki_1 _) (lv' := [(3, .int (v3 + (1 : Int32))), (5, .int t6), (0, .ref (ad 1)), (1, .int v1), (2, .int v2), (4, .int v4)]) (Nat.le_of_ble_eq_true rfl) rfl (fun ls17 hl => ?_)
        refine lv_iinc F.1 F.2.1 dX2_spread_77 hl (k := 5) rfl (ki_1 _) (lv' := [(4, .int (v4 + (1 : Int32))), (3, .int (v3 + (1 : Int32))), (5, .int t6), (0, .ref (ad 1)), (1, .int v1), (2, .int v2)]) (Nat.le_of_ble_eq_true rfl) rfl (fun ls18 hl => ?_)
        refine lv_goto F.1 F.2.1 dX2_spread_80 (tgt := 5) (by decide) ?_
        exact ih v1 v2 (v3 + (1 : Int32)) (v4 + (1 : Int32)) M14 _ _ _ (lv_sub hl [3, 4, 5, 1, 0] rfl) hw u3 M' hf kk
set_option maxHeartbeats 4000000 in
set_option maxRecDepth 100000 in
theorem cX2_spread_ok (l : Launch) (D : va_G) (cA : Nat → ClassId) (ad : Nat → Nat) (M : Mem) (v1 : Int32) (v2 : Int32) (r : Int32) (M' : Mem) (hf : fX2_spread v1 v2 M = some (r, M')) : Ctg l yX2_spread cX2_spread 6 (some .int) 1 25 shC D cA ad [.ref (ad 1), .int v1, .int v2] M (Qzi shC D cA ad .int r M') := by
  refine ct_in (by decide) (Nat.le_of_ble_eq_true rfl) ?_
  intro p e s m below meth c ls F hl hw
  have hl : lv_has ls 6 [(0, .ref (ad 1)), (1, .int v1), (2, .int v2)] := hl
  unfold fX2_spread at hf
  refine k_iconst_0 F dX2_spread_0 ?_
  refine lv_istore_n F.1 F.2.1 dX2_spread_1 rfl hl (lv' := [(3, .int (0 : Int32)), (0, .ref (ad 1)), (1, .int v1), (2, .int v2)]) (Nat.le_of_ble_eq_true rfl) rfl (fun ls1 hl => ?_)
  refine k_iconst_0 F dX2_spread_2 ?_
  refine lv_istore F.1 F.2.1 dX2_spread_3 hl (lv' := [(4, .int (0 : Int32)), (3, .int (0 : Int32)), (0, .ref (ad 1)), (1, .int v1), (2, .int v2)]) (Nat.le_of_ble_eq_true rfl) rfl (fun ls2 hl => ?_)
  obtain ⟨w21, M22, hq26, hf⟩ := bnd2_some hf
  refine wX2_spread_L5 F FUEL v1 v2 (0 : Int32) (0 : Int32) M _ _ _ (lv_sub hl [2, 3, 4, 1, 0] rfl) hw w21 M22 hq26 (fun H23 o24 ls25 hl hw => ?_)
  refine lv_iload_n F.1 F.2.1 dX2_spread_83 rfl (lv_at hl 0 rfl) ?_
  exact r_iret_w F hw (vp_nar_int _) dX2_spread_84 hf
theorem clX2_119 (F : Fx D cA RX2 cc nL ret p s m args meth c) (hw : Wd shC D cA ad H0 M H locs) (hl : lv_has ls nL lv) {v1 : Int32} {v2 : Int32} (hR : 2 ≤ R.frames ∧ 50 ≤ R.locals) (hrm : (rest.map fun v => v.category).sum ≤ 8) (hd : decode cc pc = .ok (.invokevirtual 119, 3)) {α : Type} {K : Int32 → Mem → Option α} {res : α} (hf : bnd2 (fX2_spread v1 v2 M) K = some res) (kk : ∀ (t : Int32) (M1 : Mem) (H1 : Heap) (locs1 : List Loc), Wd shC D cA ad H0 M1 H1 locs1 → narrow .int (.int t) = .int t → K t M1 = some res → W p l e R s m args below meth c H1 locs1 0 0 Q (F0 m (pc + 3) ls (.int t :: rest))) : W p l e R s m args below meth c H locs 0 0 Q (F0 m pc ls (.int v2 :: .int v1 :: .ref (ad 1) :: rest)) := by
  obtain ⟨t, M1, h1, h2⟩ := bnd2_some hf
  exact r_afti hw (r_runV (As := [.int v1, .int v2]) F hw hl (cX2_spread_ok l D cA ad M v1 v2 t M1 h1) cz2 (show shC[1]? = some (.inr (2, sf2)) from rfl) cwX2_119 hR hrm hd) (fun H1 o1 hw1 hn => kk t M1 H1 o1 hw1 hn h2)
def fX2_sendNext (v1 : Int32) (M : Mem) : Option (Int32 × Mem) :=
  ix v1 6 <|
  bnd2 (fX3_nextLetter (11 + v1.toNatClampNeg) M) fun t6 M5 =>
  bnd2 (fX2_spread v1 t6 M5) fun t11 M10 =>
  some (t11, M10)
set_option maxHeartbeats 4000000 in
set_option maxRecDepth 100000 in
theorem cX2_sendNext_ok (l : Launch) (D : va_G) (cA : Nat → ClassId) (ad : Nat → Nat) (M : Mem) (v1 : Int32) (r : Int32) (M' : Mem) (hf : fX2_sendNext v1 M = some (r, M')) : Ctg l yX2_sendNext cX2_sendNext 2 (some .int) 2 50 shC D cA ad [.ref (ad 1), .int v1] M (Qzi shC D cA ad .int r M') := by
  refine ct_in (by decide) (Nat.le_of_ble_eq_true rfl) ?_
  intro p e s m below meth c ls F hl hw
  have hl : lv_has ls 2 [(0, .ref (ad 1)), (1, .int v1)] := hl
  unfold fX2_sendNext at hf
  refine lv_aload_n F.1 F.2.1 dX2_sendNext_0 rfl (lv_at hl 0 rfl) ?_
  refine lv_iload_n F.1 F.2.1 dX2_sendNext_1 rfl (lv_at hl 1 rfl) ?_
  refine lv_aload_n F.1 F.2.1 dX2_sendNext_2 rfl (lv_at hl 0 rfl) ?_
  refine gX2_28 F hw rfl dX2_sendNext_3 ?_
  refine lv_iload_n F.1 F.2.1 dX2_sendNext_6 rfl (lv_at hl 1 rfl) ?_
  refine r_aald F hw (t := 2) (b := 11) (n := 6) rfl rfl rfl dX2_sendNext_7 hf (fun hi1 hf => ?_)
  refine clX2_115 F hw hl (sh_in11 hi1) ⟨Nat.le_of_ble_eq_true rfl, Nat.le_of_ble_eq_true rfl⟩ (Nat.le_of_ble_eq_true rfl) dX2_sendNext_8 hf (fun t6 M5 H2 o3 hw hn4 hf => ?_)
  refine clX2_119 F hw hl ⟨Nat.le_of_ble_eq_true rfl, Nat.le_of_ble_eq_true rfl⟩ (Nat.le_of_ble_eq_true rfl) dX2_sendNext_11 hf (fun t11 M10 H7 o8 hw hn9 hf => ?_)
  exact r_iret_w F hw (vp_nar_int _) dX2_sendNext_14 hf
theorem clX7_94 (F : Fx D cA RX7 cc nL ret p s m args meth c) (hw : Wd shC D cA ad H0 M H locs) (hl : lv_has ls nL lv) {v1 : Int32} (hR : 3 ≤ R.frames ∧ 71 ≤ R.locals) (hrm : (rest.map fun v => v.category).sum ≤ 8) (hd : decode cc pc = .ok (.invokevirtual 94, 3)) {α : Type} {K : Int32 → Mem → Option α} {res : α} (hf : bnd2 (fX2_sendNext v1 M) K = some res) (kk : ∀ (t : Int32) (M1 : Mem) (H1 : Heap) (locs1 : List Loc), Wd shC D cA ad H0 M1 H1 locs1 → narrow .int (.int t) = .int t → K t M1 = some res → W p l e R s m args below meth c H1 locs1 0 0 Q (F0 m (pc + 3) ls (.int t :: rest))) : W p l e R s m args below meth c H locs 0 0 Q (F0 m pc ls (.int v1 :: .ref (ad 1) :: rest)) := by
  obtain ⟨t, M1, h1, h2⟩ := bnd2_some hf
  exact r_afti hw (r_runV (As := [.int v1]) F hw hl (cX2_sendNext_ok l D cA ad M v1 t M1 h1) cz2 (show shC[1]? = some (.inr (2, sf2)) from rfl) cwX7_94 hR hrm hd) (fun H1 o1 hw1 hn => kk t M1 H1 o1 hw1 hn h2)
def fX2_sendLastAgain (v1 : Int32) (M : Mem) : Option (Int32 × Mem) :=
  ix v1 6 <|
  bnd2 (fX2_spread v1 (M (11 + v1.toNatClampNeg) 4) M) fun t6 M5 =>
  some (t6, M5)
set_option maxHeartbeats 4000000 in
set_option maxRecDepth 100000 in
theorem cX2_sendLastAgain_ok (l : Launch) (D : va_G) (cA : Nat → ClassId) (ad : Nat → Nat) (M : Mem) (v1 : Int32) (r : Int32) (M' : Mem) (hf : fX2_sendLastAgain v1 M = some (r, M')) : Ctg l yX2_sendLastAgain cX2_sendLastAgain 2 (some .int) 2 50 shC D cA ad [.ref (ad 1), .int v1] M (Qzi shC D cA ad .int r M') := by
  refine ct_in (by decide) (Nat.le_of_ble_eq_true rfl) ?_
  intro p e s m below meth c ls F hl hw
  have hl : lv_has ls 2 [(0, .ref (ad 1)), (1, .int v1)] := hl
  unfold fX2_sendLastAgain at hf
  refine lv_aload_n F.1 F.2.1 dX2_sendLastAgain_0 rfl (lv_at hl 0 rfl) ?_
  refine lv_iload_n F.1 F.2.1 dX2_sendLastAgain_1 rfl (lv_at hl 1 rfl) ?_
  refine lv_aload_n F.1 F.2.1 dX2_sendLastAgain_2 rfl (lv_at hl 0 rfl) ?_
  refine gX2_28 F hw rfl dX2_sendLastAgain_3 ?_
  refine lv_iload_n F.1 F.2.1 dX2_sendLastAgain_6 rfl (lv_at hl 1 rfl) ?_
  refine r_aald F hw (t := 2) (b := 11) (n := 6) rfl rfl rfl dX2_sendLastAgain_7 hf (fun hi1 hf => ?_)
  refine gX2_123 F hw (sh_in11 hi1) dX2_sendLastAgain_8 ?_
  refine clX2_119 F hw hl ⟨Nat.le_of_ble_eq_true rfl, Nat.le_of_ble_eq_true rfl⟩ (Nat.le_of_ble_eq_true rfl) dX2_sendLastAgain_11 hf (fun t6 M5 H2 o3 hw hn4 hf => ?_)
  exact r_iret_w F hw (vp_nar_int _) dX2_sendLastAgain_14 hf
theorem clX7_103 (F : Fx D cA RX7 cc nL ret p s m args meth c) (hw : Wd shC D cA ad H0 M H locs) (hl : lv_has ls nL lv) {v1 : Int32} (hR : 3 ≤ R.frames ∧ 71 ≤ R.locals) (hrm : (rest.map fun v => v.category).sum ≤ 8) (hd : decode cc pc = .ok (.invokevirtual 103, 3)) {α : Type} {K : Int32 → Mem → Option α} {res : α} (hf : bnd2 (fX2_sendLastAgain v1 M) K = some res) (kk : ∀ (t : Int32) (M1 : Mem) (H1 : Heap) (locs1 : List Loc), Wd shC D cA ad H0 M1 H1 locs1 → narrow .int (.int t) = .int t → K t M1 = some res → W p l e R s m args below meth c H1 locs1 0 0 Q (F0 m (pc + 3) ls (.int t :: rest))) : W p l e R s m args below meth c H locs 0 0 Q (F0 m pc ls (.int v1 :: .ref (ad 1) :: rest)) := by
  obtain ⟨t, M1, h1, h2⟩ := bnd2_some hf
  exact r_afti hw (r_runV (As := [.int v1]) F hw hl (cX2_sendLastAgain_ok l D cA ad M v1 t M1 h1) cz2 (show shC[1]? = some (.inr (2, sf2)) from rfl) cwX7_103 hR hrm hd) (fun H1 o1 hw1 hn => kk t M1 H1 o1 hw1 hn h2)
def fX2_refillBudgets_L2 : Nat → Int32 → Mem → Option (Mem)
  | 0, _, _ => none
  | n + 1, v1, M =>
    if (4 : Int32) ≤ v1 then
      some M
    else
      ix v1 4 <|
      wr M (24 + v1.toNatClampNeg) 2 (0 : Int32) fun M3 =>
      fX2_refillBudgets_L2 n (v1 + (1 : Int32)) M3
def fX2_refillBudgets (M : Mem) : Option Mem :=
  bnd1 (fX2_refillBudgets_L2 FUEL (0 : Int32) M) fun M8 =>
  some M8
set_option maxHeartbeats 4000000 in
set_option maxRecDepth 100000 in
theorem wX2_refillBudgets_L2 {p : Program} {l : Launch} {e : Env} {s : State} {m : MethodId} {args : Array Value} {below : List Frame} {meth : Method} {c : Code} {D : va_G} {cA : Nat → ClassId} {ad : Nat → Nat} {Q : State → Prop} (F : Fx D cA RX2 cX2_refillBudgets 2 none p s m args meth c) : ∀ (n : Nat) (v1 : Int32) (M : Mem) (H : Heap) (o : List Loc) (ls : Array Slot), lv_has ls 2 [(0, .ref (ad 1)), (1, .int v1)] → Wd shC D cA ad s.heap M H o → ∀ (M' : Mem), fX2_refillBudgets_L2 n v1 M = some M' → (∀ (H1 : Heap) (o1 : List Loc) (ls1 : Array Slot), lv_has ls1 2 [] → Wd shC D cA ad s.heap M' H1 o1 → W p l e (rz 0 0) s m args below meth c H1 o1 0 0 Q (F0 m 23 ls1 [])) → W p l e (rz 0 0) s m args below meth c H o 0 0 Q (F0 m 2 ls []) := by
  intro n
  induction n with
  | zero =>
    intro v1 M H o ls hl hw M' hf kk
    cases hf
  | succ n ih =>
    intro v1 M H o ls hl hw M' hf kk
    rw [fX2_refillBudgets_L2] at hf
    refine lv_iload_n F.1 F.2.1 dX2_refillBudgets_2 rfl (lv_at hl 1 rfl) ?_
    refine k_iconst_4 F dX2_refillBudgets_3 ?_
    refine b_icmp_ge F dX2_refillBudgets_4 (tgt := 23) (by decide) hf (fun hc7 hf => ?_) (fun hc7 hf => ?_)
    · cases hf
      exact kk _ _ _ (lv_sub hl [] rfl) hw
    · refine lv_aload_n F.1 F.2.1 dX2_refillBudgets_7 rfl (lv_at hl 0 rfl) ?_
      refine gX2_34 F hw rfl dX2_refillBudgets_8 ?_
      refine lv_iload_n F.1 F.2.1 dX2_refillBudgets_11 rfl (lv_at hl 1 rfl) ?_
      refine r_aald F hw (t := 3) (b := 24) (n := 4) rfl rfl rfl dX2_refillBudgets_12 hf (fun hi2 hf => ?_)
      refine k_iconst_0 F dX2_refillBudgets_13 ?_
      refine qX2_148 F hw (sh_in24 hi2) dX2_refillBudgets_14 hf (fun M3 H4 o5 hw hf => ?_)
      refine lv_iinc F.1 F.2.1 dX2_refillBudgets_17 hl (k := 1) rfl (ki_1 _) (lv' := [(1, .int (v1 + (1 : Int32))), (0, .ref (ad 1))]) (Nat.le_of_ble_eq_true rfl) rfl (fun ls6 hl => ?_)
      refine lv_goto F.1 F.2.1 dX2_refillBudgets_20 (tgt := 2) (by decide) ?_
      exact ih (v1 + (1 : Int32)) M3 _ _ _ (lv_sub hl [1, 0] rfl) hw  M' hf kk
set_option maxHeartbeats 4000000 in
set_option maxRecDepth 100000 in
theorem cX2_refillBudgets_ok (l : Launch) (D : va_G) (cA : Nat → ClassId) (ad : Nat → Nat) (M : Mem)  (M' : Mem) (hf : fX2_refillBudgets M = some M') : Ctg l yX2_refillBudgets cX2_refillBudgets 2 none 0 0 shC D cA ad [.ref (ad 1)] M (Qzv shC D cA ad M') := by
  refine ct_in (by decide) (Nat.le_of_ble_eq_true rfl) ?_
  intro p e s m below meth c ls F hl hw
  have hl : lv_has ls 2 [(0, .ref (ad 1))] := hl
  unfold fX2_refillBudgets at hf
  refine k_iconst_0 F dX2_refillBudgets_0 ?_
  refine lv_istore_n F.1 F.2.1 dX2_refillBudgets_1 rfl hl (lv' := [(1, .int (0 : Int32)), (0, .ref (ad 1))]) (Nat.le_of_ble_eq_true rfl) rfl (fun ls1 hl => ?_)
  obtain ⟨M8, hq12, hf⟩ := bnd1_some hf
  refine wX2_refillBudgets_L2 F FUEL (0 : Int32) M _ _ _ (lv_sub hl [1, 0] rfl) hw M8 hq12 (fun H9 o10 ls11 hl hw => ?_)
  exact r_vret_w F hw dX2_refillBudgets_23 hf
theorem clX2_139 (F : Fx D cA RX2 cc nL ret p s m args meth c) (hw : Wd shC D cA ad H0 M H locs) (hl : lv_has ls nL lv) (hR : 1 ≤ R.frames ∧ 21 ≤ R.locals) (hrm : (rest.map fun v => v.category).sum ≤ 8) (hd : decode cc pc = .ok (.invokevirtual 139, 3)) {α : Type} {K : Mem → Option α} {res : α} (hf : bnd1 (fX2_refillBudgets M) K = some res) (kk : ∀ (M1 : Mem) (H1 : Heap) (locs1 : List Loc), Wd shC D cA ad H0 M1 H1 locs1 → K M1 = some res → W p l e R s m args below meth c H1 locs1 0 0 Q (F0 m (pc + 3) ls rest)) : W p l e R s m args below meth c H locs 0 0 Q (F0 m pc ls (.ref (ad 1) :: rest)) := by
  obtain ⟨M1, h1, h2⟩ := bnd1_some hf
  exact r_aftv hw (r_runV (As := []) F hw hl (cX2_refillBudgets_ok l D cA ad M M1 h1) cz2 (show shC[1]? = some (.inr (2, sf2)) from rfl) cwX2_139 hR hrm hd) (fun H1 o1 hw1 => kk M1 H1 o1 hw1 h2)
def fX2_bring (v1 : Int32) (M : Mem) : Option Mem :=
  ix v1 60 <|
  bnd1 (fX6_find (M 29 v1.toNatClampNeg) (M 30 v1.toNatClampNeg) M) fun t7 =>
  if t7 = (-1 : Int32) then
    jn (
      bnd1 (fX6_open (M 29 v1.toNatClampNeg) (M 30 v1.toNatClampNeg) (M 1 3) M) fun M16 =>
      bnd1 (fX6_hear ((M16 34 4) - (1 : Int32)) (M16 31 v1.toNatClampNeg) (M16 32 v1.toNatClampNeg) M16) fun M20 =>
      some M20) fun j12 =>
    if (M 30 v1.toNatClampNeg) = (-1 : Int32) then
      j12
    else
      ix (M 29 v1.toNatClampNeg) 6 <|
      if (fX3_isDue (11 + (M 29 v1.toNatClampNeg).toNatClampNeg) (M 30 v1.toNatClampNeg) M) = 0 then
        wr M 1 12 ((M 1 12) + (1 : Int32)) fun M25 =>
        some M25
      else
        j12
  else
    bnd1 (fX6_hear t7 (M 31 v1.toNatClampNeg) (M 32 v1.toNatClampNeg) M) fun M33 =>
    wr M33 1 15 ((M33 1 15) + (1 : Int32)) fun M34 =>
    some M34
set_option maxHeartbeats 4000000 in
set_option maxRecDepth 100000 in
theorem cX2_bring_ok (l : Launch) (D : va_G) (cA : Nat → ClassId) (ad : Nat → Nat) (M : Mem) (v1 : Int32) (M' : Mem) (hf : fX2_bring v1 M = some M') : Ctg l yX2_bring cX2_bring 5 none 3 65 shC D cA ad [.ref (ad 1), .int v1] M (Qzv shC D cA ad M') := by
  refine ct_in (by decide) (Nat.le_of_ble_eq_true rfl) ?_
  intro p e s m below meth c ls F hl hw
  have hl : lv_has ls 5 [(0, .ref (ad 1)), (1, .int v1)] := hl
  unfold fX2_bring at hf
  refine lv_aload_n F.1 F.2.1 dX2_bring_0 rfl (lv_at hl 0 rfl) ?_
  refine gX2_41 F hw rfl dX2_bring_1 ?_
  refine gX2_163 F hw rfl dX2_bring_4 ?_
  refine lv_iload_n F.1 F.2.1 dX2_bring_7 rfl (lv_at hl 1 rfl) ?_
  refine r_iald F hw (n := 60) rfl dX2_bring_8 hf (fun hi1 hf => ?_)
  refine lv_istore_n F.1 F.2.1 dX2_bring_9 rfl hl (lv' := [(2, .int (M 29 v1.toNatClampNeg)), (0, .ref (ad 1)), (1, .int v1)]) (Nat.le_of_ble_eq_true rfl) rfl (fun ls2 hl => ?_)
  refine lv_aload_n F.1 F.2.1 dX2_bring_10 rfl (lv_at hl 1 rfl) ?_
  refine gX2_41 F hw rfl dX2_bring_11 ?_
  refine gX2_166 F hw rfl dX2_bring_14 ?_
  refine lv_iload_n F.1 F.2.1 dX2_bring_17 rfl (lv_at hl 2 rfl) ?_
  refine r_iald0 F hw (n := 60) rfl dX2_bring_18 hi1 ?_
  refine lv_istore_n F.1 F.2.1 dX2_bring_19 rfl hl (lv' := [(3, .int (M 30 v1.toNatClampNeg)), (2, .int (M 29 v1.toNatClampNeg)), (0, .ref (ad 1)), (1, .int v1)]) (Nat.le_of_ble_eq_true rfl) rfl (fun ls3 hl => ?_)
  refine lv_aload_n F.1 F.2.1 dX2_bring_20 rfl (lv_at hl 2 rfl) ?_
  refine gX2_48 F hw rfl dX2_bring_21 ?_
  refine lv_iload_n F.1 F.2.1 dX2_bring_24 rfl (lv_at hl 1 rfl) ?_
  refine lv_iload_n F.1 F.2.1 dX2_bring_25 rfl (lv_at hl 0 rfl) ?_
  refine clX2_169 F hw hl ⟨Nat.le_of_ble_eq_true rfl, Nat.le_of_ble_eq_true rfl⟩ (Nat.le_of_ble_eq_true rfl) dX2_bring_26 hf (fun t7 H4 o5 hw hn6 hf => ?_)
  refine lv_istore F.1 F.2.1 dX2_bring_29 hl (lv' := [(4, .int t7), (3, .int (M 30 v1.toNatClampNeg)), (2, .int (M 29 v1.toNatClampNeg)), (0, .ref (ad 1)), (1, .int v1)]) (Nat.le_of_ble_eq_true rfl) rfl (fun ls8 hl => ?_)
  refine lv_iload F.1 F.2.1 dX2_bring_31 (lv_at hl 0 rfl) ?_
  refine k_iconst_m1 F dX2_bring_33 ?_
  refine b_icmp_eq F dX2_bring_34 (tgt := 77) (by decide) hf (fun hc37 hf => ?_) (fun hc37 hf => ?_)
  · refine lv_iload_n F.1 F.2.1 dX2_bring_77 rfl (lv_at hl 1 rfl) ?_
    refine k_iconst_m1 F dX2_bring_78 ?_
    refine jn_go0 (∀ (H9 : Heap) (o10 : List Loc) (ls11 : Array Slot), lv_has ls11 5 [(3, .int (M 30 v1.toNatClampNeg)), (2, .int (M 29 v1.toNatClampNeg)), (0, .ref (ad 1)), (1, .int v1)] → Wd shC D cA ad s.heap M H9 o10 → W p l e (rz 3 65) s m ([.ref (ad 1), .int v1] : List Value).toArray below meth c H9 o10 0 0 (MQ below (Qzv shC D cA ad M') ([.ref (ad 1), .int v1] : List Value).toArray s 0 0 (Az shC ad)) (F0 m 95 ls11 [])) hf (fun hf H9 o10 ls11 hl hw => ?_) (fun j12 Jj12 hf => ?_)
    · refine lv_aload_n F.1 F.2.1 dX2_bring_95 rfl (lv_at hl 2 rfl) ?_
      refine gX2_48 F hw rfl dX2_bring_96 ?_
      refine lv_iload_n F.1 F.2.1 dX2_bring_99 rfl (lv_at hl 1 rfl) ?_
      refine lv_iload_n F.1 F.2.1 dX2_bring_100 rfl (lv_at hl 0 rfl) ?_
      refine lv_aload_n F.1 F.2.1 dX2_bring_101 rfl (lv_at hl 2 rfl) ?_
      refine gX2_61 F hw rfl dX2_bring_102 ?_
      refine clX2_186 F hw hl ⟨Nat.le_of_ble_eq_true rfl, Nat.le_of_ble_eq_true rfl⟩ (Nat.le_of_ble_eq_true rfl) dX2_bring_105 hf (fun M16 H13 o14 hw hf => ?_)
      refine lv_aload_n F.1 F.2.1 dX2_bring_108 rfl (lv_at hl 2 rfl) ?_
      refine gX2_48 F hw rfl dX2_bring_109 ?_
      refine lv_aload_n F.1 F.2.1 dX2_bring_112 rfl (lv_at hl 2 rfl) ?_
      refine gX2_48 F hw rfl dX2_bring_113 ?_
      refine gX2_67 F hw rfl dX2_bring_116 ?_
      refine k_iconst_1 F dX2_bring_119 ?_
      refine lv_isub F.1 F.2.1 dX2_bring_120 ?_
      refine lv_aload_n F.1 F.2.1 dX2_bring_121 rfl (lv_at hl 2 rfl) ?_
      refine gX2_41 F hw rfl dX2_bring_122 ?_
      refine gX2_172 F hw rfl dX2_bring_125 ?_
      refine lv_iload_n F.1 F.2.1 dX2_bring_128 rfl (lv_at hl 3 rfl) ?_
      refine r_iald0 F hw (n := 60) rfl dX2_bring_129 hi1 ?_
      refine lv_aload_n F.1 F.2.1 dX2_bring_130 rfl (lv_at hl 2 rfl) ?_
      refine gX2_41 F hw rfl dX2_bring_131 ?_
      refine gX2_175 F hw rfl dX2_bring_134 ?_
      refine lv_iload_n F.1 F.2.1 dX2_bring_137 rfl (lv_at hl 3 rfl) ?_
      refine r_iald0 F hw (n := 60) rfl dX2_bring_138 hi1 ?_
      refine clX2_178 F hw hl ⟨Nat.le_of_ble_eq_true rfl, Nat.le_of_ble_eq_true rfl⟩ (Nat.le_of_ble_eq_true rfl) dX2_bring_139 hf (fun M20 H17 o18 hw hf => ?_)
      refine lv_goto F.1 F.2.1 dX2_bring_142 (tgt := 155) (by decide) ?_
      exact r_vret_w F hw dX2_bring_155 hf
    · refine b_icmp_eq F dX2_bring_79 (tgt := 95) (by decide) hf (fun hc29 hf => ?_) (fun hc29 hf => ?_)
      · exact Jj12 hf _ _ _ (lv_sub hl [1, 2, 3, 4] rfl) hw
      · refine lv_aload_n F.1 F.2.1 dX2_bring_82 rfl (lv_at hl 3 rfl) ?_
        refine gX2_28 F hw rfl dX2_bring_83 ?_
        refine lv_iload_n F.1 F.2.1 dX2_bring_86 rfl (lv_at hl 2 rfl) ?_
        refine r_aald F hw (t := 2) (b := 11) (n := 6) rfl rfl rfl dX2_bring_87 hf (fun hi21 hf => ?_)
        refine lv_iload_n F.1 F.2.1 dX2_bring_88 rfl (lv_at hl 1 rfl) ?_
        refine clX2_182 F hw hl (sh_in11 hi21) ⟨Nat.le_of_ble_eq_true rfl, Nat.le_of_ble_eq_true rfl⟩ (Nat.le_of_ble_eq_true rfl) dX2_bring_89 (fun H22 o23 hw hn24 => ?_)
        refine b_if_eq F dX2_bring_92 (tgt := 145) (by decide) hf (fun hc28 hf => ?_) (fun hc28 hf => ?_)
        · refine lv_aload_n F.1 F.2.1 dX2_bring_145 rfl (lv_at hl 3 rfl) ?_
          refine lv_dup F.1 F.2.1 dX2_bring_146 rfl ?_
          refine gX2_74 F hw rfl dX2_bring_147 ?_
          refine k_iconst_1 F dX2_bring_150 ?_
          refine lv_iadd F.1 F.2.1 dX2_bring_151 ?_
          refine qX2_74 F hw rfl dX2_bring_152 hf (fun M25 H26 o27 hw hf => ?_)
          exact r_vret_w F hw dX2_bring_155 hf
        · exact Jj12 hf _ _ _ (lv_sub hl [1, 2, 3, 4] rfl) hw
  · refine lv_aload_n F.1 F.2.1 dX2_bring_37 rfl (lv_at hl 3 rfl) ?_
    refine gX2_48 F hw rfl dX2_bring_38 ?_
    refine lv_iload F.1 F.2.1 dX2_bring_41 (lv_at hl 0 rfl) ?_
    refine lv_aload_n F.1 F.2.1 dX2_bring_43 rfl (lv_at hl 3 rfl) ?_
    refine gX2_41 F hw rfl dX2_bring_44 ?_
    refine gX2_172 F hw rfl dX2_bring_47 ?_
    refine lv_iload_n F.1 F.2.1 dX2_bring_50 rfl (lv_at hl 4 rfl) ?_
    refine r_iald0 F hw (n := 60) rfl dX2_bring_51 hi1 ?_
    refine lv_aload_n F.1 F.2.1 dX2_bring_52 rfl (lv_at hl 3 rfl) ?_
    refine gX2_41 F hw rfl dX2_bring_53 ?_
    refine gX2_175 F hw rfl dX2_bring_56 ?_
    refine lv_iload_n F.1 F.2.1 dX2_bring_59 rfl (lv_at hl 4 rfl) ?_
    refine r_iald0 F hw (n := 60) rfl dX2_bring_60 hi1 ?_
    refine clX2_178 F hw hl ⟨Nat.le_of_ble_eq_true rfl, Nat.le_of_ble_eq_true rfl⟩ (Nat.le_of_ble_eq_true rfl) dX2_bring_61 hf (fun M33 H30 o31 hw hf => ?_)
    refine lv_aload_n F.1 F.2.1 dX2_bring_64 rfl (lv_at hl 3 rfl) ?_
    refine lv_dup F.1 F.2.1 dX2_bring_65 rfl ?_
    refine gX2_83 F hw rfl dX2_bring_66 ?_
    refine k_iconst_1 F dX2_bring_69 ?_
    refine lv_iadd F.1 F.2.1 dX2_bring_70 ?_
    refine qX2_83 F hw rfl dX2_bring_71 hf (fun M34 H35 o36 hw hf => ?_)
    refine lv_goto F.1 F.2.1 dX2_bring_74 (tgt := 155) (by decide) ?_
    exact r_vret_w F hw dX2_bring_155 hf
theorem clX2_155 (F : Fx D cA RX2 cc nL ret p s m args meth c) (hw : Wd shC D cA ad H0 M H locs) (hl : lv_has ls nL lv) {v1 : Int32} (hR : 4 ≤ R.frames ∧ 89 ≤ R.locals) (hrm : (rest.map fun v => v.category).sum ≤ 8) (hd : decode cc pc = .ok (.invokevirtual 155, 3)) {α : Type} {K : Mem → Option α} {res : α} (hf : bnd1 (fX2_bring v1 M) K = some res) (kk : ∀ (M1 : Mem) (H1 : Heap) (locs1 : List Loc), Wd shC D cA ad H0 M1 H1 locs1 → K M1 = some res → W p l e R s m args below meth c H1 locs1 0 0 Q (F0 m (pc + 3) ls rest)) : W p l e R s m args below meth c H locs 0 0 Q (F0 m pc ls (.int v1 :: .ref (ad 1) :: rest)) := by
  obtain ⟨M1, h1, h2⟩ := bnd1_some hf
  exact r_aftv hw (r_runV (As := [.int v1]) F hw hl (cX2_bring_ok l D cA ad M v1 M1 h1) cz2 (show shC[1]? = some (.inr (2, sf2)) from rfl) cwX2_155 hR hrm hd) (fun H1 o1 hw1 => kk M1 H1 o1 hw1 h2)
def fX2_bringCopies_L4 : Nat → Int32 → Int32 → Mem → Option (Int32 × Mem)
  | 0, _, _, _ => none
  | n + 1, v1, v2, M =>
    if (M 28 5) ≤ v2 then
      some (v1, M)
    else
      ix v2 60 <|
      if (M 33 v2.toNatClampNeg) = (M 1 3) then
        bnd1 (fX2_bring v2 M) fun M13 =>
        fX2_bringCopies_L4 n v1 (v2 + (1 : Int32)) M13
      else
        bnd1 (fX0_move v2 v1 M) fun M7 =>
        fX2_bringCopies_L4 n (v1 + (1 : Int32)) (v2 + (1 : Int32)) M7
def fX2_bringCopies (M : Mem) : Option Mem :=
  bnd2 (fX2_bringCopies_L4 FUEL (0 : Int32) (0 : Int32) M) fun w17 M18 =>
  wr M18 28 5 w17 fun M22 =>
  some M22
set_option maxHeartbeats 4000000 in
set_option maxRecDepth 100000 in
theorem wX2_bringCopies_L4 {p : Program} {l : Launch} {e : Env} {s : State} {m : MethodId} {args : Array Value} {below : List Frame} {meth : Method} {c : Code} {D : va_G} {cA : Nat → ClassId} {ad : Nat → Nat} {Q : State → Prop} (F : Fx D cA RX2 cX2_bringCopies 3 none p s m args meth c) : ∀ (n : Nat) (v1 : Int32) (v2 : Int32) (M : Mem) (H : Heap) (o : List Loc) (ls : Array Slot), lv_has ls 3 [(0, .ref (ad 1)), (1, .int v1), (2, .int v2)] → Wd shC D cA ad s.heap M H o → ∀ (u1 : Int32) (M' : Mem), fX2_bringCopies_L4 n v1 v2 M = some (u1, M') → (∀ (H1 : Heap) (o1 : List Loc) (ls1 : Array Slot), lv_has ls1 3 [(1, .int u1), (0, .ref (ad 1))] → Wd shC D cA ad s.heap M' H1 o1 → W p l e (rz 4 89) s m args below meth c H1 o1 0 0 Q (F0 m 57 ls1 [])) → W p l e (rz 4 89) s m args below meth c H o 0 0 Q (F0 m 4 ls []) := by
  intro n
  induction n with
  | zero =>
    intro v1 v2 M H o ls hl hw u1 M' hf kk
    cases hf
  | succ n ih =>
    intro v1 v2 M H o ls hl hw u1 M' hf kk
    rw [fX2_bringCopies_L4] at hf
    refine lv_iload_n F.1 F.2.1 dX2_bringCopies_4 rfl (lv_at hl 2 rfl) ?_
    refine lv_aload_n F.1 F.2.1 dX2_bringCopies_5 rfl (lv_at hl 0 rfl) ?_
    refine gX2_41 F hw rfl dX2_bringCopies_6 ?_
    refine gX2_64 F hw rfl dX2_bringCopies_9 ?_
    refine b_icmp_ge F dX2_bringCopies_12 (tgt := 57) (by decide) hf (fun hc16 hf => ?_) (fun hc16 hf => ?_)
    · cases hf
      exact kk _ _ _ (lv_sub hl [1, 0] rfl) hw
    · refine lv_aload_n F.1 F.2.1 dX2_bringCopies_15 rfl (lv_at hl 0 rfl) ?_
      refine gX2_41 F hw rfl dX2_bringCopies_16 ?_
      refine gX2_151 F hw rfl dX2_bringCopies_19 ?_
      refine lv_iload_n F.1 F.2.1 dX2_bringCopies_22 rfl (lv_at hl 2 rfl) ?_
      refine r_iald F hw (n := 60) rfl dX2_bringCopies_23 hf (fun hi3 hf => ?_)
      refine lv_aload_n F.1 F.2.1 dX2_bringCopies_24 rfl (lv_at hl 0 rfl) ?_
      refine gX2_61 F hw rfl dX2_bringCopies_25 ?_
      refine b_icmp_ne F dX2_bringCopies_28 (tgt := 39) (by decide) hf (fun hc15 hf => ?_) (fun hc15 hf => ?_)
      · refine lv_aload_n F.1 F.2.1 dX2_bringCopies_31 rfl (lv_at hl 0 rfl) ?_
        refine lv_iload_n F.1 F.2.1 dX2_bringCopies_32 rfl (lv_at hl 2 rfl) ?_
        refine clX2_155 F hw hl ⟨Nat.le_of_ble_eq_true rfl, Nat.le_of_ble_eq_true rfl⟩ (Nat.le_of_ble_eq_true rfl) dX2_bringCopies_33 hf (fun M13 H10 o11 hw hf => ?_)
        refine lv_goto F.1 F.2.1 dX2_bringCopies_36 (tgt := 51) (by decide) ?_
        refine lv_iinc F.1 F.2.1 dX2_bringCopies_51 hl (k := 2) rfl (ki_1 _) (lv' := [(2, .int (v2 + (1 : Int32))), (0, .ref (ad 1)), (1, .int v1)]) (Nat.le_of_ble_eq_true rfl) rfl (fun ls14 hl => ?_)
        refine lv_goto F.1 F.2.1 dX2_bringCopies_54 (tgt := 4) (by decide) ?_
        exact ih v1 (v2 + (1 : Int32)) M13 _ _ _ (lv_sub hl [1, 2, 0] rfl) hw u1 M' hf kk
      · refine lv_aload_n F.1 F.2.1 dX2_bringCopies_39 rfl (lv_at hl 0 rfl) ?_
        refine gX2_41 F hw rfl dX2_bringCopies_40 ?_
        refine lv_iload_n F.1 F.2.1 dX2_bringCopies_43 rfl (lv_at hl 2 rfl) ?_
        refine lv_iload_n F.1 F.2.1 dX2_bringCopies_44 rfl (lv_at hl 1 rfl) ?_
        refine clX2_159 F hw hl ⟨Nat.le_of_ble_eq_true rfl, Nat.le_of_ble_eq_true rfl⟩ (Nat.le_of_ble_eq_true rfl) dX2_bringCopies_45 hf (fun M7 H4 o5 hw hf => ?_)
        refine lv_iinc F.1 F.2.1 dX2_bringCopies_48 hl (k := 1) rfl (ki_1 _) (lv' := [(1, .int (v1 + (1 : Int32))), (0, .ref (ad 1)), (2, .int v2)]) (Nat.le_of_ble_eq_true rfl) rfl (fun ls8 hl => ?_)
        refine lv_iinc F.1 F.2.1 dX2_bringCopies_51 hl (k := 2) rfl (ki_1 _) (lv' := [(2, .int (v2 + (1 : Int32))), (1, .int (v1 + (1 : Int32))), (0, .ref (ad 1))]) (Nat.le_of_ble_eq_true rfl) rfl (fun ls9 hl => ?_)
        refine lv_goto F.1 F.2.1 dX2_bringCopies_54 (tgt := 4) (by decide) ?_
        exact ih (v1 + (1 : Int32)) (v2 + (1 : Int32)) M7 _ _ _ (lv_sub hl [2, 1, 0] rfl) hw u1 M' hf kk
set_option maxHeartbeats 4000000 in
set_option maxRecDepth 100000 in
theorem cX2_bringCopies_ok (l : Launch) (D : va_G) (cA : Nat → ClassId) (ad : Nat → Nat) (M : Mem)  (M' : Mem) (hf : fX2_bringCopies M = some M') : Ctg l yX2_bringCopies cX2_bringCopies 3 none 4 89 shC D cA ad [.ref (ad 1)] M (Qzv shC D cA ad M') := by
  refine ct_in (by decide) (Nat.le_of_ble_eq_true rfl) ?_
  intro p e s m below meth c ls F hl hw
  have hl : lv_has ls 3 [(0, .ref (ad 1))] := hl
  unfold fX2_bringCopies at hf
  refine k_iconst_0 F dX2_bringCopies_0 ?_
  refine lv_istore_n F.1 F.2.1 dX2_bringCopies_1 rfl hl (lv' := [(1, .int (0 : Int32)), (0, .ref (ad 1))]) (Nat.le_of_ble_eq_true rfl) rfl (fun ls1 hl => ?_)
  refine k_iconst_0 F dX2_bringCopies_2 ?_
  refine lv_istore_n F.1 F.2.1 dX2_bringCopies_3 rfl hl (lv' := [(2, .int (0 : Int32)), (1, .int (0 : Int32)), (0, .ref (ad 1))]) (Nat.le_of_ble_eq_true rfl) rfl (fun ls2 hl => ?_)
  obtain ⟨w17, M18, hq25, hf⟩ := bnd2_some hf
  refine wX2_bringCopies_L4 F FUEL (0 : Int32) (0 : Int32) M _ _ _ (lv_sub hl [2, 1, 0] rfl) hw w17 M18 hq25 (fun H19 o20 ls21 hl hw => ?_)
  refine lv_aload_n F.1 F.2.1 dX2_bringCopies_57 rfl (lv_at hl 1 rfl) ?_
  refine gX2_41 F hw rfl dX2_bringCopies_58 ?_
  refine lv_iload_n F.1 F.2.1 dX2_bringCopies_61 rfl (lv_at hl 0 rfl) ?_
  refine qX2_64 F hw rfl dX2_bringCopies_62 hf (fun M22 H23 o24 hw hf => ?_)
  exact r_vret_w F hw dX2_bringCopies_65 hf
theorem clX2_142 (F : Fx D cA RX2 cc nL ret p s m args meth c) (hw : Wd shC D cA ad H0 M H locs) (hl : lv_has ls nL lv) (hR : 5 ≤ R.frames ∧ 111 ≤ R.locals) (hrm : (rest.map fun v => v.category).sum ≤ 8) (hd : decode cc pc = .ok (.invokevirtual 142, 3)) {α : Type} {K : Mem → Option α} {res : α} (hf : bnd1 (fX2_bringCopies M) K = some res) (kk : ∀ (M1 : Mem) (H1 : Heap) (locs1 : List Loc), Wd shC D cA ad H0 M1 H1 locs1 → K M1 = some res → W p l e R s m args below meth c H1 locs1 0 0 Q (F0 m (pc + 3) ls rest)) : W p l e R s m args below meth c H locs 0 0 Q (F0 m pc ls (.ref (ad 1) :: rest)) := by
  obtain ⟨M1, h1, h2⟩ := bnd1_some hf
  exact r_aftv hw (r_runV (As := []) F hw hl (cX2_bringCopies_ok l D cA ad M M1 h1) cz2 (show shC[1]? = some (.inr (2, sf2)) from rfl) cwX2_142 hR hrm hd) (fun H1 o1 hw1 => kk M1 H1 o1 hw1 h2)
def fX2_sendAnswer_L17 : Nat → Int32 → Int32 → Int32 → Int32 → Int32 → Mem → Option (Int32)
  | 0, _, _, _, _, _, _ => none
  | n + 1, v1, v3, v4, v5, v6, M =>
    if (M 1 1) ≤ v6 then
      some v4
    else
      bnd1 (fX6_heardAt v1 v6 M) fun t8 =>
      if t8 ≤ v5 then
        fX2_sendAnswer_L17 n v1 v3 v4 v5 (v6 + (1 : Int32)) M
      else
        ix v6 4 <|
        if (fX1_left (24 + v6.toNatClampNeg) M) < v3 then
          fX2_sendAnswer_L17 n v1 v3 v4 v5 (v6 + (1 : Int32)) M
        else
          fX2_sendAnswer_L17 n v1 v3 v6 t8 (v6 + (1 : Int32)) M
def fX2_sendAnswer (v1 : Int32) (x2 : Nat) (M : Mem) : Option (Int32 × Mem) :=
  bnd1 (fX2_sendAnswer_L17 FUEL v1 ((6 : Int32) - (M x2 0)) (-1 : Int32) (-1 : Int32) (0 : Int32) M) fun w22 =>
  if w22 = (-1 : Int32) then
    wr M 1 14 ((M 1 14) + (1 : Int32)) fun M36 =>
    some ((0 : Int32), M36)
  else
    ix w22 4 <|
    wr M (24 + w22.toNatClampNeg) 2 ((M (24 + w22.toNatClampNeg) 2) + ((6 : Int32) - (M x2 0))) fun M27 =>
    wr M27 (24 + w22.toNatClampNeg) 4 ((M27 (24 + w22.toNatClampNeg) 4) + (1 : Int32)) fun M30 =>
    wr M30 1 13 ((M30 1 13) + (1 : Int32)) fun M33 =>
    some ((1 : Int32), M33)
set_option maxHeartbeats 4000000 in
set_option maxRecDepth 100000 in
theorem wX2_sendAnswer_L17 {p : Program} {l : Launch} {e : Env} {s : State} {m : MethodId} {args : Array Value} {below : List Frame} {meth : Method} {c : Code} {D : va_G} {cA : Nat → ClassId} {ad : Nat → Nat} {Q : State → Prop} (F : Fx D cA RX2 cX2_sendAnswer 8 (some .boolean) p s m args meth c) : ∀ (n : Nat) (v1 : Int32) (v3 : Int32) (v4 : Int32) (v5 : Int32) (v6 : Int32) (M : Mem) (H : Heap) (o : List Loc) (ls : Array Slot), lv_has ls 8 [(0, .ref (ad 1)), (1, .int v1), (3, .int v3), (4, .int v4), (5, .int v5), (6, .int v6)] → Wd shC D cA ad s.heap M H o → ∀ (u4 : Int32), fX2_sendAnswer_L17 n v1 v3 v4 v5 v6 M = some u4 → (∀ (H1 : Heap) (o1 : List Loc) (ls1 : Array Slot), lv_has ls1 8 [(4, .int u4), (0, .ref (ad 1)), (3, .int v3)] → Wd shC D cA ad s.heap M H1 o1 → W p l e (rz 1 22) s m args below meth c H1 o1 0 0 Q (F0 m 73 ls1 [])) → W p l e (rz 1 22) s m args below meth c H o 0 0 Q (F0 m 17 ls []) := by
  intro n
  induction n with
  | zero =>
    intro v1 v3 v4 v5 v6 M H o ls hl hw u4 hf kk
    cases hf
  | succ n ih =>
    intro v1 v3 v4 v5 v6 M H o ls hl hw u4 hf kk
    rw [fX2_sendAnswer_L17] at hf
    refine lv_iload F.1 F.2.1 dX2_sendAnswer_17 (lv_at hl 5 rfl) ?_
    refine lv_aload_n F.1 F.2.1 dX2_sendAnswer_19 rfl (lv_at hl 0 rfl) ?_
    refine gX2_15 F hw rfl dX2_sendAnswer_20 ?_
    refine b_icmp_ge F dX2_sendAnswer_23 (tgt := 73) (by decide) hf (fun hc21 hf => ?_) (fun hc21 hf => ?_)
    · cases hf
      exact kk _ _ _ (lv_sub hl [3, 0, 2] rfl) hw
    · refine lv_aload_n F.1 F.2.1 dX2_sendAnswer_26 rfl (lv_at hl 0 rfl) ?_
      refine gX2_48 F hw rfl dX2_sendAnswer_27 ?_
      refine lv_iload_n F.1 F.2.1 dX2_sendAnswer_30 rfl (lv_at hl 1 rfl) ?_
      refine lv_iload F.1 F.2.1 dX2_sendAnswer_31 (lv_at hl 5 rfl) ?_
      refine clX2_227 F hw hl ⟨Nat.le_of_ble_eq_true rfl, Nat.le_of_ble_eq_true rfl⟩ (Nat.le_of_ble_eq_true rfl) dX2_sendAnswer_33 hf (fun t8 H5 o6 hw hn7 hf => ?_)
      refine lv_istore F.1 F.2.1 dX2_sendAnswer_36 hl (lv' := [(7, .int t8), (0, .ref (ad 1)), (1, .int v1), (3, .int v3), (4, .int v4), (5, .int v5), (6, .int v6)]) (Nat.le_of_ble_eq_true rfl) rfl (fun ls9 hl => ?_)
      refine lv_iload F.1 F.2.1 dX2_sendAnswer_38 (lv_at hl 0 rfl) ?_
      refine lv_iload F.1 F.2.1 dX2_sendAnswer_40 (lv_at hl 5 rfl) ?_
      refine b_icmp_le F dX2_sendAnswer_42 (tgt := 67) (by decide) hf (fun hc20 hf => ?_) (fun hc20 hf => ?_)
      · refine lv_iinc F.1 F.2.1 dX2_sendAnswer_67 hl (k := 6) rfl (ki_1 _) (lv' := [(6, .int (v6 + (1 : Int32))), (7, .int t8), (0, .ref (ad 1)), (1, .int v1), (3, .int v3), (4, .int v4), (5, .int v5)]) (Nat.le_of_ble_eq_true rfl) rfl (fun ls10 hl => ?_)
        refine lv_goto F.1 F.2.1 dX2_sendAnswer_70 (tgt := 17) (by decide) ?_
        exact ih v1 v3 v4 v5 (v6 + (1 : Int32)) M _ _ _ (lv_sub hl [2, 3, 4, 5, 6, 0] rfl) hw u4 hf kk
      · refine lv_aload_n F.1 F.2.1 dX2_sendAnswer_45 rfl (lv_at hl 1 rfl) ?_
        refine gX2_34 F hw rfl dX2_sendAnswer_46 ?_
        refine lv_iload F.1 F.2.1 dX2_sendAnswer_49 (lv_at hl 6 rfl) ?_
        refine r_aald F hw (t := 3) (b := 24) (n := 4) rfl rfl rfl dX2_sendAnswer_51 hf (fun hi11 hf => ?_)
        refine clX2_239 F hw hl (sh_in24 hi11) ⟨Nat.le_of_ble_eq_true rfl, Nat.le_of_ble_eq_true rfl⟩ (Nat.le_of_ble_eq_true rfl) dX2_sendAnswer_52 (fun H12 o13 hw hn14 => ?_)
        refine lv_iload_n F.1 F.2.1 dX2_sendAnswer_55 rfl (lv_at hl 3 rfl) ?_
        refine b_icmp_lt F dX2_sendAnswer_56 (tgt := 67) (by decide) hf (fun hc19 hf => ?_) (fun hc19 hf => ?_)
        · refine lv_iinc F.1 F.2.1 dX2_sendAnswer_67 hl (k := 6) rfl (ki_1 _) (lv' := [(6, .int (v6 + (1 : Int32))), (7, .int t8), (0, .ref (ad 1)), (1, .int v1), (3, .int v3), (4, .int v4), (5, .int v5)]) (Nat.le_of_ble_eq_true rfl) rfl (fun ls15 hl => ?_)
          refine lv_goto F.1 F.2.1 dX2_sendAnswer_70 (tgt := 17) (by decide) ?_
          exact ih v1 v3 v4 v5 (v6 + (1 : Int32)) M _ _ _ (lv_sub hl [2, 3, 4, 5, 6, 0] rfl) hw u4 hf kk
        · refine lv_iload F.1 F.2.1 dX2_sendAnswer_59 (lv_at hl 6 rfl) ?_
          refine lv_istore F.1 F.2.1 dX2_sendAnswer_61 hl (lv' := [(4, .int v6), (7, .int t8), (0, .ref (ad 1)), (1, .int v1), (3, .int v3), (5, .int v5), (6, .int v6)]) (Nat.le_of_ble_eq_true rfl) rfl (fun ls16 hl => ?_)
          refine lv_iload F.1 F.2.1 dX2_sendAnswer_63 (lv_at hl 1 rfl) ?_
          refine lv_istore F.1 F.2.1 dX2_sendAnswer_65 hl (lv' := [(5, .int t8), (4, .int v6), (7, .int t8), (0, .ref (ad 1)), (1, .int v1), (3, .int v3), (6, .int v6)]) (Nat.le_of_ble_eq_true rfl) rfl (fun ls17 hl => ?_)
          refine lv_iinc F.1 F.2.1 dX2_sendAnswer_67 hl (k := 6) rfl (ki_1 _) (lv' := [(6, .int (v6 + (1 : Int32))), (5, .int t8), (4, .int v6), (7, .int t8), (0, .ref (ad 1)), (1, .int v1), (3, .int v3)]) (Nat.le_of_ble_eq_true rfl) rfl (fun ls18 hl => ?_)
          refine lv_goto F.1 F.2.1 dX2_sendAnswer_70 (tgt := 17) (by decide) ?_
          exact ih v1 v3 v6 t8 (v6 + (1 : Int32)) M _ _ _ (lv_sub hl [4, 5, 6, 2, 1, 0] rfl) hw u4 hf kk
set_option maxHeartbeats 4000000 in
set_option maxRecDepth 100000 in
theorem cX2_sendAnswer_ok (l : Launch) (D : va_G) (cA : Nat → ClassId) (ad : Nat → Nat) (M : Mem) {x2 : Nat} (hx2 : shC[x2]? = some (.inr (3, sf3))) (v1 : Int32) (r : Int32) (M' : Mem) (hf : fX2_sendAnswer v1 x2 M = some (r, M')) : Ctg l yX2_sendAnswer cX2_sendAnswer 8 (some .boolean) 1 22 shC D cA ad [.ref (ad 1), .int v1, .ref (ad x2)] M (Qzi shC D cA ad .boolean r M') := by
  refine ct_in (by decide) (Nat.le_of_ble_eq_true rfl) ?_
  intro p e s m below meth c ls F hl hw
  have hl : lv_has ls 8 [(0, .ref (ad 1)), (1, .int v1), (2, .ref (ad x2))] := hl
  unfold fX2_sendAnswer at hf
  refine k_bipush_6 F dX2_sendAnswer_0 ?_
  refine lv_aload_n F.1 F.2.1 dX2_sendAnswer_2 rfl (lv_at hl 2 rfl) ?_
  refine gX2_112 F hw hx2 dX2_sendAnswer_3 ?_
  refine lv_isub F.1 F.2.1 dX2_sendAnswer_6 ?_
  refine lv_istore_n F.1 F.2.1 dX2_sendAnswer_7 rfl hl (lv' := [(3, .int ((6 : Int32) - (M x2 0))), (0, .ref (ad 1)), (1, .int v1), (2, .ref (ad x2))]) (Nat.le_of_ble_eq_true rfl) rfl (fun ls1 hl => ?_)
  refine k_iconst_m1 F dX2_sendAnswer_8 ?_
  refine lv_istore F.1 F.2.1 dX2_sendAnswer_9 hl (lv' := [(4, .int (-1 : Int32)), (3, .int ((6 : Int32) - (M x2 0))), (0, .ref (ad 1)), (1, .int v1), (2, .ref (ad x2))]) (Nat.le_of_ble_eq_true rfl) rfl (fun ls2 hl => ?_)
  refine k_iconst_m1 F dX2_sendAnswer_11 ?_
  refine lv_istore F.1 F.2.1 dX2_sendAnswer_12 hl (lv' := [(5, .int (-1 : Int32)), (4, .int (-1 : Int32)), (3, .int ((6 : Int32) - (M x2 0))), (0, .ref (ad 1)), (1, .int v1), (2, .ref (ad x2))]) (Nat.le_of_ble_eq_true rfl) rfl (fun ls3 hl => ?_)
  refine k_iconst_0 F dX2_sendAnswer_14 ?_
  refine lv_istore F.1 F.2.1 dX2_sendAnswer_15 hl (lv' := [(6, .int (0 : Int32)), (5, .int (-1 : Int32)), (4, .int (-1 : Int32)), (3, .int ((6 : Int32) - (M x2 0))), (0, .ref (ad 1)), (1, .int v1), (2, .ref (ad x2))]) (Nat.le_of_ble_eq_true rfl) rfl (fun ls4 hl => ?_)
  obtain ⟨w22, hq40, hf⟩ := bnd1_some hf
  refine wX2_sendAnswer_L17 F FUEL v1 ((6 : Int32) - (M x2 0)) (-1 : Int32) (-1 : Int32) (0 : Int32) M _ _ _ (lv_sub hl [4, 5, 3, 2, 1, 0] rfl) hw w22 hq40 (fun H23 o24 ls25 hl hw => ?_)
  refine lv_iload F.1 F.2.1 dX2_sendAnswer_73 (lv_at hl 0 rfl) ?_
  refine k_iconst_m1 F dX2_sendAnswer_75 ?_
  refine b_icmp_ne F dX2_sendAnswer_76 (tgt := 91) (by decide) hf (fun hc39 hf => ?_) (fun hc39 hf => ?_)
  · refine lv_aload_n F.1 F.2.1 dX2_sendAnswer_79 rfl (lv_at hl 1 rfl) ?_
    refine lv_dup F.1 F.2.1 dX2_sendAnswer_80 rfl ?_
    refine gX2_80 F hw rfl dX2_sendAnswer_81 ?_
    refine k_iconst_1 F dX2_sendAnswer_84 ?_
    refine lv_iadd F.1 F.2.1 dX2_sendAnswer_85 ?_
    refine qX2_80 F hw rfl dX2_sendAnswer_86 hf (fun M36 H37 o38 hw hf => ?_)
    refine k_iconst_0 F dX2_sendAnswer_89 ?_
    exact r_iret_w F hw rfl dX2_sendAnswer_90 hf
  · refine lv_aload_n F.1 F.2.1 dX2_sendAnswer_91 rfl (lv_at hl 1 rfl) ?_
    refine gX2_34 F hw rfl dX2_sendAnswer_92 ?_
    refine lv_iload F.1 F.2.1 dX2_sendAnswer_95 (lv_at hl 0 rfl) ?_
    refine r_aald F hw (t := 3) (b := 24) (n := 4) rfl rfl rfl dX2_sendAnswer_97 hf (fun hi26 hf => ?_)
    refine lv_dup F.1 F.2.1 dX2_sendAnswer_98 rfl ?_
    refine gX2_148 F hw (sh_in24 hi26) dX2_sendAnswer_99 ?_
    refine lv_iload_n F.1 F.2.1 dX2_sendAnswer_102 rfl (lv_at hl 2 rfl) ?_
    refine lv_iadd F.1 F.2.1 dX2_sendAnswer_103 ?_
    refine qX2_148 F hw (sh_in24 hi26) dX2_sendAnswer_104 hf (fun M27 H28 o29 hw hf => ?_)
    refine lv_aload_n F.1 F.2.1 dX2_sendAnswer_107 rfl (lv_at hl 1 rfl) ?_
    refine gX2_34 F hw rfl dX2_sendAnswer_108 ?_
    refine lv_iload F.1 F.2.1 dX2_sendAnswer_111 (lv_at hl 0 rfl) ?_
    refine r_aald0 F hw (t := 3) (b := 24) (n := 4) rfl rfl rfl dX2_sendAnswer_113 hi26 ?_
    refine lv_dup F.1 F.2.1 dX2_sendAnswer_114 rfl ?_
    refine gX2_242 F hw (sh_in24 hi26) dX2_sendAnswer_115 ?_
    refine k_iconst_1 F dX2_sendAnswer_118 ?_
    refine lv_iadd F.1 F.2.1 dX2_sendAnswer_119 ?_
    refine qX2_242 F hw (sh_in24 hi26) dX2_sendAnswer_120 hf (fun M30 H31 o32 hw hf => ?_)
    refine lv_aload_n F.1 F.2.1 dX2_sendAnswer_123 rfl (lv_at hl 1 rfl) ?_
    refine lv_dup F.1 F.2.1 dX2_sendAnswer_124 rfl ?_
    refine gX2_77 F hw rfl dX2_sendAnswer_125 ?_
    refine k_iconst_1 F dX2_sendAnswer_128 ?_
    refine lv_iadd F.1 F.2.1 dX2_sendAnswer_129 ?_
    refine qX2_77 F hw rfl dX2_sendAnswer_130 hf (fun M33 H34 o35 hw hf => ?_)
    refine k_iconst_1 F dX2_sendAnswer_133 ?_
    exact r_iret_w F hw rfl dX2_sendAnswer_134 hf
theorem clX2_210 (F : Fx D cA RX2 cc nL ret p s m args meth c) (hw : Wd shC D cA ad H0 M H locs) (hl : lv_has ls nL lv) {v1 : Int32} {x2 : Nat} (hx2 : shC[x2]? = some (.inr (3, sf3))) (hR : 2 ≤ R.frames ∧ 49 ≤ R.locals) (hrm : (rest.map fun v => v.category).sum ≤ 8) (hd : decode cc pc = .ok (.invokevirtual 210, 3)) {α : Type} {K : Int32 → Mem → Option α} {res : α} (hf : bnd2 (fX2_sendAnswer v1 x2 M) K = some res) (kk : ∀ (t : Int32) (M1 : Mem) (H1 : Heap) (locs1 : List Loc), Wd shC D cA ad H0 M1 H1 locs1 → narrow .boolean (.int t) = .int t → K t M1 = some res → W p l e R s m args below meth c H1 locs1 0 0 Q (F0 m (pc + 3) ls (.int t :: rest))) : W p l e R s m args below meth c H locs 0 0 Q (F0 m pc ls (.ref (ad x2) :: .int v1 :: .ref (ad 1) :: rest)) := by
  obtain ⟨t, M1, h1, h2⟩ := bnd2_some hf
  exact r_afti hw (r_runV (As := [.int v1, .ref (ad x2)]) F hw hl (cX2_sendAnswer_ok l D cA ad M hx2 v1 t M1 h1) cz2 (show shC[1]? = some (.inr (2, sf2)) from rfl) cwX2_210 hR hrm hd) (fun H1 o1 hw1 hn => kk t M1 H1 o1 hw1 hn h2)
def fX2_takeJoining (v1 : Int32) (x2 : Nat) (M : Mem) : Option Mem :=
  wr M 1 11 ((M 1 11) + (1 : Int32)) fun M1 =>
  wr M1 x2 5 (63 : Int32) fun M4 =>
  wr M4 x2 7 (0 : Int32) fun M7 =>
  bnd2 (fX2_sendAnswer v1 x2 M7) fun t14 M13 =>
  if t14 = 0 then
    some M13
  else
    wr M13 x2 3 (1 : Int32) fun M15 =>
    wr M15 x2 2 (0 : Int32) fun M18 =>
    some M18
set_option maxHeartbeats 4000000 in
set_option maxRecDepth 100000 in
theorem cX2_takeJoining_ok (l : Launch) (D : va_G) (cA : Nat → ClassId) (ad : Nat → Nat) (M : Mem) {x2 : Nat} (hx2 : shC[x2]? = some (.inr (3, sf3))) (v1 : Int32) (M' : Mem) (hf : fX2_takeJoining v1 x2 M = some M') : Ctg l yX2_takeJoining cX2_takeJoining 3 none 2 49 shC D cA ad [.ref (ad 1), .int v1, .ref (ad x2)] M (Qzv shC D cA ad M') := by
  refine ct_in (by decide) (Nat.le_of_ble_eq_true rfl) ?_
  intro p e s m below meth c ls F hl hw
  have hl : lv_has ls 3 [(0, .ref (ad 1)), (1, .int v1), (2, .ref (ad x2))] := hl
  unfold fX2_takeJoining at hf
  refine lv_aload_n F.1 F.2.1 dX2_takeJoining_0 rfl (lv_at hl 0 rfl) ?_
  refine lv_dup F.1 F.2.1 dX2_takeJoining_1 rfl ?_
  refine gX2_71 F hw rfl dX2_takeJoining_2 ?_
  refine k_iconst_1 F dX2_takeJoining_5 ?_
  refine lv_iadd F.1 F.2.1 dX2_takeJoining_6 ?_
  refine qX2_71 F hw rfl dX2_takeJoining_7 hf (fun M1 H2 o3 hw hf => ?_)
  refine lv_aload_n F.1 F.2.1 dX2_takeJoining_10 rfl (lv_at hl 2 rfl) ?_
  refine k_bipush_63 F dX2_takeJoining_11 ?_
  refine qX2_204 F hw hx2 dX2_takeJoining_13 hf (fun M4 H5 o6 hw hf => ?_)
  refine lv_aload_n F.1 F.2.1 dX2_takeJoining_16 rfl (lv_at hl 2 rfl) ?_
  refine k_iconst_0 F dX2_takeJoining_17 ?_
  refine qX2_207 F hw hx2 dX2_takeJoining_18 hf (fun M7 H8 o9 hw hf => ?_)
  refine lv_aload_n F.1 F.2.1 dX2_takeJoining_21 rfl (lv_at hl 0 rfl) ?_
  refine lv_iload_n F.1 F.2.1 dX2_takeJoining_22 rfl (lv_at hl 1 rfl) ?_
  refine lv_aload_n F.1 F.2.1 dX2_takeJoining_23 rfl (lv_at hl 2 rfl) ?_
  refine clX2_210 F hw hl hx2 ⟨Nat.le_of_ble_eq_true rfl, Nat.le_of_ble_eq_true rfl⟩ (Nat.le_of_ble_eq_true rfl) dX2_takeJoining_24 hf (fun t14 M13 H10 o11 hw hn12 hf => ?_)
  refine b_if_eq F dX2_takeJoining_27 (tgt := 40) (by decide) hf (fun hc21 hf => ?_) (fun hc21 hf => ?_)
  · exact r_vret_w F hw dX2_takeJoining_40 hf
  · refine lv_aload_n F.1 F.2.1 dX2_takeJoining_30 rfl (lv_at hl 2 rfl) ?_
    refine k_iconst_1 F dX2_takeJoining_31 ?_
    refine qX2_214 F hw hx2 dX2_takeJoining_32 hf (fun M15 H16 o17 hw hf => ?_)
    refine lv_aload_n F.1 F.2.1 dX2_takeJoining_35 rfl (lv_at hl 2 rfl) ?_
    refine k_iconst_0 F dX2_takeJoining_36 ?_
    refine qX2_217 F hw hx2 dX2_takeJoining_37 hf (fun M18 H19 o20 hw hf => ?_)
    exact r_vret_w F hw dX2_takeJoining_40 hf
theorem clX2_194 (F : Fx D cA RX2 cc nL ret p s m args meth c) (hw : Wd shC D cA ad H0 M H locs) (hl : lv_has ls nL lv) {v1 : Int32} {x2 : Nat} (hx2 : shC[x2]? = some (.inr (3, sf3))) (hR : 3 ≤ R.frames ∧ 71 ≤ R.locals) (hrm : (rest.map fun v => v.category).sum ≤ 8) (hd : decode cc pc = .ok (.invokevirtual 194, 3)) {α : Type} {K : Mem → Option α} {res : α} (hf : bnd1 (fX2_takeJoining v1 x2 M) K = some res) (kk : ∀ (M1 : Mem) (H1 : Heap) (locs1 : List Loc), Wd shC D cA ad H0 M1 H1 locs1 → K M1 = some res → W p l e R s m args below meth c H1 locs1 0 0 Q (F0 m (pc + 3) ls rest)) : W p l e R s m args below meth c H locs 0 0 Q (F0 m pc ls (.ref (ad x2) :: .int v1 :: .ref (ad 1) :: rest)) := by
  obtain ⟨M1, h1, h2⟩ := bnd1_some hf
  exact r_aftv hw (r_runV (As := [.int v1, .ref (ad x2)]) F hw hl (cX2_takeJoining_ok l D cA ad M hx2 v1 M1 h1) cz2 (show shC[1]? = some (.inr (2, sf2)) from rfl) cwX2_194 hR hrm hd) (fun H1 o1 hw1 => kk M1 H1 o1 hw1 h2)
def fX2_takeLetter (v1 : Int32) (x2 : Nat) (M : Mem) : Option Mem :=
  bnd1 (fX6_bestGate v1 M) fun t4 =>
  wr M 1 10 ((M 1 10) + (1 : Int32)) fun M6 =>
  ix t4 4 <|
  wr M6 (24 + t4.toNatClampNeg) 5 ((M6 (24 + t4.toNatClampNeg) 5) + (1 : Int32)) fun M10 =>
  ix v1 390 <|
  bnd1 (fX6_heardAt v1 t4 M10) fun t17 =>
  bnd1 (fX3_takeLetter x2 (M10 36 v1.toNatClampNeg) t17 M10) fun M21 =>
  if (4 : Int32) ≤ (M21 x2 7) then
    bnd1 (fX3_greatestMargin x2 M21) fun t25 =>
    bnd1 (fX5_find (M21 x2 0) (M21 x2 1) t25 M21) fun M29 =>
    jn (
      wr M29 x2 7 (0 : Int32) fun M34 =>
      bnd2 (fX2_sendAnswer v1 x2 M34) fun t41 M40 =>
      if t41 = 0 then
        some M40
      else
        if (M40 x2 3) = (1 : Int32) then
          wr M40 x2 0 (M40 39 0) fun M42 =>
          wr M42 x2 1 (M42 39 1) fun M45 =>
          some M45
        else
          some M40) fun j33 =>
    if (M29 39 0) = (M29 x2 0) then
      if (M29 39 1) = (M29 x2 1) then
        some M29
      else
        j33
    else
      j33
  else
    some M21
set_option maxHeartbeats 4000000 in
set_option maxRecDepth 100000 in
theorem cX2_takeLetter_ok (l : Launch) (D : va_G) (cA : Nat → ClassId) (ad : Nat → Nat) (M : Mem) {x2 : Nat} (hx2 : shC[x2]? = some (.inr (3, sf3))) (v1 : Int32) (M' : Mem) (hf : fX2_takeLetter v1 x2 M = some M') : Ctg l yX2_takeLetter cX2_takeLetter 4 none 3 65 shC D cA ad [.ref (ad 1), .int v1, .ref (ad x2)] M (Qzv shC D cA ad M') := by
  refine ct_in (by decide) (Nat.le_of_ble_eq_true rfl) ?_
  intro p e s m below meth c ls F hl hw
  have hl : lv_has ls 4 [(0, .ref (ad 1)), (1, .int v1), (2, .ref (ad x2))] := hl
  unfold fX2_takeLetter at hf
  refine lv_aload_n F.1 F.2.1 dX2_takeLetter_0 rfl (lv_at hl 0 rfl) ?_
  refine gX2_48 F hw rfl dX2_takeLetter_1 ?_
  refine lv_iload_n F.1 F.2.1 dX2_takeLetter_4 rfl (lv_at hl 1 rfl) ?_
  refine clX2_220 F hw hl ⟨Nat.le_of_ble_eq_true rfl, Nat.le_of_ble_eq_true rfl⟩ (Nat.le_of_ble_eq_true rfl) dX2_takeLetter_5 hf (fun t4 H1 o2 hw hn3 hf => ?_)
  refine lv_istore_n F.1 F.2.1 dX2_takeLetter_8 rfl hl (lv' := [(3, .int t4), (0, .ref (ad 1)), (1, .int v1), (2, .ref (ad x2))]) (Nat.le_of_ble_eq_true rfl) rfl (fun ls5 hl => ?_)
  refine lv_aload_n F.1 F.2.1 dX2_takeLetter_9 rfl (lv_at hl 1 rfl) ?_
  refine lv_dup F.1 F.2.1 dX2_takeLetter_10 rfl ?_
  refine gX2_68 F hw rfl dX2_takeLetter_11 ?_
  refine k_iconst_1 F dX2_takeLetter_14 ?_
  refine lv_iadd F.1 F.2.1 dX2_takeLetter_15 ?_
  refine qX2_68 F hw rfl dX2_takeLetter_16 hf (fun M6 H7 o8 hw hf => ?_)
  refine lv_aload_n F.1 F.2.1 dX2_takeLetter_19 rfl (lv_at hl 1 rfl) ?_
  refine gX2_34 F hw rfl dX2_takeLetter_20 ?_
  refine lv_iload_n F.1 F.2.1 dX2_takeLetter_23 rfl (lv_at hl 0 rfl) ?_
  refine r_aald F hw (t := 3) (b := 24) (n := 4) rfl rfl rfl dX2_takeLetter_24 hf (fun hi9 hf => ?_)
  refine lv_dup F.1 F.2.1 dX2_takeLetter_25 rfl ?_
  refine gX2_224 F hw (sh_in24 hi9) dX2_takeLetter_26 ?_
  refine k_iconst_1 F dX2_takeLetter_29 ?_
  refine lv_iadd F.1 F.2.1 dX2_takeLetter_30 ?_
  refine qX2_224 F hw (sh_in24 hi9) dX2_takeLetter_31 hf (fun M10 H11 o12 hw hf => ?_)
  refine lv_aload_n F.1 F.2.1 dX2_takeLetter_34 rfl (lv_at hl 3 rfl) ?_
  refine lv_aload_n F.1 F.2.1 dX2_takeLetter_35 rfl (lv_at hl 1 rfl) ?_
  refine gX2_48 F hw rfl dX2_takeLetter_36 ?_
  refine gX2_193 F hw rfl dX2_takeLetter_39 ?_
  refine lv_iload_n F.1 F.2.1 dX2_takeLetter_42 rfl (lv_at hl 2 rfl) ?_
  refine r_iald F hw (n := 390) rfl dX2_takeLetter_43 hf (fun hi13 hf => ?_)
  refine lv_aload_n F.1 F.2.1 dX2_takeLetter_44 rfl (lv_at hl 1 rfl) ?_
  refine gX2_48 F hw rfl dX2_takeLetter_45 ?_
  refine lv_iload_n F.1 F.2.1 dX2_takeLetter_48 rfl (lv_at hl 2 rfl) ?_
  refine lv_iload_n F.1 F.2.1 dX2_takeLetter_49 rfl (lv_at hl 0 rfl) ?_
  refine clX2_227 F hw hl ⟨Nat.le_of_ble_eq_true rfl, Nat.le_of_ble_eq_true rfl⟩ (Nat.le_of_ble_eq_true rfl) dX2_takeLetter_50 hf (fun t17 H14 o15 hw hn16 hf => ?_)
  refine clX2_230 F hw hl hx2 ⟨Nat.le_of_ble_eq_true rfl, Nat.le_of_ble_eq_true rfl⟩ (Nat.le_of_ble_eq_true rfl) dX2_takeLetter_53 hf (fun M21 H18 o19 hw hf => ?_)
  refine lv_aload_n F.1 F.2.1 dX2_takeLetter_56 rfl (lv_at hl 3 rfl) ?_
  refine gX2_207 F hw hx2 dX2_takeLetter_57 ?_
  refine k_iconst_4 F dX2_takeLetter_60 ?_
  refine b_icmp_ge F dX2_takeLetter_61 (tgt := 65) (by decide) hf (fun hc52 hf => ?_) (fun hc52 hf => ?_)
  · refine lv_aload_n F.1 F.2.1 dX2_takeLetter_65 rfl (lv_at hl 1 rfl) ?_
    refine gX2_55 F hw rfl dX2_takeLetter_66 ?_
    refine lv_aload_n F.1 F.2.1 dX2_takeLetter_69 rfl (lv_at hl 3 rfl) ?_
    refine gX2_112 F hw hx2 dX2_takeLetter_70 ?_
    refine lv_aload_n F.1 F.2.1 dX2_takeLetter_73 rfl (lv_at hl 3 rfl) ?_
    refine gX2_109 F hw hx2 dX2_takeLetter_74 ?_
    refine lv_aload_n F.1 F.2.1 dX2_takeLetter_77 rfl (lv_at hl 3 rfl) ?_
    refine clX2_232 F hw hl hx2 ⟨Nat.le_of_ble_eq_true rfl, Nat.le_of_ble_eq_true rfl⟩ (Nat.le_of_ble_eq_true rfl) dX2_takeLetter_78 hf (fun t25 H22 o23 hw hn24 hf => ?_)
    refine clX2_235 F hw hl ⟨Nat.le_of_ble_eq_true rfl, Nat.le_of_ble_eq_true rfl⟩ (Nat.le_of_ble_eq_true rfl) dX2_takeLetter_81 hf (fun M29 H26 o27 hw hf => ?_)
    refine lv_aload_n F.1 F.2.1 dX2_takeLetter_84 rfl (lv_at hl 1 rfl) ?_
    refine gX2_55 F hw rfl dX2_takeLetter_85 ?_
    refine gX2_237 F hw rfl dX2_takeLetter_88 ?_
    refine lv_aload_n F.1 F.2.1 dX2_takeLetter_91 rfl (lv_at hl 3 rfl) ?_
    refine gX2_112 F hw hx2 dX2_takeLetter_92 ?_
    refine jn_go0 (∀ (H30 : Heap) (o31 : List Loc) (ls32 : Array Slot), lv_has ls32 4 [(0, .ref (ad 1)), (1, .int v1), (2, .ref (ad x2))] → Wd shC D cA ad s.heap M29 H30 o31 → W p l e (rz 3 65) s m ([.ref (ad 1), .int v1, .ref (ad x2)] : List Value).toArray below meth c H30 o31 0 0 (MQ below (Qzv shC D cA ad M') ([.ref (ad 1), .int v1, .ref (ad x2)] : List Value).toArray s 0 0 (Az shC ad)) (F0 m 113 ls32 [])) hf (fun hf H30 o31 ls32 hl hw => ?_) (fun j33 Jj33 hf => ?_)
    · refine lv_aload_n F.1 F.2.1 dX2_takeLetter_113 rfl (lv_at hl 2 rfl) ?_
      refine k_iconst_0 F dX2_takeLetter_114 ?_
      refine qX2_207 F hw hx2 dX2_takeLetter_115 hf (fun M34 H35 o36 hw hf => ?_)
      refine lv_aload_n F.1 F.2.1 dX2_takeLetter_118 rfl (lv_at hl 0 rfl) ?_
      refine lv_iload_n F.1 F.2.1 dX2_takeLetter_119 rfl (lv_at hl 1 rfl) ?_
      refine lv_aload_n F.1 F.2.1 dX2_takeLetter_120 rfl (lv_at hl 2 rfl) ?_
      refine clX2_210 F hw hl hx2 ⟨Nat.le_of_ble_eq_true rfl, Nat.le_of_ble_eq_true rfl⟩ (Nat.le_of_ble_eq_true rfl) dX2_takeLetter_121 hf (fun t41 M40 H37 o38 hw hn39 hf => ?_)
      refine b_if_eq F dX2_takeLetter_124 (tgt := 157) (by decide) hf (fun hc49 hf => ?_) (fun hc49 hf => ?_)
      · exact r_vret_w F hw dX2_takeLetter_157 hf
      · refine lv_aload_n F.1 F.2.1 dX2_takeLetter_127 rfl (lv_at hl 2 rfl) ?_
        refine gX2_214 F hw hx2 dX2_takeLetter_128 ?_
        refine k_iconst_1 F dX2_takeLetter_131 ?_
        refine b_icmp_ne F dX2_takeLetter_132 (tgt := 157) (by decide) hf (fun hc48 hf => ?_) (fun hc48 hf => ?_)
        · refine lv_aload_n F.1 F.2.1 dX2_takeLetter_135 rfl (lv_at hl 2 rfl) ?_
          refine lv_aload_n F.1 F.2.1 dX2_takeLetter_136 rfl (lv_at hl 0 rfl) ?_
          refine gX2_55 F hw rfl dX2_takeLetter_137 ?_
          refine gX2_237 F hw rfl dX2_takeLetter_140 ?_
          refine qX2_112 F hw hx2 dX2_takeLetter_143 hf (fun M42 H43 o44 hw hf => ?_)
          refine lv_aload_n F.1 F.2.1 dX2_takeLetter_146 rfl (lv_at hl 2 rfl) ?_
          refine lv_aload_n F.1 F.2.1 dX2_takeLetter_147 rfl (lv_at hl 0 rfl) ?_
          refine gX2_55 F hw rfl dX2_takeLetter_148 ?_
          refine gX2_238 F hw rfl dX2_takeLetter_151 ?_
          refine qX2_109 F hw hx2 dX2_takeLetter_154 hf (fun M45 H46 o47 hw hf => ?_)
          exact r_vret_w F hw dX2_takeLetter_157 hf
        · exact r_vret_w F hw dX2_takeLetter_157 hf
    · refine b_icmp_ne F dX2_takeLetter_95 (tgt := 113) (by decide) hf (fun hc51 hf => ?_) (fun hc51 hf => ?_)
      · refine lv_aload_n F.1 F.2.1 dX2_takeLetter_98 rfl (lv_at hl 1 rfl) ?_
        refine gX2_55 F hw rfl dX2_takeLetter_99 ?_
        refine gX2_238 F hw rfl dX2_takeLetter_102 ?_
        refine lv_aload_n F.1 F.2.1 dX2_takeLetter_105 rfl (lv_at hl 3 rfl) ?_
        refine gX2_109 F hw hx2 dX2_takeLetter_106 ?_
        refine b_icmp_ne F dX2_takeLetter_109 (tgt := 113) (by decide) hf (fun hc50 hf => ?_) (fun hc50 hf => ?_)
        · exact r_vret_w F hw dX2_takeLetter_112 hf
        · exact Jj33 hf _ _ _ (lv_sub hl [1, 2, 3] rfl) hw
      · exact Jj33 hf _ _ _ (lv_sub hl [1, 2, 3] rfl) hw
  · exact r_vret_w F hw dX2_takeLetter_64 hf
theorem clX2_198 (F : Fx D cA RX2 cc nL ret p s m args meth c) (hw : Wd shC D cA ad H0 M H locs) (hl : lv_has ls nL lv) {v1 : Int32} {x2 : Nat} (hx2 : shC[x2]? = some (.inr (3, sf3))) (hR : 4 ≤ R.frames ∧ 88 ≤ R.locals) (hrm : (rest.map fun v => v.category).sum ≤ 8) (hd : decode cc pc = .ok (.invokevirtual 198, 3)) {α : Type} {K : Mem → Option α} {res : α} (hf : bnd1 (fX2_takeLetter v1 x2 M) K = some res) (kk : ∀ (M1 : Mem) (H1 : Heap) (locs1 : List Loc), Wd shC D cA ad H0 M1 H1 locs1 → K M1 = some res → W p l e R s m args below meth c H1 locs1 0 0 Q (F0 m (pc + 3) ls rest)) : W p l e R s m args below meth c H locs 0 0 Q (F0 m pc ls (.ref (ad x2) :: .int v1 :: .ref (ad 1) :: rest)) := by
  obtain ⟨M1, h1, h2⟩ := bnd1_some hf
  exact r_aftv hw (r_runV (As := [.int v1, .ref (ad x2)]) F hw hl (cX2_takeLetter_ok l D cA ad M hx2 v1 M1 h1) cz2 (show shC[1]? = some (.inr (2, sf2)) from rfl) cwX2_198 hR hrm hd) (fun H1 o1 hw1 => kk M1 H1 o1 hw1 h2)
def fX2_closeWindows_L4 : Nat → Int32 → Int32 → Mem → Option (Int32 × Int32 × Mem)
  | 0, _, _, _ => none
  | n + 1, v1, v2, M =>
    if (M 34 4) ≤ v1 then
      some (v1, v2, M)
    else
      ix v1 390 <|
      if (M 1 3) < ((M 37 v1.toNatClampNeg) + (M 1 2)) then
        some (v1, v2, M)
      else
        ix (M 35 v1.toNatClampNeg) 6 <|
        if (M 36 v1.toNatClampNeg) = (-1 : Int32) then
          bnd1 (fX2_takeJoining v1 (11 + (M 35 v1.toNatClampNeg).toNatClampNeg) M) fun M24 =>
          fX2_closeWindows_L4 n (v1 + (1 : Int32)) (v2 + (1 : Int32)) M24
        else
          if (fX3_isDue (11 + (M 35 v1.toNatClampNeg).toNatClampNeg) (M 36 v1.toNatClampNeg) M) = 0 then
            wr M 1 12 ((M 1 12) + (1 : Int32)) fun M10 =>
            fX2_closeWindows_L4 n (v1 + (1 : Int32)) v2 M10
          else
            bnd1 (fX2_takeLetter v1 (11 + (M 35 v1.toNatClampNeg).toNatClampNeg) M) fun M17 =>
            fX2_closeWindows_L4 n (v1 + (1 : Int32)) (v2 + (1 : Int32)) M17
def fX2_closeWindows (M : Mem) : Option (Int32 × Mem) :=
  bnd3 (fX2_closeWindows_L4 FUEL (0 : Int32) (0 : Int32) M) fun w30 w31 M32 =>
  bnd1 (fX6_dropFirst w30 M32) fun M39 =>
  some (w31, M39)
set_option maxHeartbeats 4000000 in
set_option maxRecDepth 100000 in
theorem wX2_closeWindows_L4 {p : Program} {l : Launch} {e : Env} {s : State} {m : MethodId} {args : Array Value} {below : List Frame} {meth : Method} {c : Code} {D : va_G} {cA : Nat → ClassId} {ad : Nat → Nat} {Q : State → Prop} (F : Fx D cA RX2 cX2_closeWindows 5 (some .int) p s m args meth c) : ∀ (n : Nat) (v1 : Int32) (v2 : Int32) (M : Mem) (H : Heap) (o : List Loc) (ls : Array Slot), lv_has ls 5 [(0, .ref (ad 1)), (1, .int v1), (2, .int v2)] → Wd shC D cA ad s.heap M H o → ∀ (u1 : Int32) (u2 : Int32) (M' : Mem), fX2_closeWindows_L4 n v1 v2 M = some (u1, u2, M') → (∀ (H1 : Heap) (o1 : List Loc) (ls1 : Array Slot), lv_has ls1 5 [(1, .int u1), (2, .int u2), (0, .ref (ad 1))] → Wd shC D cA ad s.heap M' H1 o1 → W p l e (rz 4 88) s m args below meth c H1 o1 0 0 Q (F0 m 117 ls1 [])) → W p l e (rz 4 88) s m args below meth c H o 0 0 Q (F0 m 4 ls []) := by
  intro n
  induction n with
  | zero =>
    intro v1 v2 M H o ls hl hw u1 u2 M' hf kk
    cases hf
  | succ n ih =>
    intro v1 v2 M H o ls hl hw u1 u2 M' hf kk
    rw [fX2_closeWindows_L4] at hf
    refine lv_iload_n F.1 F.2.1 dX2_closeWindows_4 rfl (lv_at hl 1 rfl) ?_
    refine lv_aload_n F.1 F.2.1 dX2_closeWindows_5 rfl (lv_at hl 0 rfl) ?_
    refine gX2_48 F hw rfl dX2_closeWindows_6 ?_
    refine gX2_67 F hw rfl dX2_closeWindows_9 ?_
    refine b_icmp_ge F dX2_closeWindows_12 (tgt := 117) (by decide) hf (fun hc29 hf => ?_) (fun hc29 hf => ?_)
    · cases hf
      exact kk _ _ _ (lv_sub hl [1, 2, 0] rfl) hw
    · refine lv_aload_n F.1 F.2.1 dX2_closeWindows_15 rfl (lv_at hl 0 rfl) ?_
      refine gX2_48 F hw rfl dX2_closeWindows_16 ?_
      refine gX2_189 F hw rfl dX2_closeWindows_19 ?_
      refine lv_iload_n F.1 F.2.1 dX2_closeWindows_22 rfl (lv_at hl 1 rfl) ?_
      refine r_iald F hw (n := 390) rfl dX2_closeWindows_23 hf (fun hi3 hf => ?_)
      refine lv_aload_n F.1 F.2.1 dX2_closeWindows_24 rfl (lv_at hl 0 rfl) ?_
      refine gX2_18 F hw rfl dX2_closeWindows_25 ?_
      refine lv_iadd F.1 F.2.1 dX2_closeWindows_28 ?_
      refine lv_aload_n F.1 F.2.1 dX2_closeWindows_29 rfl (lv_at hl 0 rfl) ?_
      refine gX2_61 F hw rfl dX2_closeWindows_30 ?_
      refine b_icmp_gt F dX2_closeWindows_33 (tgt := 117) (by decide) hf (fun hc28 hf => ?_) (fun hc28 hf => ?_)
      · cases hf
        exact kk _ _ _ (lv_sub hl [1, 2, 0] rfl) hw
      · refine lv_aload_n F.1 F.2.1 dX2_closeWindows_36 rfl (lv_at hl 0 rfl) ?_
        refine gX2_28 F hw rfl dX2_closeWindows_37 ?_
        refine lv_aload_n F.1 F.2.1 dX2_closeWindows_40 rfl (lv_at hl 0 rfl) ?_
        refine gX2_48 F hw rfl dX2_closeWindows_41 ?_
        refine gX2_192 F hw rfl dX2_closeWindows_44 ?_
        refine lv_iload_n F.1 F.2.1 dX2_closeWindows_47 rfl (lv_at hl 1 rfl) ?_
        refine r_iald0 F hw (n := 390) rfl dX2_closeWindows_48 hi3 ?_
        refine r_aald F hw (t := 2) (b := 11) (n := 6) rfl rfl rfl dX2_closeWindows_49 hf (fun hi4 hf => ?_)
        refine lv_astore_n F.1 F.2.1 dX2_closeWindows_50 rfl hl (lv' := [(3, .ref (ad (11 + (M 35 v1.toNatClampNeg).toNatClampNeg))), (0, .ref (ad 1)), (1, .int v1), (2, .int v2)]) (Nat.le_of_ble_eq_true rfl) rfl (fun ls5 hl => ?_)
        refine lv_aload_n F.1 F.2.1 dX2_closeWindows_51 rfl (lv_at hl 1 rfl) ?_
        refine gX2_48 F hw rfl dX2_closeWindows_52 ?_
        refine gX2_193 F hw rfl dX2_closeWindows_55 ?_
        refine lv_iload_n F.1 F.2.1 dX2_closeWindows_58 rfl (lv_at hl 2 rfl) ?_
        refine r_iald0 F hw (n := 390) rfl dX2_closeWindows_59 hi3 ?_
        refine lv_istore F.1 F.2.1 dX2_closeWindows_60 hl (lv' := [(4, .int (M 36 v1.toNatClampNeg)), (3, .ref (ad (11 + (M 35 v1.toNatClampNeg).toNatClampNeg))), (0, .ref (ad 1)), (1, .int v1), (2, .int v2)]) (Nat.le_of_ble_eq_true rfl) rfl (fun ls6 hl => ?_)
        refine lv_iload F.1 F.2.1 dX2_closeWindows_62 (lv_at hl 0 rfl) ?_
        refine k_iconst_m1 F dX2_closeWindows_64 ?_
        refine b_icmp_ne F dX2_closeWindows_65 (tgt := 80) (by decide) hf (fun hc27 hf => ?_) (fun hc27 hf => ?_)
        · refine lv_aload_n F.1 F.2.1 dX2_closeWindows_68 rfl (lv_at hl 2 rfl) ?_
          refine lv_iload_n F.1 F.2.1 dX2_closeWindows_69 rfl (lv_at hl 3 rfl) ?_
          refine lv_aload_n F.1 F.2.1 dX2_closeWindows_70 rfl (lv_at hl 1 rfl) ?_
          refine clX2_194 F hw hl (sh_in11 hi4) ⟨Nat.le_of_ble_eq_true rfl, Nat.le_of_ble_eq_true rfl⟩ (Nat.le_of_ble_eq_true rfl) dX2_closeWindows_71 hf (fun M24 H21 o22 hw hf => ?_)
          refine lv_iinc F.1 F.2.1 dX2_closeWindows_74 hl (k := 4) rfl (ki_1 _) (lv' := [(2, .int (v2 + (1 : Int32))), (4, .int (M 36 v1.toNatClampNeg)), (3, .ref (ad (11 + (M 35 v1.toNatClampNeg).toNatClampNeg))), (0, .ref (ad 1)), (1, .int v1)]) (Nat.le_of_ble_eq_true rfl) rfl (fun ls25 hl => ?_)
          refine lv_goto F.1 F.2.1 dX2_closeWindows_77 (tgt := 111) (by decide) ?_
          refine lv_iinc F.1 F.2.1 dX2_closeWindows_111 hl (k := 4) rfl (ki_1 _) (lv' := [(1, .int (v1 + (1 : Int32))), (2, .int (v2 + (1 : Int32))), (4, .int (M 36 v1.toNatClampNeg)), (3, .ref (ad (11 + (M 35 v1.toNatClampNeg).toNatClampNeg))), (0, .ref (ad 1))]) (Nat.le_of_ble_eq_true rfl) rfl (fun ls26 hl => ?_)
          refine lv_goto F.1 F.2.1 dX2_closeWindows_114 (tgt := 4) (by decide) ?_
          exact ih (v1 + (1 : Int32)) (v2 + (1 : Int32)) M24 _ _ _ (lv_sub hl [4, 0, 1] rfl) hw u1 u2 M' hf kk
        · refine lv_aload_n F.1 F.2.1 dX2_closeWindows_80 rfl (lv_at hl 1 rfl) ?_
          refine lv_iload F.1 F.2.1 dX2_closeWindows_81 (lv_at hl 0 rfl) ?_
          refine clX2_182 F hw hl (sh_in11 hi4) ⟨Nat.le_of_ble_eq_true rfl, Nat.le_of_ble_eq_true rfl⟩ (Nat.le_of_ble_eq_true rfl) dX2_closeWindows_83 (fun H7 o8 hw hn9 => ?_)
          refine b_if_eq F dX2_closeWindows_86 (tgt := 101) (by decide) hf (fun hc20 hf => ?_) (fun hc20 hf => ?_)
          · refine lv_aload_n F.1 F.2.1 dX2_closeWindows_101 rfl (lv_at hl 2 rfl) ?_
            refine lv_dup F.1 F.2.1 dX2_closeWindows_102 rfl ?_
            refine gX2_74 F hw rfl dX2_closeWindows_103 ?_
            refine k_iconst_1 F dX2_closeWindows_106 ?_
            refine lv_iadd F.1 F.2.1 dX2_closeWindows_107 ?_
            refine qX2_74 F hw rfl dX2_closeWindows_108 hf (fun M10 H11 o12 hw hf => ?_)
            refine lv_iinc F.1 F.2.1 dX2_closeWindows_111 hl (k := 3) rfl (ki_1 _) (lv' := [(1, .int (v1 + (1 : Int32))), (4, .int (M 36 v1.toNatClampNeg)), (3, .ref (ad (11 + (M 35 v1.toNatClampNeg).toNatClampNeg))), (0, .ref (ad 1)), (2, .int v2)]) (Nat.le_of_ble_eq_true rfl) rfl (fun ls13 hl => ?_)
            refine lv_goto F.1 F.2.1 dX2_closeWindows_114 (tgt := 4) (by decide) ?_
            exact ih (v1 + (1 : Int32)) v2 M10 _ _ _ (lv_sub hl [3, 0, 4] rfl) hw u1 u2 M' hf kk
          · refine lv_aload_n F.1 F.2.1 dX2_closeWindows_89 rfl (lv_at hl 2 rfl) ?_
            refine lv_iload_n F.1 F.2.1 dX2_closeWindows_90 rfl (lv_at hl 3 rfl) ?_
            refine lv_aload_n F.1 F.2.1 dX2_closeWindows_91 rfl (lv_at hl 1 rfl) ?_
            refine clX2_198 F hw hl (sh_in11 hi4) ⟨Nat.le_of_ble_eq_true rfl, Nat.le_of_ble_eq_true rfl⟩ (Nat.le_of_ble_eq_true rfl) dX2_closeWindows_92 hf (fun M17 H14 o15 hw hf => ?_)
            refine lv_iinc F.1 F.2.1 dX2_closeWindows_95 hl (k := 4) rfl (ki_1 _) (lv' := [(2, .int (v2 + (1 : Int32))), (4, .int (M 36 v1.toNatClampNeg)), (3, .ref (ad (11 + (M 35 v1.toNatClampNeg).toNatClampNeg))), (0, .ref (ad 1)), (1, .int v1)]) (Nat.le_of_ble_eq_true rfl) rfl (fun ls18 hl => ?_)
            refine lv_goto F.1 F.2.1 dX2_closeWindows_98 (tgt := 111) (by decide) ?_
            refine lv_iinc F.1 F.2.1 dX2_closeWindows_111 hl (k := 4) rfl (ki_1 _) (lv' := [(1, .int (v1 + (1 : Int32))), (2, .int (v2 + (1 : Int32))), (4, .int (M 36 v1.toNatClampNeg)), (3, .ref (ad (11 + (M 35 v1.toNatClampNeg).toNatClampNeg))), (0, .ref (ad 1))]) (Nat.le_of_ble_eq_true rfl) rfl (fun ls19 hl => ?_)
            refine lv_goto F.1 F.2.1 dX2_closeWindows_114 (tgt := 4) (by decide) ?_
            exact ih (v1 + (1 : Int32)) (v2 + (1 : Int32)) M17 _ _ _ (lv_sub hl [4, 0, 1] rfl) hw u1 u2 M' hf kk
set_option maxHeartbeats 4000000 in
set_option maxRecDepth 100000 in
theorem cX2_closeWindows_ok (l : Launch) (D : va_G) (cA : Nat → ClassId) (ad : Nat → Nat) (M : Mem)  (r : Int32) (M' : Mem) (hf : fX2_closeWindows M = some (r, M')) : Ctg l yX2_closeWindows cX2_closeWindows 5 (some .int) 4 88 shC D cA ad [.ref (ad 1)] M (Qzi shC D cA ad .int r M') := by
  refine ct_in (by decide) (Nat.le_of_ble_eq_true rfl) ?_
  intro p e s m below meth c ls F hl hw
  have hl : lv_has ls 5 [(0, .ref (ad 1))] := hl
  unfold fX2_closeWindows at hf
  refine k_iconst_0 F dX2_closeWindows_0 ?_
  refine lv_istore_n F.1 F.2.1 dX2_closeWindows_1 rfl hl (lv' := [(1, .int (0 : Int32)), (0, .ref (ad 1))]) (Nat.le_of_ble_eq_true rfl) rfl (fun ls1 hl => ?_)
  refine k_iconst_0 F dX2_closeWindows_2 ?_
  refine lv_istore_n F.1 F.2.1 dX2_closeWindows_3 rfl hl (lv' := [(2, .int (0 : Int32)), (1, .int (0 : Int32)), (0, .ref (ad 1))]) (Nat.le_of_ble_eq_true rfl) rfl (fun ls2 hl => ?_)
  obtain ⟨w30, w31, M32, hq40, hf⟩ := bnd3_some hf
  refine wX2_closeWindows_L4 F FUEL (0 : Int32) (0 : Int32) M _ _ _ (lv_sub hl [2, 1, 0] rfl) hw w30 w31 M32 hq40 (fun H33 o34 ls35 hl hw => ?_)
  refine lv_aload_n F.1 F.2.1 dX2_closeWindows_117 rfl (lv_at hl 2 rfl) ?_
  refine gX2_48 F hw rfl dX2_closeWindows_118 ?_
  refine lv_iload_n F.1 F.2.1 dX2_closeWindows_121 rfl (lv_at hl 0 rfl) ?_
  refine clX2_201 F hw hl ⟨Nat.le_of_ble_eq_true rfl, Nat.le_of_ble_eq_true rfl⟩ (Nat.le_of_ble_eq_true rfl) dX2_closeWindows_122 hf (fun M39 H36 o37 hw hf => ?_)
  refine lv_iload_n F.1 F.2.1 dX2_closeWindows_125 rfl (lv_at hl 1 rfl) ?_
  exact r_iret_w F hw (vp_nar_int _) dX2_closeWindows_126 hf
theorem clX2_145 (F : Fx D cA RX2 cc nL ret p s m args meth c) (hw : Wd shC D cA ad H0 M H locs) (hl : lv_has ls nL lv) (hR : 5 ≤ R.frames ∧ 112 ≤ R.locals) (hrm : (rest.map fun v => v.category).sum ≤ 8) (hd : decode cc pc = .ok (.invokevirtual 145, 3)) {α : Type} {K : Int32 → Mem → Option α} {res : α} (hf : bnd2 (fX2_closeWindows M) K = some res) (kk : ∀ (t : Int32) (M1 : Mem) (H1 : Heap) (locs1 : List Loc), Wd shC D cA ad H0 M1 H1 locs1 → narrow .int (.int t) = .int t → K t M1 = some res → W p l e R s m args below meth c H1 locs1 0 0 Q (F0 m (pc + 3) ls (.int t :: rest))) : W p l e R s m args below meth c H locs 0 0 Q (F0 m pc ls (.ref (ad 1) :: rest)) := by
  obtain ⟨t, M1, h1, h2⟩ := bnd2_some hf
  exact r_afti hw (r_runV (As := []) F hw hl (cX2_closeWindows_ok l D cA ad M t M1 h1) cz2 (show shC[1]? = some (.inr (2, sf2)) from rfl) cwX2_145 hR hrm hd) (fun H1 o1 hw1 hn => kk t M1 H1 o1 hw1 hn h2)
def fX2_passTicks_L4 : Nat → Int32 → Int32 → Int32 → Mem → Option (Int32 × Mem)
  | 0, _, _, _, _ => none
  | n + 1, v1, v2, v3, M =>
    if v1 ≤ v3 then
      some (v2, M)
    else
      wr M 1 3 ((M 1 3) + (1 : Int32)) fun M3 =>
      jn (fun (M6 : Mem) =>
        bnd1 (fX2_bringCopies M6) fun M14 =>
        bnd2 (fX2_closeWindows M14) fun t19 M18 =>
        fX2_passTicks_L4 n v1 (v2 + t19) (v3 + (1 : Int32)) M18) fun j10 =>
      if (jirem (M3 1 3) (60 : Int32)) = (1 : Int32) then
        bnd1 (fX2_refillBudgets M3) fun M25 =>
        j10 M25
      else
        j10 M3
def fX2_passTicks (v1 : Int32) (M : Mem) : Option (Int32 × Mem) :=
  bnd2 (fX2_passTicks_L4 FUEL v1 (0 : Int32) (0 : Int32) M) fun w28 M29 =>
  some (w28, M29)
set_option maxHeartbeats 4000000 in
set_option maxRecDepth 100000 in
theorem wX2_passTicks_L4 {p : Program} {l : Launch} {e : Env} {s : State} {m : MethodId} {args : Array Value} {below : List Frame} {meth : Method} {c : Code} {D : va_G} {cA : Nat → ClassId} {ad : Nat → Nat} {Q : State → Prop} (F : Fx D cA RX2 cX2_passTicks 4 (some .int) p s m args meth c) : ∀ (n : Nat) (v1 : Int32) (v2 : Int32) (v3 : Int32) (M : Mem) (H : Heap) (o : List Loc) (ls : Array Slot), lv_has ls 4 [(0, .ref (ad 1)), (1, .int v1), (2, .int v2), (3, .int v3)] → Wd shC D cA ad s.heap M H o → ∀ (u2 : Int32) (M' : Mem), fX2_passTicks_L4 n v1 v2 v3 M = some (u2, M') → (∀ (H1 : Heap) (o1 : List Loc) (ls1 : Array Slot), lv_has ls1 4 [(2, .int u2)] → Wd shC D cA ad s.heap M' H1 o1 → W p l e (rz 5 112) s m args below meth c H1 o1 0 0 Q (F0 m 51 ls1 [])) → W p l e (rz 5 112) s m args below meth c H o 0 0 Q (F0 m 4 ls []) := by
  intro n
  induction n with
  | zero =>
    intro v1 v2 v3 M H o ls hl hw u2 M' hf kk
    cases hf
  | succ n ih =>
    intro v1 v2 v3 M H o ls hl hw u2 M' hf kk
    rw [fX2_passTicks_L4] at hf
    refine lv_iload_n F.1 F.2.1 dX2_passTicks_4 rfl (lv_at hl 3 rfl) ?_
    refine lv_iload_n F.1 F.2.1 dX2_passTicks_5 rfl (lv_at hl 1 rfl) ?_
    refine b_icmp_ge F dX2_passTicks_6 (tgt := 51) (by decide) hf (fun hc27 hf => ?_) (fun hc27 hf => ?_)
    · cases hf
      exact kk _ _ _ (lv_sub hl [2] rfl) hw
    · refine lv_aload_n F.1 F.2.1 dX2_passTicks_9 rfl (lv_at hl 0 rfl) ?_
      refine lv_dup F.1 F.2.1 dX2_passTicks_10 rfl ?_
      refine gX2_61 F hw rfl dX2_passTicks_11 ?_
      refine k_iconst_1 F dX2_passTicks_14 ?_
      refine lv_iadd F.1 F.2.1 dX2_passTicks_15 ?_
      refine qX2_61 F hw rfl dX2_passTicks_16 hf (fun M3 H4 o5 hw hf => ?_)
      refine lv_aload_n F.1 F.2.1 dX2_passTicks_19 rfl (lv_at hl 0 rfl) ?_
      refine gX2_61 F hw rfl dX2_passTicks_20 ?_
      refine k_bipush_60 F dX2_passTicks_23 ?_
      refine k_irem F dX2_passTicks_25 (by decide) ?_
      refine k_iconst_1 F dX2_passTicks_26 ?_
      refine jn_go1 (fun (M6 : Mem) => ∀ (H7 : Heap) (o8 : List Loc) (ls9 : Array Slot), lv_has ls9 4 [(0, .ref (ad 1)), (1, .int v1), (2, .int v2), (3, .int v3)] → Wd shC D cA ad s.heap M6 H7 o8 → W p l e (rz 5 112) s m args below meth c H7 o8 0 0 Q (F0 m 34 ls9 [])) hf (fun M6 hf H7 o8 ls9 hl hw => ?_) (fun j10 Jj10 hf => ?_)
      · refine lv_aload_n F.1 F.2.1 dX2_passTicks_34 rfl (lv_at hl 0 rfl) ?_
        refine clX2_142 F hw hl ⟨Nat.le_of_ble_eq_true rfl, Nat.le_of_ble_eq_true rfl⟩ (Nat.le_of_ble_eq_true rfl) dX2_passTicks_35 hf (fun M14 H11 o12 hw hf => ?_)
        refine lv_iload_n F.1 F.2.1 dX2_passTicks_38 rfl (lv_at hl 2 rfl) ?_
        refine lv_aload_n F.1 F.2.1 dX2_passTicks_39 rfl (lv_at hl 0 rfl) ?_
        refine clX2_145 F hw hl ⟨Nat.le_of_ble_eq_true rfl, Nat.le_of_ble_eq_true rfl⟩ (Nat.le_of_ble_eq_true rfl) dX2_passTicks_40 hf (fun t19 M18 H15 o16 hw hn17 hf => ?_)
        refine lv_iadd F.1 F.2.1 dX2_passTicks_43 ?_
        refine lv_istore_n F.1 F.2.1 dX2_passTicks_44 rfl hl (lv' := [(2, .int (v2 + t19)), (0, .ref (ad 1)), (1, .int v1), (3, .int v3)]) (Nat.le_of_ble_eq_true rfl) rfl (fun ls20 hl => ?_)
        refine lv_iinc F.1 F.2.1 dX2_passTicks_45 hl (k := 3) rfl (ki_1 _) (lv' := [(3, .int (v3 + (1 : Int32))), (2, .int (v2 + t19)), (0, .ref (ad 1)), (1, .int v1)]) (Nat.le_of_ble_eq_true rfl) rfl (fun ls21 hl => ?_)
        refine lv_goto F.1 F.2.1 dX2_passTicks_48 (tgt := 4) (by decide) ?_
        exact ih v1 (v2 + t19) (v3 + (1 : Int32)) M18 _ _ _ (lv_sub hl [2, 3, 1, 0] rfl) hw u2 M' hf kk
      · refine b_icmp_ne F dX2_passTicks_27 (tgt := 34) (by decide) hf (fun hc26 hf => ?_) (fun hc26 hf => ?_)
        · refine lv_aload_n F.1 F.2.1 dX2_passTicks_30 rfl (lv_at hl 0 rfl) ?_
          refine clX2_139 F hw hl ⟨Nat.le_of_ble_eq_true rfl, Nat.le_of_ble_eq_true rfl⟩ (Nat.le_of_ble_eq_true rfl) dX2_passTicks_31 hf (fun M25 H22 o23 hw hf => ?_)
          exact Jj10 M25 hf _ _ _ hl hw
        · exact Jj10 M3 hf _ _ _ hl hw
set_option maxHeartbeats 4000000 in
set_option maxRecDepth 100000 in
theorem cX2_passTicks_ok (l : Launch) (D : va_G) (cA : Nat → ClassId) (ad : Nat → Nat) (M : Mem) (v1 : Int32) (r : Int32) (M' : Mem) (hf : fX2_passTicks v1 M = some (r, M')) : Ctg l yX2_passTicks cX2_passTicks 4 (some .int) 5 112 shC D cA ad [.ref (ad 1), .int v1] M (Qzi shC D cA ad .int r M') := by
  refine ct_in (by decide) (Nat.le_of_ble_eq_true rfl) ?_
  intro p e s m below meth c ls F hl hw
  have hl : lv_has ls 4 [(0, .ref (ad 1)), (1, .int v1)] := hl
  unfold fX2_passTicks at hf
  refine k_iconst_0 F dX2_passTicks_0 ?_
  refine lv_istore_n F.1 F.2.1 dX2_passTicks_1 rfl hl (lv' := [(2, .int (0 : Int32)), (0, .ref (ad 1)), (1, .int v1)]) (Nat.le_of_ble_eq_true rfl) rfl (fun ls1 hl => ?_)
  refine k_iconst_0 F dX2_passTicks_2 ?_
  refine lv_istore_n F.1 F.2.1 dX2_passTicks_3 rfl hl (lv' := [(3, .int (0 : Int32)), (2, .int (0 : Int32)), (0, .ref (ad 1)), (1, .int v1)]) (Nat.le_of_ble_eq_true rfl) rfl (fun ls2 hl => ?_)
  obtain ⟨w28, M29, hq33, hf⟩ := bnd2_some hf
  refine wX2_passTicks_L4 F FUEL v1 (0 : Int32) (0 : Int32) M _ _ _ (lv_sub hl [2, 3, 1, 0] rfl) hw w28 M29 hq33 (fun H30 o31 ls32 hl hw => ?_)
  refine lv_iload_n F.1 F.2.1 dX2_passTicks_51 rfl (lv_at hl 0 rfl) ?_
  exact r_iret_w F hw (vp_nar_int _) dX2_passTicks_52 hf
theorem clX7_106 (F : Fx D cA RX7 cc nL ret p s m args meth c) (hw : Wd shC D cA ad H0 M H locs) (hl : lv_has ls nL lv) {v1 : Int32} (hR : 6 ≤ R.frames ∧ 135 ≤ R.locals) (hrm : (rest.map fun v => v.category).sum ≤ 8) (hd : decode cc pc = .ok (.invokevirtual 106, 3)) {α : Type} {K : Int32 → Mem → Option α} {res : α} (hf : bnd2 (fX2_passTicks v1 M) K = some res) (kk : ∀ (t : Int32) (M1 : Mem) (H1 : Heap) (locs1 : List Loc), Wd shC D cA ad H0 M1 H1 locs1 → narrow .int (.int t) = .int t → K t M1 = some res → W p l e R s m args below meth c H1 locs1 0 0 Q (F0 m (pc + 3) ls (.int t :: rest))) : W p l e R s m args below meth c H locs 0 0 Q (F0 m pc ls (.int v1 :: .ref (ad 1) :: rest)) := by
  obtain ⟨t, M1, h1, h2⟩ := bnd2_some hf
  exact r_afti hw (r_runV (As := [.int v1]) F hw hl (cX2_passTicks_ok l D cA ad M v1 t M1 h1) cz2 (show shC[1]? = some (.inr (2, sf2)) from rfl) cwX7_106 hR hrm hd) (fun H1 o1 hw1 hn => kk t M1 H1 o1 hw1 hn h2)
def fX2_value (v1 : Int32) (M : Mem) : Int32 :=
  if v1 = (0 : Int32) then
    (M 28 5)
  else if v1 = (1 : Int32) then
    (M 34 4)
  else if v1 = (2 : Int32) then
    (M 1 10)
  else if v1 = (3 : Int32) then
    (M 1 11)
  else if v1 = (4 : Int32) then
    (M 1 12)
  else if v1 = (5 : Int32) then
    (M 1 13)
  else if v1 = (6 : Int32) then
    (M 1 14)
  else if v1 = (7 : Int32) then
    (M 1 15)
  else 
    (M 1 3)
set_option maxHeartbeats 4000000 in
set_option maxRecDepth 100000 in
theorem cX2_value_ok (l : Launch) (D : va_G) (cA : Nat → ClassId) (ad : Nat → Nat) (M : Mem) (v1 : Int32) (r : Int32) (hf : fX2_value v1 M = r) : Ctg l yX2_value cX2_value 2 (some .int) 0 0 shC D cA ad [.ref (ad 1), .int v1] M (Qzi shC D cA ad .int r M) := by
  refine ct_in (by decide) (Nat.le_of_ble_eq_true rfl) ?_
  intro p e s m below meth c ls F hl hw
  have hl : lv_has ls 2 [(0, .ref (ad 1)), (1, .int v1)] := hl
  unfold fX2_value at hf
  refine lv_iload_n F.1 F.2.1 dX2_value_0 rfl (lv_at hl 1 rfl) ?_
  by_cases hc1 : v1 = (0 : Int32)
  · rw [if_pos hc1] at hf
    refine lv_tableIn F.1 F.2.1 dX2_value_1 (tgt := 48) (off := 47) (by rw [hc1]; decide) (by rw [hc1]; decide) (by rw [hc1]; decide) (by decide) ?_
    refine lv_aload_n F.1 F.2.1 dX2_value_48 rfl (lv_at hl 0 rfl) ?_
    refine gX2_41 F hw rfl dX2_value_49 ?_
    refine gX2_64 F hw rfl dX2_value_52 ?_
    exact r_iret_t F hw (vp_nar_int _) dX2_value_55 hf
  · rw [if_neg hc1] at hf
    by_cases hc2 : v1 = (1 : Int32)
    · rw [if_pos hc2] at hf
      refine lv_tableIn F.1 F.2.1 dX2_value_1 (tgt := 56) (off := 55) (by rw [hc2]; decide) (by rw [hc2]; decide) (by rw [hc2]; decide) (by decide) ?_
      refine lv_aload_n F.1 F.2.1 dX2_value_56 rfl (lv_at hl 0 rfl) ?_
      refine gX2_48 F hw rfl dX2_value_57 ?_
      refine gX2_67 F hw rfl dX2_value_60 ?_
      exact r_iret_t F hw (vp_nar_int _) dX2_value_63 hf
    · rw [if_neg hc2] at hf
      by_cases hc3 : v1 = (2 : Int32)
      · rw [if_pos hc3] at hf
        refine lv_tableIn F.1 F.2.1 dX2_value_1 (tgt := 64) (off := 63) (by rw [hc3]; decide) (by rw [hc3]; decide) (by rw [hc3]; decide) (by decide) ?_
        refine lv_aload_n F.1 F.2.1 dX2_value_64 rfl (lv_at hl 0 rfl) ?_
        refine gX2_68 F hw rfl dX2_value_65 ?_
        exact r_iret_t F hw (vp_nar_int _) dX2_value_68 hf
      · rw [if_neg hc3] at hf
        by_cases hc4 : v1 = (3 : Int32)
        · rw [if_pos hc4] at hf
          refine lv_tableIn F.1 F.2.1 dX2_value_1 (tgt := 69) (off := 68) (by rw [hc4]; decide) (by rw [hc4]; decide) (by rw [hc4]; decide) (by decide) ?_
          refine lv_aload_n F.1 F.2.1 dX2_value_69 rfl (lv_at hl 0 rfl) ?_
          refine gX2_71 F hw rfl dX2_value_70 ?_
          exact r_iret_t F hw (vp_nar_int _) dX2_value_73 hf
        · rw [if_neg hc4] at hf
          by_cases hc5 : v1 = (4 : Int32)
          · rw [if_pos hc5] at hf
            refine lv_tableIn F.1 F.2.1 dX2_value_1 (tgt := 74) (off := 73) (by rw [hc5]; decide) (by rw [hc5]; decide) (by rw [hc5]; decide) (by decide) ?_
            refine lv_aload_n F.1 F.2.1 dX2_value_74 rfl (lv_at hl 0 rfl) ?_
            refine gX2_74 F hw rfl dX2_value_75 ?_
            exact r_iret_t F hw (vp_nar_int _) dX2_value_78 hf
          · rw [if_neg hc5] at hf
            by_cases hc6 : v1 = (5 : Int32)
            · rw [if_pos hc6] at hf
              refine lv_tableIn F.1 F.2.1 dX2_value_1 (tgt := 79) (off := 78) (by rw [hc6]; decide) (by rw [hc6]; decide) (by rw [hc6]; decide) (by decide) ?_
              refine lv_aload_n F.1 F.2.1 dX2_value_79 rfl (lv_at hl 0 rfl) ?_
              refine gX2_77 F hw rfl dX2_value_80 ?_
              exact r_iret_t F hw (vp_nar_int _) dX2_value_83 hf
            · rw [if_neg hc6] at hf
              by_cases hc7 : v1 = (6 : Int32)
              · rw [if_pos hc7] at hf
                refine lv_tableIn F.1 F.2.1 dX2_value_1 (tgt := 84) (off := 83) (by rw [hc7]; decide) (by rw [hc7]; decide) (by rw [hc7]; decide) (by decide) ?_
                refine lv_aload_n F.1 F.2.1 dX2_value_84 rfl (lv_at hl 0 rfl) ?_
                refine gX2_80 F hw rfl dX2_value_85 ?_
                exact r_iret_t F hw (vp_nar_int _) dX2_value_88 hf
              · rw [if_neg hc7] at hf
                by_cases hc8 : v1 = (7 : Int32)
                · rw [if_pos hc8] at hf
                  refine lv_tableIn F.1 F.2.1 dX2_value_1 (tgt := 89) (off := 88) (by rw [hc8]; decide) (by rw [hc8]; decide) (by rw [hc8]; decide) (by decide) ?_
                  refine lv_aload_n F.1 F.2.1 dX2_value_89 rfl (lv_at hl 0 rfl) ?_
                  refine gX2_83 F hw rfl dX2_value_90 ?_
                  exact r_iret_t F hw (vp_nar_int _) dX2_value_93 hf
                · rw [if_neg hc8] at hf
                  refine lv_tableOut F.1 F.2.1 dX2_value_1 (tgt := 94) (by have hc1t := lv_neT (a := 0) hc1 (by decide); have hc2t := lv_neT (a := 1) hc2 (by decide); have hc3t := lv_neT (a := 2) hc3 (by decide); have hc4t := lv_neT (a := 3) hc4 (by decide); have hc5t := lv_neT (a := 4) hc5 (by decide); have hc6t := lv_neT (a := 5) hc6 (by decide); have hc7t := lv_neT (a := 6) hc7 (by decide); have hc8t := lv_neT (a := 7) hc8 (by decide); omega) (by decide) ?_
                  refine lv_aload_n F.1 F.2.1 dX2_value_94 rfl (lv_at hl 0 rfl) ?_
                  refine gX2_61 F hw rfl dX2_value_95 ?_
                  exact r_iret_t F hw (vp_nar_int _) dX2_value_98 hf
theorem clX7_132 (F : Fx D cA RX7 cc nL ret p s m args meth c) (hw : Wd shC D cA ad H0 M H locs) (hl : lv_has ls nL lv) {v1 : Int32} (hR : 1 ≤ R.frames ∧ 21 ≤ R.locals) (hrm : (rest.map fun v => v.category).sum ≤ 8) (hd : decode cc pc = .ok (.invokevirtual 132, 3)) (kk : ∀ (H1 : Heap) (locs1 : List Loc), Wd shC D cA ad H0 M H1 locs1 → narrow .int (.int (fX2_value v1 M)) = .int (fX2_value v1 M) → W p l e R s m args below meth c H1 locs1 0 0 Q (F0 m (pc + 3) ls (.int (fX2_value v1 M) :: rest))) : W p l e R s m args below meth c H locs 0 0 Q (F0 m pc ls (.int v1 :: .ref (ad 1) :: rest)) :=
  r_afti hw (r_runV (As := [.int v1]) F hw hl (cX2_value_ok l D cA ad M v1 (fX2_value v1 M) rfl) cz2 (show shC[1]? = some (.inr (2, sf2)) from rfl) cwX7_132 hR hrm hd) (fun H1 o1 hw1 hn => kk H1 o1 hw1 hn)
end RW
