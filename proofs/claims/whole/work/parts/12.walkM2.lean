section RW
variable {p : Program} {l : Launch} {e : Env} {R : Room} {s : State} {m : MethodId} {args : Array Value} {below : List Frame} {meth : Method} {c : Code} {H : Heap} {locs : List Loc} {Q : State → Prop}
variable {sh : List Sh} {D : va_G} {cA : Nat → ClassId} {ad : Nat → Nat} {H0 : Heap} {M : Mem} {cc : ByteArray} {own : String} {nL : Nat} {ret : Option FieldType} {pc : Nat} {ls : Array Slot} {rest : List Value} {lv : List (Nat × Value)}
def fX8_allBy (v1 : Int32) (M : Mem) : Option Int32 :=
  if v1 = 0 then
    some (M 0 22)
  else
    if v1 = (1 : Int32) then
      some (M 0 28)
    else
      if v1 = (8 : Int32) then
        some (M 0 4)
      else
        ix (v1 - (2 : Int32)) 6 <|
        some (M 29 (v1 - (2 : Int32)).toNatClampNeg)
set_option maxHeartbeats 4000000 in
set_option maxRecDepth 100000 in
theorem cX8_allBy_ok (l : Launch) (D : va_G) (cA : Nat → ClassId) (ad : Nat → Nat) (M : Mem) (v1 : Int32) (r : Int32) (hf : fX8_allBy v1 M = some r) : Ctg l yX8_allBy cX8_allBy 2 (some .int) 0 0 shM D cA ad [.ref (ad 0), .int v1] M (Qzi shM D cA ad .int r M) := by
  refine ct_in (by decide) (Nat.le_of_ble_eq_true rfl) ?_
  intro p e s m below meth c ls F hl hw
  have hl : lv_has ls 2 [(0, .ref (ad 0)), (1, .int v1)] := hl
  unfold fX8_allBy at hf
  refine lv_iload_n F.1 F.2.1 dX8_allBy_0 rfl (lv_at hl 1 rfl) ?_
  refine b_if_ne F dX8_allBy_1 (tgt := 11) (by decide) hf (fun hc4 hf => ?_) (fun hc4 hf => ?_)
  · refine lv_aload_n F.1 F.2.1 dX8_allBy_4 rfl (lv_at hl 0 rfl) ?_
    refine gX8_117 F hw rfl dX8_allBy_5 ?_
    refine lv_goto F.1 F.2.1 dX8_allBy_8 (tgt := 44) (by decide) ?_
    exact r_iret_o F hw (vp_nar_int _) dX8_allBy_44 hf
  · refine lv_iload_n F.1 F.2.1 dX8_allBy_11 rfl (lv_at hl 1 rfl) ?_
    refine k_iconst_1 F dX8_allBy_12 ?_
    refine b_icmp_ne F dX8_allBy_13 (tgt := 23) (by decide) hf (fun hc3 hf => ?_) (fun hc3 hf => ?_)
    · refine lv_aload_n F.1 F.2.1 dX8_allBy_16 rfl (lv_at hl 0 rfl) ?_
      refine gX8_120 F hw rfl dX8_allBy_17 ?_
      refine lv_goto F.1 F.2.1 dX8_allBy_20 (tgt := 44) (by decide) ?_
      exact r_iret_o F hw (vp_nar_int _) dX8_allBy_44 hf
    · refine lv_iload_n F.1 F.2.1 dX8_allBy_23 rfl (lv_at hl 1 rfl) ?_
      refine k_bipush_8 F dX8_allBy_24 ?_
      refine b_icmp_ne F dX8_allBy_26 (tgt := 36) (by decide) hf (fun hc2 hf => ?_) (fun hc2 hf => ?_)
      · refine lv_aload_n F.1 F.2.1 dX8_allBy_29 rfl (lv_at hl 0 rfl) ?_
        refine gX8_114 F hw rfl dX8_allBy_30 ?_
        refine lv_goto F.1 F.2.1 dX8_allBy_33 (tgt := 44) (by decide) ?_
        exact r_iret_o F hw (vp_nar_int _) dX8_allBy_44 hf
      · refine lv_aload_n F.1 F.2.1 dX8_allBy_36 rfl (lv_at hl 0 rfl) ?_
        refine gX8_104 F hw rfl dX8_allBy_37 ?_
        refine lv_iload_n F.1 F.2.1 dX8_allBy_40 rfl (lv_at hl 1 rfl) ?_
        refine k_iconst_2 F dX8_allBy_41 ?_
        refine lv_isub F.1 F.2.1 dX8_allBy_42 ?_
        refine r_iald F hw (n := 6) rfl dX8_allBy_43 hf (fun hi1 hf => ?_)
        exact r_iret_o F hw (vp_nar_int _) dX8_allBy_44 hf
theorem clX8_240 (F : Fx D cA RX8 cc nL ret p s m args meth c) (hw : Wd shM D cA ad H0 M H locs) (hl : lv_has ls nL lv) {v1 : Int32} (hR : 1 ≤ R.frames ∧ 21 ≤ R.locals) (hrm : (rest.map fun v => v.category).sum ≤ 8) (hd : decode cc pc = .ok (.invokevirtual 240, 3)) {α : Type} {K : Int32 → Option α} {res : α} (hf : bnd1 (fX8_allBy v1 M) K = some res) (kk : ∀ (t : Int32) (H1 : Heap) (locs1 : List Loc), Wd shM D cA ad H0 M H1 locs1 → narrow .int (.int t) = .int t → K t = some res → W p l e R s m args below meth c H1 locs1 0 0 Q (F0 m (pc + 3) ls (.int t :: rest))) : W p l e R s m args below meth c H locs 0 0 Q (F0 m pc ls (.int v1 :: .ref (ad 0) :: rest)) := by
  obtain ⟨t, h1, h2⟩ := bnd1_some hf
  exact r_afti hw (r_runV (As := [.int v1]) F hw hl (cX8_allBy_ok l D cA ad M v1 t h1) cz8 (show shM[0]? = some (.inr (8, sf8)) from rfl) cwX8_240 hR hrm hd) (fun H1 o1 hw1 hn => kk t H1 o1 hw1 hn h2)
def fX8_all (v1 : Int32) (M : Mem) : Option (Int32 × Mem) :=
  if (fX8_in v1 (0 : Int32) (8 : Int32)) = 0 then
    bnd2 (fX8_bad M) fun t8 M7 =>
    some (t8, M7)
  else
    bnd1 (fX8_allBy v1 M) fun t12 =>
    some (t12, M)
set_option maxHeartbeats 4000000 in
set_option maxRecDepth 100000 in
theorem cX8_all_ok (l : Launch) (D : va_G) (cA : Nat → ClassId) (ad : Nat → Nat) (M : Mem) (v1 : Int32) (r : Int32) (M' : Mem) (hf : fX8_all v1 M = some (r, M')) : Ctg l yX8_all cX8_all 2 (some .int) 1 22 shM D cA ad [.ref (ad 0), .int v1] M (Qzi shM D cA ad .int r M') := by
  refine ct_in (by decide) (Nat.le_of_ble_eq_true rfl) ?_
  intro p e s m below meth c ls F hl hw
  have hl : lv_has ls 2 [(0, .ref (ad 0)), (1, .int v1)] := hl
  unfold fX8_all at hf
  refine lv_iload_n F.1 F.2.1 dX8_all_0 rfl (lv_at hl 1 rfl) ?_
  refine k_iconst_0 F dX8_all_1 ?_
  refine k_bipush_8 F dX8_all_2 ?_
  refine clX8_110 F hw hl ⟨Nat.le_of_ble_eq_true rfl, Nat.le_of_ble_eq_true rfl⟩ (Nat.le_of_ble_eq_true rfl) dX8_all_4 (fun H1 o2 hw hn3 => ?_)
  refine b_if_eq F dX8_all_7 (tgt := 18) (by decide) hf (fun hc13 hf => ?_) (fun hc13 hf => ?_)
  · refine lv_aload_n F.1 F.2.1 dX8_all_18 rfl (lv_at hl 0 rfl) ?_
    refine clX8_127 F hw hl ⟨Nat.le_of_ble_eq_true rfl, Nat.le_of_ble_eq_true rfl⟩ (Nat.le_of_ble_eq_true rfl) dX8_all_19 hf (fun t8 M7 H4 o5 hw hn6 hf => ?_)
    exact r_iret_w F hw (vp_nar_int _) dX8_all_22 hf
  · refine lv_aload_n F.1 F.2.1 dX8_all_10 rfl (lv_at hl 0 rfl) ?_
    refine lv_iload_n F.1 F.2.1 dX8_all_11 rfl (lv_at hl 1 rfl) ?_
    refine clX8_240 F hw hl ⟨Nat.le_of_ble_eq_true rfl, Nat.le_of_ble_eq_true rfl⟩ (Nat.le_of_ble_eq_true rfl) dX8_all_12 hf (fun t12 H9 o10 hw hn11 hf => ?_)
    refine lv_goto F.1 F.2.1 dX8_all_15 (tgt := 22) (by decide) ?_
    exact r_iret_w F hw (vp_nar_int _) dX8_all_22 hf
def fX8_window (v1 : Int32) (v2 : Int32) (M : Mem) : Option (Int32 × Mem) :=
  if v1 < 0 then
    bnd2 (fX8_bad M) fun t5 M4 =>
    some (t5, M4)
  else
    if (fX8_in v2 (0 : Int32) (3 : Int32)) = 0 then
      bnd2 (fX8_bad M) fun t21 M20 =>
      some (t21, M20)
    else
      if v1 < (M 0 28) then
        if v2 = 0 then
          ix v1 390 <|
          some ((M 24 v1.toNatClampNeg), M)
        else
          if v2 = (1 : Int32) then
            ix v1 390 <|
            some ((M 25 v1.toNatClampNeg), M)
          else
            if v2 = (2 : Int32) then
              ix v1 390 <|
              some ((M 27 v1.toNatClampNeg), M)
            else
              ix v1 390 <|
              some ((((M 26 v1.toNatClampNeg) + (M 0 3)) - (M 0 4)), M)
      else
        some ((-1 : Int32), M)
set_option maxHeartbeats 4000000 in
set_option maxRecDepth 100000 in
theorem cX8_window_ok (l : Launch) (D : va_G) (cA : Nat → ClassId) (ad : Nat → Nat) (M : Mem) (v1 : Int32) (v2 : Int32) (r : Int32) (M' : Mem) (hf : fX8_window v1 v2 M = some (r, M')) : Ctg l yX8_window cX8_window 3 (some .int) 1 22 shM D cA ad [.ref (ad 0), .int v1, .int v2] M (Qzi shM D cA ad .int r M') := by
  refine ct_in (by decide) (Nat.le_of_ble_eq_true rfl) ?_
  intro p e s m below meth c ls F hl hw
  have hl : lv_has ls 3 [(0, .ref (ad 0)), (1, .int v1), (2, .int v2)] := hl
  unfold fX8_window at hf
  refine lv_iload_n F.1 F.2.1 dX8_window_0 rfl (lv_at hl 1 rfl) ?_
  refine b_if_lt F dX8_window_1 (tgt := 13) (by decide) hf (fun hc23 hf => ?_) (fun hc23 hf => ?_)
  · refine lv_aload_n F.1 F.2.1 dX8_window_13 rfl (lv_at hl 0 rfl) ?_
    refine clX8_127 F hw hl ⟨Nat.le_of_ble_eq_true rfl, Nat.le_of_ble_eq_true rfl⟩ (Nat.le_of_ble_eq_true rfl) dX8_window_14 hf (fun t5 M4 H1 o2 hw hn3 hf => ?_)
    exact r_iret_w F hw (vp_nar_int _) dX8_window_17 hf
  · refine lv_iload_n F.1 F.2.1 dX8_window_4 rfl (lv_at hl 2 rfl) ?_
    refine k_iconst_0 F dX8_window_5 ?_
    refine k_iconst_3 F dX8_window_6 ?_
    refine clX8_110 F hw hl ⟨Nat.le_of_ble_eq_true rfl, Nat.le_of_ble_eq_true rfl⟩ (Nat.le_of_ble_eq_true rfl) dX8_window_7 (fun H6 o7 hw hn8 => ?_)
    refine b_if_ne F dX8_window_10 (tgt := 18) (by decide) hf (fun hc22 hf => ?_) (fun hc22 hf => ?_)
    · refine lv_aload_n F.1 F.2.1 dX8_window_13 rfl (lv_at hl 0 rfl) ?_
      refine clX8_127 F hw hl ⟨Nat.le_of_ble_eq_true rfl, Nat.le_of_ble_eq_true rfl⟩ (Nat.le_of_ble_eq_true rfl) dX8_window_14 hf (fun t21 M20 H17 o18 hw hn19 hf => ?_)
      exact r_iret_w F hw (vp_nar_int _) dX8_window_17 hf
    · refine lv_iload_n F.1 F.2.1 dX8_window_18 rfl (lv_at hl 1 rfl) ?_
      refine lv_aload_n F.1 F.2.1 dX8_window_19 rfl (lv_at hl 0 rfl) ?_
      refine gX8_120 F hw rfl dX8_window_20 ?_
      refine b_icmp_lt F dX8_window_23 (tgt := 28) (by decide) hf (fun hc16 hf => ?_) (fun hc16 hf => ?_)
      · refine lv_iload_n F.1 F.2.1 dX8_window_28 rfl (lv_at hl 2 rfl) ?_
        refine b_if_ne F dX8_window_29 (tgt := 41) (by decide) hf (fun hc15 hf => ?_) (fun hc15 hf => ?_)
        · refine lv_aload_n F.1 F.2.1 dX8_window_32 rfl (lv_at hl 0 rfl) ?_
          refine gX8_89 F hw rfl dX8_window_33 ?_
          refine lv_iload_n F.1 F.2.1 dX8_window_36 rfl (lv_at hl 1 rfl) ?_
          refine r_iald F hw (n := 390) rfl dX8_window_37 hf (fun hi14 hf => ?_)
          refine lv_goto F.1 F.2.1 dX8_window_38 (tgt := 85) (by decide) ?_
          exact r_iret_w F hw (vp_nar_int _) dX8_window_85 hf
        · refine lv_iload_n F.1 F.2.1 dX8_window_41 rfl (lv_at hl 2 rfl) ?_
          refine k_iconst_1 F dX8_window_42 ?_
          refine b_icmp_ne F dX8_window_43 (tgt := 55) (by decide) hf (fun hc13 hf => ?_) (fun hc13 hf => ?_)
          · refine lv_aload_n F.1 F.2.1 dX8_window_46 rfl (lv_at hl 0 rfl) ?_
            refine gX8_92 F hw rfl dX8_window_47 ?_
            refine lv_iload_n F.1 F.2.1 dX8_window_50 rfl (lv_at hl 1 rfl) ?_
            refine r_iald F hw (n := 390) rfl dX8_window_51 hf (fun hi12 hf => ?_)
            refine lv_goto F.1 F.2.1 dX8_window_52 (tgt := 85) (by decide) ?_
            exact r_iret_w F hw (vp_nar_int _) dX8_window_85 hf
          · refine lv_iload_n F.1 F.2.1 dX8_window_55 rfl (lv_at hl 2 rfl) ?_
            refine k_iconst_2 F dX8_window_56 ?_
            refine b_icmp_ne F dX8_window_57 (tgt := 69) (by decide) hf (fun hc11 hf => ?_) (fun hc11 hf => ?_)
            · refine lv_aload_n F.1 F.2.1 dX8_window_60 rfl (lv_at hl 0 rfl) ?_
              refine gX8_98 F hw rfl dX8_window_61 ?_
              refine lv_iload_n F.1 F.2.1 dX8_window_64 rfl (lv_at hl 1 rfl) ?_
              refine r_iald F hw (n := 390) rfl dX8_window_65 hf (fun hi10 hf => ?_)
              refine lv_goto F.1 F.2.1 dX8_window_66 (tgt := 85) (by decide) ?_
              exact r_iret_w F hw (vp_nar_int _) dX8_window_85 hf
            · refine lv_aload_n F.1 F.2.1 dX8_window_69 rfl (lv_at hl 0 rfl) ?_
              refine gX8_95 F hw rfl dX8_window_70 ?_
              refine lv_iload_n F.1 F.2.1 dX8_window_73 rfl (lv_at hl 1 rfl) ?_
              refine r_iald F hw (n := 390) rfl dX8_window_74 hf (fun hi9 hf => ?_)
              refine lv_aload_n F.1 F.2.1 dX8_window_75 rfl (lv_at hl 0 rfl) ?_
              refine gX8_20 F hw rfl dX8_window_76 ?_
              refine lv_iadd F.1 F.2.1 dX8_window_79 ?_
              refine lv_aload_n F.1 F.2.1 dX8_window_80 rfl (lv_at hl 0 rfl) ?_
              refine gX8_114 F hw rfl dX8_window_81 ?_
              refine lv_isub F.1 F.2.1 dX8_window_84 ?_
              exact r_iret_w F hw (vp_nar_int _) dX8_window_85 hf
      · refine k_iconst_m1 F dX8_window_26 ?_
        exact r_iret_w F hw (vp_nar_int _) dX8_window_27 hf
def fX8_copy (v1 : Int32) (v2 : Int32) (M : Mem) : Option (Int32 × Mem) :=
  if v1 < 0 then
    bnd2 (fX8_bad M) fun t5 M4 =>
    some (t5, M4)
  else
    if (fX8_in v2 (0 : Int32) (2 : Int32)) = 0 then
      bnd2 (fX8_bad M) fun t19 M18 =>
      some (t19, M18)
    else
      if v1 < (M 0 22) then
        if v2 = 0 then
          ix v1 60 <|
          some ((M 19 v1.toNatClampNeg), M)
        else
          if v2 = (1 : Int32) then
            ix v1 60 <|
            some ((M 20 v1.toNatClampNeg), M)
          else
            ix v1 60 <|
            some (((M 23 v1.toNatClampNeg) - (M 0 4)), M)
      else
        some ((-1 : Int32), M)
set_option maxHeartbeats 4000000 in
set_option maxRecDepth 100000 in
theorem cX8_copy_ok (l : Launch) (D : va_G) (cA : Nat → ClassId) (ad : Nat → Nat) (M : Mem) (v1 : Int32) (v2 : Int32) (r : Int32) (M' : Mem) (hf : fX8_copy v1 v2 M = some (r, M')) : Ctg l yX8_copy cX8_copy 3 (some .int) 1 22 shM D cA ad [.ref (ad 0), .int v1, .int v2] M (Qzi shM D cA ad .int r M') := by
  refine ct_in (by decide) (Nat.le_of_ble_eq_true rfl) ?_
  intro p e s m below meth c ls F hl hw
  have hl : lv_has ls 3 [(0, .ref (ad 0)), (1, .int v1), (2, .int v2)] := hl
  unfold fX8_copy at hf
  refine lv_iload_n F.1 F.2.1 dX8_copy_0 rfl (lv_at hl 1 rfl) ?_
  refine b_if_lt F dX8_copy_1 (tgt := 13) (by decide) hf (fun hc21 hf => ?_) (fun hc21 hf => ?_)
  · refine lv_aload_n F.1 F.2.1 dX8_copy_13 rfl (lv_at hl 0 rfl) ?_
    refine clX8_127 F hw hl ⟨Nat.le_of_ble_eq_true rfl, Nat.le_of_ble_eq_true rfl⟩ (Nat.le_of_ble_eq_true rfl) dX8_copy_14 hf (fun t5 M4 H1 o2 hw hn3 hf => ?_)
    exact r_iret_w F hw (vp_nar_int _) dX8_copy_17 hf
  · refine lv_iload_n F.1 F.2.1 dX8_copy_4 rfl (lv_at hl 2 rfl) ?_
    refine k_iconst_0 F dX8_copy_5 ?_
    refine k_iconst_2 F dX8_copy_6 ?_
    refine clX8_110 F hw hl ⟨Nat.le_of_ble_eq_true rfl, Nat.le_of_ble_eq_true rfl⟩ (Nat.le_of_ble_eq_true rfl) dX8_copy_7 (fun H6 o7 hw hn8 => ?_)
    refine b_if_ne F dX8_copy_10 (tgt := 18) (by decide) hf (fun hc20 hf => ?_) (fun hc20 hf => ?_)
    · refine lv_aload_n F.1 F.2.1 dX8_copy_13 rfl (lv_at hl 0 rfl) ?_
      refine clX8_127 F hw hl ⟨Nat.le_of_ble_eq_true rfl, Nat.le_of_ble_eq_true rfl⟩ (Nat.le_of_ble_eq_true rfl) dX8_copy_14 hf (fun t19 M18 H15 o16 hw hn17 hf => ?_)
      exact r_iret_w F hw (vp_nar_int _) dX8_copy_17 hf
    · refine lv_iload_n F.1 F.2.1 dX8_copy_18 rfl (lv_at hl 1 rfl) ?_
      refine lv_aload_n F.1 F.2.1 dX8_copy_19 rfl (lv_at hl 0 rfl) ?_
      refine gX8_117 F hw rfl dX8_copy_20 ?_
      refine b_icmp_lt F dX8_copy_23 (tgt := 28) (by decide) hf (fun hc14 hf => ?_) (fun hc14 hf => ?_)
      · refine lv_iload_n F.1 F.2.1 dX8_copy_28 rfl (lv_at hl 2 rfl) ?_
        refine b_if_ne F dX8_copy_29 (tgt := 41) (by decide) hf (fun hc13 hf => ?_) (fun hc13 hf => ?_)
        · refine lv_aload_n F.1 F.2.1 dX8_copy_32 rfl (lv_at hl 0 rfl) ?_
          refine gX8_74 F hw rfl dX8_copy_33 ?_
          refine lv_iload_n F.1 F.2.1 dX8_copy_36 rfl (lv_at hl 1 rfl) ?_
          refine r_iald F hw (n := 60) rfl dX8_copy_37 hf (fun hi12 hf => ?_)
          refine lv_goto F.1 F.2.1 dX8_copy_38 (tgt := 66) (by decide) ?_
          exact r_iret_w F hw (vp_nar_int _) dX8_copy_66 hf
        · refine lv_iload_n F.1 F.2.1 dX8_copy_41 rfl (lv_at hl 2 rfl) ?_
          refine k_iconst_1 F dX8_copy_42 ?_
          refine b_icmp_ne F dX8_copy_43 (tgt := 55) (by decide) hf (fun hc11 hf => ?_) (fun hc11 hf => ?_)
          · refine lv_aload_n F.1 F.2.1 dX8_copy_46 rfl (lv_at hl 0 rfl) ?_
            refine gX8_77 F hw rfl dX8_copy_47 ?_
            refine lv_iload_n F.1 F.2.1 dX8_copy_50 rfl (lv_at hl 1 rfl) ?_
            refine r_iald F hw (n := 60) rfl dX8_copy_51 hf (fun hi10 hf => ?_)
            refine lv_goto F.1 F.2.1 dX8_copy_52 (tgt := 66) (by decide) ?_
            exact r_iret_w F hw (vp_nar_int _) dX8_copy_66 hf
          · refine lv_aload_n F.1 F.2.1 dX8_copy_55 rfl (lv_at hl 0 rfl) ?_
            refine gX8_86 F hw rfl dX8_copy_56 ?_
            refine lv_iload_n F.1 F.2.1 dX8_copy_59 rfl (lv_at hl 1 rfl) ?_
            refine r_iald F hw (n := 60) rfl dX8_copy_60 hf (fun hi9 hf => ?_)
            refine lv_aload_n F.1 F.2.1 dX8_copy_61 rfl (lv_at hl 0 rfl) ?_
            refine gX8_114 F hw rfl dX8_copy_62 ?_
            refine lv_isub F.1 F.2.1 dX8_copy_65 ?_
            exact r_iret_w F hw (vp_nar_int _) dX8_copy_66 hf
      · refine k_iconst_m1 F dX8_copy_26 ?_
        exact r_iret_w F hw (vp_nar_int _) dX8_copy_27 hf
def fX8_type (v1 : Int32) (M : Mem) : Option (Int32 × Mem) :=
  if (fX8_in v1 (0 : Int32) (127 : Int32)) = 0 then
    bnd2 (fX8_bad M) fun t21 M20 =>
    some (t21, M20)
  else
    if (M 0 38) = (120 : Int32) then
      bnd2 (fX8_full M) fun t15 M14 =>
      some (t15, M14)
    else
      ix (M 0 38) 120 <| wr M 30 (M 0 38).toNatClampNeg v1 fun M5 =>
      wr M5 0 38 ((M5 0 38) + (1 : Int32)) fun M8 =>
      some ((M8 0 38), M8)
set_option maxHeartbeats 4000000 in
set_option maxRecDepth 100000 in
theorem cX8_type_ok (l : Launch) (D : va_G) (cA : Nat → ClassId) (ad : Nat → Nat) (M : Mem) (v1 : Int32) (r : Int32) (M' : Mem) (hf : fX8_type v1 M = some (r, M')) : Ctg l yX8_type cX8_type 2 (some .int) 1 22 shM D cA ad [.ref (ad 0), .int v1] M (Qzi shM D cA ad .int r M') := by
  refine ct_in (by decide) (Nat.le_of_ble_eq_true rfl) ?_
  intro p e s m below meth c ls F hl hw
  have hl : lv_has ls 2 [(0, .ref (ad 0)), (1, .int v1)] := hl
  unfold fX8_type at hf
  refine lv_iload_n F.1 F.2.1 dX8_type_0 rfl (lv_at hl 1 rfl) ?_
  refine k_iconst_0 F dX8_type_1 ?_
  refine k_bipush_127 F dX8_type_2 ?_
  refine clX8_110 F hw hl ⟨Nat.le_of_ble_eq_true rfl, Nat.le_of_ble_eq_true rfl⟩ (Nat.le_of_ble_eq_true rfl) dX8_type_4 (fun H1 o2 hw hn3 => ?_)
  refine b_if_ne F dX8_type_7 (tgt := 15) (by decide) hf (fun hc22 hf => ?_) (fun hc22 hf => ?_)
  · refine lv_aload_n F.1 F.2.1 dX8_type_10 rfl (lv_at hl 0 rfl) ?_
    refine clX8_127 F hw hl ⟨Nat.le_of_ble_eq_true rfl, Nat.le_of_ble_eq_true rfl⟩ (Nat.le_of_ble_eq_true rfl) dX8_type_11 hf (fun t21 M20 H17 o18 hw hn19 hf => ?_)
    exact r_iret_w F hw (vp_nar_int _) dX8_type_14 hf
  · refine lv_aload_n F.1 F.2.1 dX8_type_15 rfl (lv_at hl 0 rfl) ?_
    refine gX8_243 F hw rfl dX8_type_16 ?_
    refine k_bipush_120 F dX8_type_19 ?_
    refine b_icmp_ne F dX8_type_21 (tgt := 29) (by decide) hf (fun hc16 hf => ?_) (fun hc16 hf => ?_)
    · refine lv_aload_n F.1 F.2.1 dX8_type_24 rfl (lv_at hl 0 rfl) ?_
      refine clX8_174 F hw hl ⟨Nat.le_of_ble_eq_true rfl, Nat.le_of_ble_eq_true rfl⟩ (Nat.le_of_ble_eq_true rfl) dX8_type_25 hf (fun t15 M14 H11 o12 hw hn13 hf => ?_)
      exact r_iret_w F hw (vp_nar_int _) dX8_type_28 hf
    · refine lv_aload_n F.1 F.2.1 dX8_type_29 rfl (lv_at hl 0 rfl) ?_
      refine gX8_107 F hw rfl dX8_type_30 ?_
      refine lv_aload_n F.1 F.2.1 dX8_type_33 rfl (lv_at hl 0 rfl) ?_
      refine gX8_243 F hw rfl dX8_type_34 ?_
      refine lv_iload_n F.1 F.2.1 dX8_type_37 rfl (lv_at hl 1 rfl) ?_
      refine r_iast F hw (n := 120) rfl dX8_type_38 hf (fun hi4 M5 H6 o7 hw hf => ?_)
      refine lv_aload_n F.1 F.2.1 dX8_type_39 rfl (lv_at hl 0 rfl) ?_
      refine lv_dup F.1 F.2.1 dX8_type_40 rfl ?_
      refine gX8_243 F hw rfl dX8_type_41 ?_
      refine k_iconst_1 F dX8_type_44 ?_
      refine lv_iadd F.1 F.2.1 dX8_type_45 ?_
      refine qX8_243 F hw rfl dX8_type_46 hf (fun M8 H9 o10 hw hf => ?_)
      refine lv_aload_n F.1 F.2.1 dX8_type_49 rfl (lv_at hl 0 rfl) ?_
      refine gX8_243 F hw rfl dX8_type_50 ?_
      exact r_iret_w F hw (vp_nar_int _) dX8_type_53 hf
def fX8_clear (M : Mem) : Option (Int32 × Mem) :=
  wr M 0 38 (0 : Int32) fun M2 =>
  some ((M 0 38), M2)
set_option maxHeartbeats 4000000 in
set_option maxRecDepth 100000 in
theorem cX8_clear_ok (l : Launch) (D : va_G) (cA : Nat → ClassId) (ad : Nat → Nat) (M : Mem)  (r : Int32) (M' : Mem) (hf : fX8_clear M = some (r, M')) : Ctg l yX8_clear cX8_clear 2 (some .int) 0 0 shM D cA ad [.ref (ad 0)] M (Qzi shM D cA ad .int r M') := by
  refine ct_in (by decide) (Nat.le_of_ble_eq_true rfl) ?_
  intro p e s m below meth c ls F hl hw
  have hl : lv_has ls 2 [(0, .ref (ad 0))] := hl
  unfold fX8_clear at hf
  refine lv_aload_n F.1 F.2.1 dX8_clear_0 rfl (lv_at hl 0 rfl) ?_
  refine gX8_243 F hw rfl dX8_clear_1 ?_
  refine lv_istore_n F.1 F.2.1 dX8_clear_4 rfl hl (lv' := [(1, .int (M 0 38)), (0, .ref (ad 0))]) (Nat.le_of_ble_eq_true rfl) rfl (fun ls1 hl => ?_)
  refine lv_aload_n F.1 F.2.1 dX8_clear_5 rfl (lv_at hl 1 rfl) ?_
  refine k_iconst_0 F dX8_clear_6 ?_
  refine qX8_243 F hw rfl dX8_clear_7 hf (fun M2 H3 o4 hw hf => ?_)
  refine lv_iload_n F.1 F.2.1 dX8_clear_10 rfl (lv_at hl 0 rfl) ?_
  exact r_iret_w F hw (vp_nar_int _) dX8_clear_11 hf
def fX8_here_L0 : Nat → Mem → Option (Mem)
  | 0, _ => none
  | n + 1, M =>
    if (M 0 38) ≤ (M 0 39) then
      some M
    else
      ix (M 0 39) 120 <|
      if (M 30 (M 0 39).toNatClampNeg) = (32 : Int32) then
        wr M 0 39 ((M 0 39) + (1 : Int32)) fun M2 =>
        fX8_here_L0 n M2
      else
        some M
def fX8_here (M : Mem) : Option (Int32 × Mem) :=
  bnd1 (fX8_here_L0 FUEL M) fun M7 =>
  if (M7 0 38) ≤ (M7 0 39) then
    some ((-1 : Int32), M7)
  else
    ix (M7 0 39) 120 <|
    some ((M7 30 (M7 0 39).toNatClampNeg), M7)
set_option maxHeartbeats 4000000 in
set_option maxRecDepth 100000 in
theorem wX8_here_L0 {p : Program} {l : Launch} {e : Env} {s : State} {m : MethodId} {args : Array Value} {below : List Frame} {meth : Method} {c : Code} {D : va_G} {cA : Nat → ClassId} {ad : Nat → Nat} {Q : State → Prop} (F : Fx D cA RX8 cX8_here 1 (some .int) p s m args meth c) : ∀ (n : Nat) (M : Mem) (H : Heap) (o : List Loc) (ls : Array Slot), lv_has ls 1 [(0, .ref (ad 0))] → Wd shM D cA ad s.heap M H o → ∀ (M' : Mem), fX8_here_L0 n M = some M' → (∀ (H1 : Heap) (o1 : List Loc) (ls1 : Array Slot), lv_has ls1 1 [(0, .ref (ad 0))] → Wd shM D cA ad s.heap M' H1 o1 → W p l e (rz 0 0) s m args below meth c H1 o1 0 0 Q (F0 m 38 ls1 [])) → W p l e (rz 0 0) s m args below meth c H o 0 0 Q (F0 m 0 ls []) := by
  intro n
  induction n with
  | zero =>
    intro M H o ls hl hw M' hf kk
    cases hf
  | succ n ih =>
    intro M H o ls hl hw M' hf kk
    rw [fX8_here_L0] at hf
    refine lv_aload_n F.1 F.2.1 dX8_here_0 rfl (lv_at hl 0 rfl) ?_
    refine gX8_246 F hw rfl dX8_here_1 ?_
    refine lv_aload_n F.1 F.2.1 dX8_here_4 rfl (lv_at hl 0 rfl) ?_
    refine gX8_243 F hw rfl dX8_here_5 ?_
    refine b_icmp_ge F dX8_here_8 (tgt := 38) (by decide) hf (fun hc6 hf => ?_) (fun hc6 hf => ?_)
    · cases hf
      exact kk _ _ _ hl hw
    · refine lv_aload_n F.1 F.2.1 dX8_here_11 rfl (lv_at hl 0 rfl) ?_
      refine gX8_107 F hw rfl dX8_here_12 ?_
      refine lv_aload_n F.1 F.2.1 dX8_here_15 rfl (lv_at hl 0 rfl) ?_
      refine gX8_246 F hw rfl dX8_here_16 ?_
      refine r_iald F hw (n := 120) rfl dX8_here_19 hf (fun hi1 hf => ?_)
      refine k_bipush_32 F dX8_here_20 ?_
      refine b_icmp_ne F dX8_here_22 (tgt := 38) (by decide) hf (fun hc5 hf => ?_) (fun hc5 hf => ?_)
      · refine lv_aload_n F.1 F.2.1 dX8_here_25 rfl (lv_at hl 0 rfl) ?_
        refine lv_dup F.1 F.2.1 dX8_here_26 rfl ?_
        refine gX8_246 F hw rfl dX8_here_27 ?_
        refine k_iconst_1 F dX8_here_30 ?_
        refine lv_iadd F.1 F.2.1 dX8_here_31 ?_
        refine qX8_246 F hw rfl dX8_here_32 hf (fun M2 H3 o4 hw hf => ?_)
        refine lv_goto F.1 F.2.1 dX8_here_35 (tgt := 0) (by decide) ?_
        exact ih M2 _ _ _ hl hw  M' hf kk
      · cases hf
        exact kk _ _ _ hl hw
set_option maxHeartbeats 4000000 in
set_option maxRecDepth 100000 in
theorem cX8_here_ok (l : Launch) (D : va_G) (cA : Nat → ClassId) (ad : Nat → Nat) (M : Mem)  (r : Int32) (M' : Mem) (hf : fX8_here M = some (r, M')) : Ctg l yX8_here cX8_here 1 (some .int) 0 0 shM D cA ad [.ref (ad 0)] M (Qzi shM D cA ad .int r M') := by
  refine ct_in (by decide) (Nat.le_of_ble_eq_true rfl) ?_
  intro p e s m below meth c ls F hl hw
  have hl : lv_has ls 1 [(0, .ref (ad 0))] := hl
  unfold fX8_here at hf
  obtain ⟨M7, hq13, hf⟩ := bnd1_some hf
  refine wX8_here_L0 F FUEL M _ _ _ hl hw M7 hq13 (fun H8 o9 ls10 hl hw => ?_)
  refine lv_aload_n F.1 F.2.1 dX8_here_38 rfl (lv_at hl 0 rfl) ?_
  refine gX8_246 F hw rfl dX8_here_39 ?_
  refine lv_aload_n F.1 F.2.1 dX8_here_42 rfl (lv_at hl 0 rfl) ?_
  refine gX8_243 F hw rfl dX8_here_43 ?_
  refine b_icmp_ge F dX8_here_46 (tgt := 61) (by decide) hf (fun hc12 hf => ?_) (fun hc12 hf => ?_)
  · refine k_iconst_m1 F dX8_here_61 ?_
    exact r_iret_w F hw (vp_nar_int _) dX8_here_62 hf
  · refine lv_aload_n F.1 F.2.1 dX8_here_49 rfl (lv_at hl 0 rfl) ?_
    refine gX8_107 F hw rfl dX8_here_50 ?_
    refine lv_aload_n F.1 F.2.1 dX8_here_53 rfl (lv_at hl 0 rfl) ?_
    refine gX8_246 F hw rfl dX8_here_54 ?_
    refine r_iald F hw (n := 120) rfl dX8_here_57 hf (fun hi11 hf => ?_)
    refine lv_goto F.1 F.2.1 dX8_here_58 (tgt := 62) (by decide) ?_
    exact r_iret_w F hw (vp_nar_int _) dX8_here_62 hf
theorem clX8_249 (F : Fx D cA RX8 cc nL ret p s m args meth c) (hw : Wd shM D cA ad H0 M H locs) (hl : lv_has ls nL lv) (hR : 1 ≤ R.frames ∧ 20 ≤ R.locals) (hrm : (rest.map fun v => v.category).sum ≤ 8) (hd : decode cc pc = .ok (.invokevirtual 249, 3)) {α : Type} {K : Int32 → Mem → Option α} {res : α} (hf : bnd2 (fX8_here M) K = some res) (kk : ∀ (t : Int32) (M1 : Mem) (H1 : Heap) (locs1 : List Loc), Wd shM D cA ad H0 M1 H1 locs1 → narrow .int (.int t) = .int t → K t M1 = some res → W p l e R s m args below meth c H1 locs1 0 0 Q (F0 m (pc + 3) ls (.int t :: rest))) : W p l e R s m args below meth c H locs 0 0 Q (F0 m pc ls (.ref (ad 0) :: rest)) := by
  obtain ⟨t, M1, h1, h2⟩ := bnd2_some hf
  exact r_afti hw (r_runV (As := []) F hw hl (cX8_here_ok l D cA ad M t M1 h1) cz8 (show shM[0]? = some (.inr (8, sf8)) from rfl) cwX8_249 hR hrm hd) (fun H1 o1 hw1 hn => kk t M1 H1 o1 hw1 hn h2)
def fX8_readsOne (v1 : Int32) (M : Mem) : Option (Int32 × Mem) :=
  bnd2 (fX8_here M) fun t5 M4 =>
  if (fX8_in (t5 - (48 : Int32)) (0 : Int32) (9 : Int32)) = 0 then
    some ((0 : Int32), M4)
  else
    if (t5 - (48 : Int32)) < v1 then
      wr M4 0 39 ((M4 0 39) + (1 : Int32)) fun M10 =>
      wr M10 0 40 (t5 - (48 : Int32)) fun M13 =>
      some ((1 : Int32), M13)
    else
      some ((0 : Int32), M4)
set_option maxHeartbeats 4000000 in
set_option maxRecDepth 100000 in
theorem cX8_readsOne_ok (l : Launch) (D : va_G) (cA : Nat → ClassId) (ad : Nat → Nat) (M : Mem) (v1 : Int32) (r : Int32) (M' : Mem) (hf : fX8_readsOne v1 M = some (r, M')) : Ctg l yX8_readsOne cX8_readsOne 3 (some .boolean) 1 22 shM D cA ad [.ref (ad 0), .int v1] M (Qzi shM D cA ad .boolean r M') := by
  refine ct_in (by decide) (Nat.le_of_ble_eq_true rfl) ?_
  intro p e s m below meth c ls F hl hw
  have hl : lv_has ls 3 [(0, .ref (ad 0)), (1, .int v1)] := hl
  unfold fX8_readsOne at hf
  refine lv_aload_n F.1 F.2.1 dX8_readsOne_0 rfl (lv_at hl 0 rfl) ?_
  refine clX8_249 F hw hl ⟨Nat.le_of_ble_eq_true rfl, Nat.le_of_ble_eq_true rfl⟩ (Nat.le_of_ble_eq_true rfl) dX8_readsOne_1 hf (fun t5 M4 H1 o2 hw hn3 hf => ?_)
  refine k_bipush_48 F dX8_readsOne_4 ?_
  refine lv_isub F.1 F.2.1 dX8_readsOne_6 ?_
  refine lv_istore_n F.1 F.2.1 dX8_readsOne_7 rfl hl (lv' := [(2, .int (t5 - (48 : Int32))), (0, .ref (ad 0)), (1, .int v1)]) (Nat.le_of_ble_eq_true rfl) rfl (fun ls6 hl => ?_)
  refine lv_iload_n F.1 F.2.1 dX8_readsOne_8 rfl (lv_at hl 0 rfl) ?_
  refine k_iconst_0 F dX8_readsOne_9 ?_
  refine k_bipush_9 F dX8_readsOne_10 ?_
  refine clX8_110 F hw hl ⟨Nat.le_of_ble_eq_true rfl, Nat.le_of_ble_eq_true rfl⟩ (Nat.le_of_ble_eq_true rfl) dX8_readsOne_12 (fun H7 o8 hw hn9 => ?_)
  refine b_if_eq F dX8_readsOne_15 (tgt := 23) (by decide) hf (fun hc17 hf => ?_) (fun hc17 hf => ?_)
  · refine k_iconst_0 F dX8_readsOne_23 ?_
    exact r_iret_w F hw rfl dX8_readsOne_24 hf
  · refine lv_iload_n F.1 F.2.1 dX8_readsOne_18 rfl (lv_at hl 0 rfl) ?_
    refine lv_iload_n F.1 F.2.1 dX8_readsOne_19 rfl (lv_at hl 2 rfl) ?_
    refine b_icmp_lt F dX8_readsOne_20 (tgt := 25) (by decide) hf (fun hc16 hf => ?_) (fun hc16 hf => ?_)
    · refine lv_aload_n F.1 F.2.1 dX8_readsOne_25 rfl (lv_at hl 1 rfl) ?_
      refine lv_dup F.1 F.2.1 dX8_readsOne_26 rfl ?_
      refine gX8_246 F hw rfl dX8_readsOne_27 ?_
      refine k_iconst_1 F dX8_readsOne_30 ?_
      refine lv_iadd F.1 F.2.1 dX8_readsOne_31 ?_
      refine qX8_246 F hw rfl dX8_readsOne_32 hf (fun M10 H11 o12 hw hf => ?_)
      refine lv_aload_n F.1 F.2.1 dX8_readsOne_35 rfl (lv_at hl 1 rfl) ?_
      refine lv_iload_n F.1 F.2.1 dX8_readsOne_36 rfl (lv_at hl 0 rfl) ?_
      refine qX8_252 F hw rfl dX8_readsOne_37 hf (fun M13 H14 o15 hw hf => ?_)
      refine k_iconst_1 F dX8_readsOne_40 ?_
      exact r_iret_w F hw rfl dX8_readsOne_41 hf
    · refine k_iconst_0 F dX8_readsOne_23 ?_
      exact r_iret_w F hw rfl dX8_readsOne_24 hf
theorem clX8_255 (F : Fx D cA RX8 cc nL ret p s m args meth c) (hw : Wd shM D cA ad H0 M H locs) (hl : lv_has ls nL lv) {v1 : Int32} (hR : 2 ≤ R.frames ∧ 44 ≤ R.locals) (hrm : (rest.map fun v => v.category).sum ≤ 8) (hd : decode cc pc = .ok (.invokevirtual 255, 3)) {α : Type} {K : Int32 → Mem → Option α} {res : α} (hf : bnd2 (fX8_readsOne v1 M) K = some res) (kk : ∀ (t : Int32) (M1 : Mem) (H1 : Heap) (locs1 : List Loc), Wd shM D cA ad H0 M1 H1 locs1 → narrow .boolean (.int t) = .int t → K t M1 = some res → W p l e R s m args below meth c H1 locs1 0 0 Q (F0 m (pc + 3) ls (.int t :: rest))) : W p l e R s m args below meth c H locs 0 0 Q (F0 m pc ls (.int v1 :: .ref (ad 0) :: rest)) := by
  obtain ⟨t, M1, h1, h2⟩ := bnd2_some hf
  exact r_afti hw (r_runV (As := [.int v1]) F hw hl (cX8_readsOne_ok l D cA ad M v1 t M1 h1) cz8 (show shM[0]? = some (.inr (8, sf8)) from rfl) cwX8_255 hR hrm hd) (fun H1 o1 hw1 hn => kk t M1 H1 o1 hw1 hn h2)
def fX8_readsNumber_L28 : Nat → Int32 → Int32 → Int32 → Mem → Option (Int32 × Mem)
  | 0, _, _, _, _ => none
  | n + 1, v1, v2, v3, M =>
    if (M 0 38) ≤ (M 0 39) then
      some (v3, M)
    else
      ix (M 0 39) 120 <|
      if (fX8_in (M 30 (M 0 39).toNatClampNeg) (48 : Int32) (57 : Int32)) = 0 then
        some (v3, M)
      else
        jn (fun (t18 : Int32) =>
          wr M 0 40 t18 fun M23 =>
          wr M23 0 39 ((M23 0 39) + (1 : Int32)) fun M27 =>
          fX8_readsNumber_L28 n v1 v2 (v3 + (1 : Int32)) M27) fun j22 =>
        if (2 : Int32) ≤ v3 then
          j22 (M 0 40)
        else
          j22 ((((10 : Int32) * (M 0 40)) + (M 30 (M 0 39).toNatClampNeg)) - (48 : Int32))
def fX8_readsNumber (v1 : Int32) (M : Mem) : Option (Int32 × Mem) :=
  bnd2 (fX8_here M) fun t5 M4 =>
  if (fX8_in t5 (48 : Int32) (57 : Int32)) = 0 then
    some ((0 : Int32), M4)
  else
    wr M4 0 40 (0 : Int32) fun M11 =>
    bnd2 (fX8_readsNumber_L28 FUEL v1 (M4 0 39) (0 : Int32) M11) fun w33 M34 =>
    if (2 : Int32) < w33 then
      wr M34 0 39 (M4 0 39) fun M38 =>
      some ((0 : Int32), M38)
    else
      if (M34 0 40) ≤ v1 then
        some ((1 : Int32), M34)
      else
        wr M34 0 39 (M4 0 39) fun M41 =>
        some ((0 : Int32), M41)
set_option maxHeartbeats 4000000 in
set_option maxRecDepth 100000 in
theorem wX8_readsNumber_L28 {p : Program} {l : Launch} {e : Env} {s : State} {m : MethodId} {args : Array Value} {below : List Frame} {meth : Method} {c : Code} {D : va_G} {cA : Nat → ClassId} {ad : Nat → Nat} {Q : State → Prop} (F : Fx D cA RX8 cX8_readsNumber 4 (some .boolean) p s m args meth c) : ∀ (n : Nat) (v1 : Int32) (v2 : Int32) (v3 : Int32) (M : Mem) (H : Heap) (o : List Loc) (ls : Array Slot), lv_has ls 4 [(0, .ref (ad 0)), (1, .int v1), (2, .int v2), (3, .int v3)] → Wd shM D cA ad s.heap M H o → ∀ (u3 : Int32) (M' : Mem), fX8_readsNumber_L28 n v1 v2 v3 M = some (u3, M') → (∀ (H1 : Heap) (o1 : List Loc) (ls1 : Array Slot), lv_has ls1 4 [(3, .int u3), (0, .ref (ad 0)), (1, .int v1), (2, .int v2)] → Wd shM D cA ad s.heap M' H1 o1 → W p l e (rz 1 22) s m args below meth c H1 o1 0 0 Q (F0 m 110 ls1 [])) → W p l e (rz 1 22) s m args below meth c H o 0 0 Q (F0 m 28 ls []) := by
  intro n
  induction n with
  | zero =>
    intro v1 v2 v3 M H o ls hl hw u3 M' hf kk
    cases hf
  | succ n ih =>
    intro v1 v2 v3 M H o ls hl hw u3 M' hf kk
    rw [fX8_readsNumber_L28] at hf
    refine lv_aload_n F.1 F.2.1 dX8_readsNumber_28 rfl (lv_at hl 0 rfl) ?_
    refine gX8_246 F hw rfl dX8_readsNumber_29 ?_
    refine lv_aload_n F.1 F.2.1 dX8_readsNumber_32 rfl (lv_at hl 0 rfl) ?_
    refine gX8_243 F hw rfl dX8_readsNumber_33 ?_
    refine b_icmp_ge F dX8_readsNumber_36 (tgt := 110) (by decide) hf (fun hc32 hf => ?_) (fun hc32 hf => ?_)
    · cases hf
      exact kk _ _ _ (lv_sub hl [3, 0, 1, 2] rfl) hw
    · refine lv_aload_n F.1 F.2.1 dX8_readsNumber_39 rfl (lv_at hl 0 rfl) ?_
      refine gX8_107 F hw rfl dX8_readsNumber_40 ?_
      refine lv_aload_n F.1 F.2.1 dX8_readsNumber_43 rfl (lv_at hl 0 rfl) ?_
      refine gX8_246 F hw rfl dX8_readsNumber_44 ?_
      refine r_iald F hw (n := 120) rfl dX8_readsNumber_47 hf (fun hi14 hf => ?_)
      refine k_bipush_48 F dX8_readsNumber_48 ?_
      refine k_bipush_57 F dX8_readsNumber_50 ?_
      refine clX8_110 F hw hl ⟨Nat.le_of_ble_eq_true rfl, Nat.le_of_ble_eq_true rfl⟩ (Nat.le_of_ble_eq_true rfl) dX8_readsNumber_52 (fun H15 o16 hw hn17 => ?_)
      refine b_if_eq F dX8_readsNumber_55 (tgt := 110) (by decide) hf (fun hc31 hf => ?_) (fun hc31 hf => ?_)
      · cases hf
        exact kk _ _ _ (lv_sub hl [3, 0, 1, 2] rfl) hw
      · refine lv_aload_n F.1 F.2.1 dX8_readsNumber_58 rfl (lv_at hl 0 rfl) ?_
        refine lv_iload_n F.1 F.2.1 dX8_readsNumber_59 rfl (lv_at hl 3 rfl) ?_
        refine k_iconst_2 F dX8_readsNumber_60 ?_
        refine jn_go1 (fun (t18 : Int32) => ∀ (H19 : Heap) (o20 : List Loc) (ls21 : Array Slot), lv_has ls21 4 [(0, .ref (ad 0)), (1, .int v1), (2, .int v2), (3, .int v3)] → Wd shM D cA ad s.heap M H19 o20 → W p l e (rz 1 22) s m args below meth c H19 o20 0 0 Q (F0 m 91 ls21 [.int t18, .ref (ad 0)])) hf (fun t18 hf H19 o20 ls21 hl hw => ?_) (fun j22 Jj22 hf => ?_)
        · refine qX8_252 F hw rfl dX8_readsNumber_91 hf (fun M23 H24 o25 hw hf => ?_)
          refine lv_iinc F.1 F.2.1 dX8_readsNumber_94 hl (k := 3) rfl (ki_1 _) (lv' := [(3, .int (v3 + (1 : Int32))), (0, .ref (ad 0)), (1, .int v1), (2, .int v2)]) (Nat.le_of_ble_eq_true rfl) rfl (fun ls26 hl => ?_)
          refine lv_aload_n F.1 F.2.1 dX8_readsNumber_97 rfl (lv_at hl 1 rfl) ?_
          refine lv_dup F.1 F.2.1 dX8_readsNumber_98 rfl ?_
          refine gX8_246 F hw rfl dX8_readsNumber_99 ?_
          refine k_iconst_1 F dX8_readsNumber_102 ?_
          refine lv_iadd F.1 F.2.1 dX8_readsNumber_103 ?_
          refine qX8_246 F hw rfl dX8_readsNumber_104 hf (fun M27 H28 o29 hw hf => ?_)
          refine lv_goto F.1 F.2.1 dX8_readsNumber_107 (tgt := 28) (by decide) ?_
          exact ih v1 v2 (v3 + (1 : Int32)) M27 _ _ _ (lv_sub hl [1, 2, 3, 0] rfl) hw u3 M' hf kk
        · refine b_icmp_ge F dX8_readsNumber_61 (tgt := 87) (by decide) hf (fun hc30 hf => ?_) (fun hc30 hf => ?_)
          · refine lv_aload_n F.1 F.2.1 dX8_readsNumber_87 rfl (lv_at hl 0 rfl) ?_
            refine gX8_252 F hw rfl dX8_readsNumber_88 ?_
            exact Jj22 (M 0 40) hf _ _ _ hl hw
          · refine k_bipush_10 F dX8_readsNumber_64 ?_
            refine lv_aload_n F.1 F.2.1 dX8_readsNumber_66 rfl (lv_at hl 0 rfl) ?_
            refine gX8_252 F hw rfl dX8_readsNumber_67 ?_
            refine lv_imul F.1 F.2.1 dX8_readsNumber_70 ?_
            refine lv_aload_n F.1 F.2.1 dX8_readsNumber_71 rfl (lv_at hl 0 rfl) ?_
            refine gX8_107 F hw rfl dX8_readsNumber_72 ?_
            refine lv_aload_n F.1 F.2.1 dX8_readsNumber_75 rfl (lv_at hl 0 rfl) ?_
            refine gX8_246 F hw rfl dX8_readsNumber_76 ?_
            refine r_iald0 F hw (n := 120) rfl dX8_readsNumber_79 hi14 ?_
            refine lv_iadd F.1 F.2.1 dX8_readsNumber_80 ?_
            refine k_bipush_48 F dX8_readsNumber_81 ?_
            refine lv_isub F.1 F.2.1 dX8_readsNumber_83 ?_
            refine lv_goto F.1 F.2.1 dX8_readsNumber_84 (tgt := 91) (by decide) ?_
            exact Jj22 ((((10 : Int32) * (M 0 40)) + (M 30 (M 0 39).toNatClampNeg)) - (48 : Int32)) hf _ _ _ hl hw
set_option maxHeartbeats 4000000 in
set_option maxRecDepth 100000 in
theorem cX8_readsNumber_ok (l : Launch) (D : va_G) (cA : Nat → ClassId) (ad : Nat → Nat) (M : Mem) (v1 : Int32) (r : Int32) (M' : Mem) (hf : fX8_readsNumber v1 M = some (r, M')) : Ctg l yX8_readsNumber cX8_readsNumber 4 (some .boolean) 1 22 shM D cA ad [.ref (ad 0), .int v1] M (Qzi shM D cA ad .boolean r M') := by
  refine ct_in (by decide) (Nat.le_of_ble_eq_true rfl) ?_
  intro p e s m below meth c ls F hl hw
  have hl : lv_has ls 4 [(0, .ref (ad 0)), (1, .int v1)] := hl
  unfold fX8_readsNumber at hf
  refine lv_aload_n F.1 F.2.1 dX8_readsNumber_0 rfl (lv_at hl 0 rfl) ?_
  refine clX8_249 F hw hl ⟨Nat.le_of_ble_eq_true rfl, Nat.le_of_ble_eq_true rfl⟩ (Nat.le_of_ble_eq_true rfl) dX8_readsNumber_1 hf (fun t5 M4 H1 o2 hw hn3 hf => ?_)
  refine k_bipush_48 F dX8_readsNumber_4 ?_
  refine k_bipush_57 F dX8_readsNumber_6 ?_
  refine clX8_110 F hw hl ⟨Nat.le_of_ble_eq_true rfl, Nat.le_of_ble_eq_true rfl⟩ (Nat.le_of_ble_eq_true rfl) dX8_readsNumber_8 (fun H6 o7 hw hn8 => ?_)
  refine b_if_ne F dX8_readsNumber_11 (tgt := 16) (by decide) hf (fun hc47 hf => ?_) (fun hc47 hf => ?_)
  · refine k_iconst_0 F dX8_readsNumber_14 ?_
    exact r_iret_w F hw rfl dX8_readsNumber_15 hf
  · refine lv_aload_n F.1 F.2.1 dX8_readsNumber_16 rfl (lv_at hl 0 rfl) ?_
    refine gX8_246 F hw rfl dX8_readsNumber_17 ?_
    refine lv_istore_n F.1 F.2.1 dX8_readsNumber_20 rfl hl (lv' := [(2, .int (M4 0 39)), (0, .ref (ad 0)), (1, .int v1)]) (Nat.le_of_ble_eq_true rfl) rfl (fun ls9 hl => ?_)
    refine k_iconst_0 F dX8_readsNumber_21 ?_
    refine lv_istore_n F.1 F.2.1 dX8_readsNumber_22 rfl hl (lv' := [(3, .int (0 : Int32)), (2, .int (M4 0 39)), (0, .ref (ad 0)), (1, .int v1)]) (Nat.le_of_ble_eq_true rfl) rfl (fun ls10 hl => ?_)
    refine lv_aload_n F.1 F.2.1 dX8_readsNumber_23 rfl (lv_at hl 2 rfl) ?_
    refine k_iconst_0 F dX8_readsNumber_24 ?_
    refine qX8_252 F hw rfl dX8_readsNumber_25 hf (fun M11 H12 o13 hw hf => ?_)
    obtain ⟨w33, M34, hq46, hf⟩ := bnd2_some hf
    refine wX8_readsNumber_L28 F FUEL v1 (M4 0 39) (0 : Int32) M11 _ _ _ (lv_sub hl [2, 3, 1, 0] rfl) hw w33 M34 hq46 (fun H35 o36 ls37 hl hw => ?_)
    refine lv_iload_n F.1 F.2.1 dX8_readsNumber_110 rfl (lv_at hl 0 rfl) ?_
    refine k_iconst_2 F dX8_readsNumber_111 ?_
    refine b_icmp_gt F dX8_readsNumber_112 (tgt := 123) (by decide) hf (fun hc45 hf => ?_) (fun hc45 hf => ?_)
    · refine lv_aload_n F.1 F.2.1 dX8_readsNumber_123 rfl (lv_at hl 1 rfl) ?_
      refine lv_iload_n F.1 F.2.1 dX8_readsNumber_124 rfl (lv_at hl 3 rfl) ?_
      refine qX8_246 F hw rfl dX8_readsNumber_125 hf (fun M38 H39 o40 hw hf => ?_)
      refine k_iconst_0 F dX8_readsNumber_128 ?_
      exact r_iret_w F hw rfl dX8_readsNumber_129 hf
    · refine lv_aload_n F.1 F.2.1 dX8_readsNumber_115 rfl (lv_at hl 1 rfl) ?_
      refine gX8_252 F hw rfl dX8_readsNumber_116 ?_
      refine lv_iload_n F.1 F.2.1 dX8_readsNumber_119 rfl (lv_at hl 2 rfl) ?_
      refine b_icmp_le F dX8_readsNumber_120 (tgt := 130) (by decide) hf (fun hc44 hf => ?_) (fun hc44 hf => ?_)
      · refine k_iconst_1 F dX8_readsNumber_130 ?_
        exact r_iret_w F hw rfl dX8_readsNumber_131 hf
      · refine lv_aload_n F.1 F.2.1 dX8_readsNumber_123 rfl (lv_at hl 1 rfl) ?_
        refine lv_iload_n F.1 F.2.1 dX8_readsNumber_124 rfl (lv_at hl 3 rfl) ?_
        refine qX8_246 F hw rfl dX8_readsNumber_125 hf (fun M41 H42 o43 hw hf => ?_)
        refine k_iconst_0 F dX8_readsNumber_128 ?_
        exact r_iret_w F hw rfl dX8_readsNumber_129 hf
theorem clX8_264 (F : Fx D cA RX8 cc nL ret p s m args meth c) (hw : Wd shM D cA ad H0 M H locs) (hl : lv_has ls nL lv) {v1 : Int32} (hR : 2 ≤ R.frames ∧ 45 ≤ R.locals) (hrm : (rest.map fun v => v.category).sum ≤ 8) (hd : decode cc pc = .ok (.invokevirtual 264, 3)) {α : Type} {K : Int32 → Mem → Option α} {res : α} (hf : bnd2 (fX8_readsNumber v1 M) K = some res) (kk : ∀ (t : Int32) (M1 : Mem) (H1 : Heap) (locs1 : List Loc), Wd shM D cA ad H0 M1 H1 locs1 → narrow .boolean (.int t) = .int t → K t M1 = some res → W p l e R s m args below meth c H1 locs1 0 0 Q (F0 m (pc + 3) ls (.int t :: rest))) : W p l e R s m args below meth c H locs 0 0 Q (F0 m pc ls (.int v1 :: .ref (ad 0) :: rest)) := by
  obtain ⟨t, M1, h1, h2⟩ := bnd2_some hf
  exact r_afti hw (r_runV (As := [.int v1]) F hw hl (cX8_readsNumber_ok l D cA ad M v1 t M1 h1) cz8 (show shM[0]? = some (.inr (8, sf8)) from rfl) cwX8_264 hR hrm hd) (fun H1 o1 hw1 hn => kk t M1 H1 o1 hw1 hn h2)
def fX8_readsSender (M : Mem) : Option (Int32 × Mem) :=
  bnd2 (fX8_readsOne (M 0 1) M) fun t5 M4 =>
  wr M4 0 41 (M4 0 40) fun M7 =>
  some (t5, M7)
set_option maxHeartbeats 4000000 in
set_option maxRecDepth 100000 in
theorem cX8_readsSender_ok (l : Launch) (D : va_G) (cA : Nat → ClassId) (ad : Nat → Nat) (M : Mem)  (r : Int32) (M' : Mem) (hf : fX8_readsSender M = some (r, M')) : Ctg l yX8_readsSender cX8_readsSender 2 (some .boolean) 2 44 shM D cA ad [.ref (ad 0)] M (Qzi shM D cA ad .boolean r M') := by
  refine ct_in (by decide) (Nat.le_of_ble_eq_true rfl) ?_
  intro p e s m below meth c ls F hl hw
  have hl : lv_has ls 2 [(0, .ref (ad 0))] := hl
  unfold fX8_readsSender at hf
  refine lv_aload_n F.1 F.2.1 dX8_readsSender_0 rfl (lv_at hl 0 rfl) ?_
  refine lv_aload_n F.1 F.2.1 dX8_readsSender_1 rfl (lv_at hl 0 rfl) ?_
  refine gX8_13 F hw rfl dX8_readsSender_2 ?_
  refine clX8_255 F hw hl ⟨Nat.le_of_ble_eq_true rfl, Nat.le_of_ble_eq_true rfl⟩ (Nat.le_of_ble_eq_true rfl) dX8_readsSender_5 hf (fun t5 M4 H1 o2 hw hn3 hf => ?_)
  refine lv_istore_n F.1 F.2.1 dX8_readsSender_8 rfl hl (lv' := [(1, .int t5), (0, .ref (ad 0))]) (Nat.le_of_ble_eq_true rfl) rfl (fun ls6 hl => ?_)
  refine lv_aload_n F.1 F.2.1 dX8_readsSender_9 rfl (lv_at hl 1 rfl) ?_
  refine lv_aload_n F.1 F.2.1 dX8_readsSender_10 rfl (lv_at hl 1 rfl) ?_
  refine gX8_252 F hw rfl dX8_readsSender_11 ?_
  refine qX8_258 F hw rfl dX8_readsSender_14 hf (fun M7 H8 o9 hw hf => ?_)
  refine lv_iload_n F.1 F.2.1 dX8_readsSender_17 rfl (lv_at hl 0 rfl) ?_
  exact r_iret_w F hw hn3 dX8_readsSender_18 hf
theorem clX8_270 (F : Fx D cA RX8 cc nL ret p s m args meth c) (hw : Wd shM D cA ad H0 M H locs) (hl : lv_has ls nL lv) (hR : 3 ≤ R.frames ∧ 65 ≤ R.locals) (hrm : (rest.map fun v => v.category).sum ≤ 8) (hd : decode cc pc = .ok (.invokevirtual 270, 3)) {α : Type} {K : Int32 → Mem → Option α} {res : α} (hf : bnd2 (fX8_readsSender M) K = some res) (kk : ∀ (t : Int32) (M1 : Mem) (H1 : Heap) (locs1 : List Loc), Wd shM D cA ad H0 M1 H1 locs1 → narrow .boolean (.int t) = .int t → K t M1 = some res → W p l e R s m args below meth c H1 locs1 0 0 Q (F0 m (pc + 3) ls (.int t :: rest))) : W p l e R s m args below meth c H locs 0 0 Q (F0 m pc ls (.ref (ad 0) :: rest)) := by
  obtain ⟨t, M1, h1, h2⟩ := bnd2_some hf
  exact r_afti hw (r_runV (As := []) F hw hl (cX8_readsSender_ok l D cA ad M t M1 h1) cz8 (show shM[0]? = some (.inr (8, sf8)) from rfl) cwX8_270 hR hrm hd) (fun H1 o1 hw1 hn => kk t M1 H1 o1 hw1 hn h2)
def fX8_readsGate (M : Mem) : Option (Int32 × Mem) :=
  bnd2 (fX8_readsOne (M 0 2) M) fun t5 M4 =>
  wr M4 0 42 (M4 0 40) fun M7 =>
  some (t5, M7)
set_option maxHeartbeats 4000000 in
set_option maxRecDepth 100000 in
theorem cX8_readsGate_ok (l : Launch) (D : va_G) (cA : Nat → ClassId) (ad : Nat → Nat) (M : Mem)  (r : Int32) (M' : Mem) (hf : fX8_readsGate M = some (r, M')) : Ctg l yX8_readsGate cX8_readsGate 2 (some .boolean) 2 44 shM D cA ad [.ref (ad 0)] M (Qzi shM D cA ad .boolean r M') := by
  refine ct_in (by decide) (Nat.le_of_ble_eq_true rfl) ?_
  intro p e s m below meth c ls F hl hw
  have hl : lv_has ls 2 [(0, .ref (ad 0))] := hl
  unfold fX8_readsGate at hf
  refine lv_aload_n F.1 F.2.1 dX8_readsGate_0 rfl (lv_at hl 0 rfl) ?_
  refine lv_aload_n F.1 F.2.1 dX8_readsGate_1 rfl (lv_at hl 0 rfl) ?_
  refine gX8_17 F hw rfl dX8_readsGate_2 ?_
  refine clX8_255 F hw hl ⟨Nat.le_of_ble_eq_true rfl, Nat.le_of_ble_eq_true rfl⟩ (Nat.le_of_ble_eq_true rfl) dX8_readsGate_5 hf (fun t5 M4 H1 o2 hw hn3 hf => ?_)
  refine lv_istore_n F.1 F.2.1 dX8_readsGate_8 rfl hl (lv' := [(1, .int t5), (0, .ref (ad 0))]) (Nat.le_of_ble_eq_true rfl) rfl (fun ls6 hl => ?_)
  refine lv_aload_n F.1 F.2.1 dX8_readsGate_9 rfl (lv_at hl 1 rfl) ?_
  refine lv_aload_n F.1 F.2.1 dX8_readsGate_10 rfl (lv_at hl 1 rfl) ?_
  refine gX8_252 F hw rfl dX8_readsGate_11 ?_
  refine qX8_261 F hw rfl dX8_readsGate_14 hf (fun M7 H8 o9 hw hf => ?_)
  refine lv_iload_n F.1 F.2.1 dX8_readsGate_17 rfl (lv_at hl 0 rfl) ?_
  exact r_iret_w F hw hn3 dX8_readsGate_18 hf
theorem clX8_276 (F : Fx D cA RX8 cc nL ret p s m args meth c) (hw : Wd shM D cA ad H0 M H locs) (hl : lv_has ls nL lv) (hR : 3 ≤ R.frames ∧ 65 ≤ R.locals) (hrm : (rest.map fun v => v.category).sum ≤ 8) (hd : decode cc pc = .ok (.invokevirtual 276, 3)) {α : Type} {K : Int32 → Mem → Option α} {res : α} (hf : bnd2 (fX8_readsGate M) K = some res) (kk : ∀ (t : Int32) (M1 : Mem) (H1 : Heap) (locs1 : List Loc), Wd shM D cA ad H0 M1 H1 locs1 → narrow .boolean (.int t) = .int t → K t M1 = some res → W p l e R s m args below meth c H1 locs1 0 0 Q (F0 m (pc + 3) ls (.int t :: rest))) : W p l e R s m args below meth c H locs 0 0 Q (F0 m pc ls (.ref (ad 0) :: rest)) := by
  obtain ⟨t, M1, h1, h2⟩ := bnd2_some hf
  exact r_afti hw (r_runV (As := []) F hw hl (cX8_readsGate_ok l D cA ad M t M1 h1) cz8 (show shM[0]? = some (.inr (8, sf8)) from rfl) cwX8_276 hR hrm hd) (fun H1 o1 hw1 hn => kk t M1 H1 o1 hw1 hn h2)
def fX8_readsThird (v1 : Int32) (M : Mem) : Option (Int32 × Mem) :=
  bnd2 (fX8_readsNumber v1 M) fun t5 M4 =>
  wr M4 0 43 (M4 0 40) fun M7 =>
  some (t5, M7)
set_option maxHeartbeats 4000000 in
set_option maxRecDepth 100000 in
theorem cX8_readsThird_ok (l : Launch) (D : va_G) (cA : Nat → ClassId) (ad : Nat → Nat) (M : Mem) (v1 : Int32) (r : Int32) (M' : Mem) (hf : fX8_readsThird v1 M = some (r, M')) : Ctg l yX8_readsThird cX8_readsThird 3 (some .boolean) 2 45 shM D cA ad [.ref (ad 0), .int v1] M (Qzi shM D cA ad .boolean r M') := by
  refine ct_in (by decide) (Nat.le_of_ble_eq_true rfl) ?_
  intro p e s m below meth c ls F hl hw
  have hl : lv_has ls 3 [(0, .ref (ad 0)), (1, .int v1)] := hl
  unfold fX8_readsThird at hf
  refine lv_aload_n F.1 F.2.1 dX8_readsThird_0 rfl (lv_at hl 0 rfl) ?_
  refine lv_iload_n F.1 F.2.1 dX8_readsThird_1 rfl (lv_at hl 1 rfl) ?_
  refine clX8_264 F hw hl ⟨Nat.le_of_ble_eq_true rfl, Nat.le_of_ble_eq_true rfl⟩ (Nat.le_of_ble_eq_true rfl) dX8_readsThird_2 hf (fun t5 M4 H1 o2 hw hn3 hf => ?_)
  refine lv_istore_n F.1 F.2.1 dX8_readsThird_5 rfl hl (lv' := [(2, .int t5), (0, .ref (ad 0)), (1, .int v1)]) (Nat.le_of_ble_eq_true rfl) rfl (fun ls6 hl => ?_)
  refine lv_aload_n F.1 F.2.1 dX8_readsThird_6 rfl (lv_at hl 1 rfl) ?_
  refine lv_aload_n F.1 F.2.1 dX8_readsThird_7 rfl (lv_at hl 1 rfl) ?_
  refine gX8_252 F hw rfl dX8_readsThird_8 ?_
  refine qX8_267 F hw rfl dX8_readsThird_11 hf (fun M7 H8 o9 hw hf => ?_)
  refine lv_iload_n F.1 F.2.1 dX8_readsThird_14 rfl (lv_at hl 0 rfl) ?_
  exact r_iret_w F hw hn3 dX8_readsThird_15 hf
theorem clX8_273 (F : Fx D cA RX8 cc nL ret p s m args meth c) (hw : Wd shM D cA ad H0 M H locs) (hl : lv_has ls nL lv) {v1 : Int32} (hR : 3 ≤ R.frames ∧ 67 ≤ R.locals) (hrm : (rest.map fun v => v.category).sum ≤ 8) (hd : decode cc pc = .ok (.invokevirtual 273, 3)) {α : Type} {K : Int32 → Mem → Option α} {res : α} (hf : bnd2 (fX8_readsThird v1 M) K = some res) (kk : ∀ (t : Int32) (M1 : Mem) (H1 : Heap) (locs1 : List Loc), Wd shM D cA ad H0 M1 H1 locs1 → narrow .boolean (.int t) = .int t → K t M1 = some res → W p l e R s m args below meth c H1 locs1 0 0 Q (F0 m (pc + 3) ls (.int t :: rest))) : W p l e R s m args below meth c H locs 0 0 Q (F0 m pc ls (.int v1 :: .ref (ad 0) :: rest)) := by
  obtain ⟨t, M1, h1, h2⟩ := bnd2_some hf
  exact r_afti hw (r_runV (As := [.int v1]) F hw hl (cX8_readsThird_ok l D cA ad M v1 t M1 h1) cz8 (show shM[0]? = some (.inr (8, sf8)) from rfl) cwX8_273 hR hrm hd) (fun H1 o1 hw1 hn => kk t M1 H1 o1 hw1 hn h2)
def fX8_readsNumbers (v1 : Int32) (M : Mem) : Option (Int32 × Mem) :=
  if v1 = (43 : Int32) then
    bnd2 (fX8_readsThird (99 : Int32) M) fun t6 M5 =>
    some (t6, M5)
  else if v1 = (98 : Int32) then
    bnd2 (fX8_readsGate M) fun t12 M11 =>
    if t12 = 0 then
      some ((0 : Int32), M11)
    else
      bnd2 (fX8_readsThird (40 : Int32) M11) fun t17 M16 =>
      if t17 = 0 then
        some ((0 : Int32), M16)
      else
        some ((1 : Int32), M16)
  else if v1 = (103 : Int32) then
    bnd2 (fX8_readsSender M) fun t25 M24 =>
    if t25 = 0 then
      some ((0 : Int32), M24)
    else
      bnd2 (fX8_readsGate M24) fun t30 M29 =>
      if t30 = 0 then
        some ((0 : Int32), M29)
      else
        bnd2 (fX8_readsThird (60 : Int32) M29) fun t35 M34 =>
        if t35 = 0 then
          some ((0 : Int32), M34)
        else
          some ((1 : Int32), M34)
  else if v1 = (114 : Int32) then
    bnd2 (fX8_readsSender M) fun t44 M43 =>
    some (t44, M43)
  else if v1 = (115 : Int32) then
    bnd2 (fX8_readsSender M) fun t50 M49 =>
    some (t50, M49)
  else if v1 = (122 : Int32) then
    bnd2 (fX8_readsSender M) fun t56 M55 =>
    some (t56, M55)
  else 
    bnd2 (fX8_readsGate M) fun t61 M60 =>
    if t61 = 0 then
      some ((0 : Int32), M60)
    else
      bnd2 (fX8_readsThird (5 : Int32) M60) fun t66 M65 =>
      if t66 = 0 then
        some ((0 : Int32), M65)
      else
        some ((1 : Int32), M65)
set_option maxHeartbeats 4000000 in
set_option maxRecDepth 100000 in
theorem cX8_readsNumbers_ok (l : Launch) (D : va_G) (cA : Nat → ClassId) (ad : Nat → Nat) (M : Mem) (v1 : Int32) (r : Int32) (M' : Mem) (hf : fX8_readsNumbers v1 M = some (r, M')) : Ctg l yX8_readsNumbers cX8_readsNumbers 2 (some .boolean) 3 67 shM D cA ad [.ref (ad 0), .int v1] M (Qzi shM D cA ad .boolean r M') := by
  refine ct_in (by decide) (Nat.le_of_ble_eq_true rfl) ?_
  intro p e s m below meth c ls F hl hw
  have hl : lv_has ls 2 [(0, .ref (ad 0)), (1, .int v1)] := hl
  unfold fX8_readsNumbers at hf
  refine lv_iload_n F.1 F.2.1 dX8_readsNumbers_0 rfl (lv_at hl 1 rfl) ?_
  by_cases hc1 : v1 = (43 : Int32)
  · rw [if_pos hc1] at hf
    refine lv_lookup F.1 F.2.1 dX8_readsNumbers_1 (tgt := 65) (off := 64) (by decide) (by rw [hc1]; decide) (by decide) ?_
    refine lv_aload_n F.1 F.2.1 dX8_readsNumbers_65 rfl (lv_at hl 0 rfl) ?_
    refine k_bipush_99 F dX8_readsNumbers_66 ?_
    refine clX8_273 F hw hl ⟨Nat.le_of_ble_eq_true rfl, Nat.le_of_ble_eq_true rfl⟩ (Nat.le_of_ble_eq_true rfl) dX8_readsNumbers_68 hf (fun t6 M5 H2 o3 hw hn4 hf => ?_)
    exact r_iret_w F hw hn4 dX8_readsNumbers_71 hf
  · rw [if_neg hc1] at hf
    by_cases hc7 : v1 = (98 : Int32)
    · rw [if_pos hc7] at hf
      refine lv_lookup F.1 F.2.1 dX8_readsNumbers_1 (tgt := 101) (off := 100) (by decide) (by rw [hc7]; decide) (by decide) ?_
      refine lv_aload_n F.1 F.2.1 dX8_readsNumbers_101 rfl (lv_at hl 0 rfl) ?_
      refine clX8_276 F hw hl ⟨Nat.le_of_ble_eq_true rfl, Nat.le_of_ble_eq_true rfl⟩ (Nat.le_of_ble_eq_true rfl) dX8_readsNumbers_102 hf (fun t12 M11 H8 o9 hw hn10 hf => ?_)
      refine b_if_eq F dX8_readsNumbers_105 (tgt := 121) (by decide) hf (fun hc19 hf => ?_) (fun hc19 hf => ?_)
      · refine k_iconst_0 F dX8_readsNumbers_121 ?_
        exact r_iret_w F hw rfl dX8_readsNumbers_122 hf
      · refine lv_aload_n F.1 F.2.1 dX8_readsNumbers_108 rfl (lv_at hl 0 rfl) ?_
        refine k_bipush_40 F dX8_readsNumbers_109 ?_
        refine clX8_273 F hw hl ⟨Nat.le_of_ble_eq_true rfl, Nat.le_of_ble_eq_true rfl⟩ (Nat.le_of_ble_eq_true rfl) dX8_readsNumbers_111 hf (fun t17 M16 H13 o14 hw hn15 hf => ?_)
        refine b_if_eq F dX8_readsNumbers_114 (tgt := 121) (by decide) hf (fun hc18 hf => ?_) (fun hc18 hf => ?_)
        · refine k_iconst_0 F dX8_readsNumbers_121 ?_
          exact r_iret_w F hw rfl dX8_readsNumbers_122 hf
        · refine k_iconst_1 F dX8_readsNumbers_117 ?_
          refine lv_goto F.1 F.2.1 dX8_readsNumbers_118 (tgt := 122) (by decide) ?_
          exact r_iret_w F hw rfl dX8_readsNumbers_122 hf
    · rw [if_neg hc7] at hf
      by_cases hc20 : v1 = (103 : Int32)
      · rw [if_pos hc20] at hf
        refine lv_lookup F.1 F.2.1 dX8_readsNumbers_1 (tgt := 72) (off := 71) (by decide) (by rw [hc20]; decide) (by decide) ?_
        refine lv_aload_n F.1 F.2.1 dX8_readsNumbers_72 rfl (lv_at hl 0 rfl) ?_
        refine clX8_270 F hw hl ⟨Nat.le_of_ble_eq_true rfl, Nat.le_of_ble_eq_true rfl⟩ (Nat.le_of_ble_eq_true rfl) dX8_readsNumbers_73 hf (fun t25 M24 H21 o22 hw hn23 hf => ?_)
        refine b_if_eq F dX8_readsNumbers_76 (tgt := 99) (by decide) hf (fun hc38 hf => ?_) (fun hc38 hf => ?_)
        · refine k_iconst_0 F dX8_readsNumbers_99 ?_
          exact r_iret_w F hw rfl dX8_readsNumbers_100 hf
        · refine lv_aload_n F.1 F.2.1 dX8_readsNumbers_79 rfl (lv_at hl 0 rfl) ?_
          refine clX8_276 F hw hl ⟨Nat.le_of_ble_eq_true rfl, Nat.le_of_ble_eq_true rfl⟩ (Nat.le_of_ble_eq_true rfl) dX8_readsNumbers_80 hf (fun t30 M29 H26 o27 hw hn28 hf => ?_)
          refine b_if_eq F dX8_readsNumbers_83 (tgt := 99) (by decide) hf (fun hc37 hf => ?_) (fun hc37 hf => ?_)
          · refine k_iconst_0 F dX8_readsNumbers_99 ?_
            exact r_iret_w F hw rfl dX8_readsNumbers_100 hf
          · refine lv_aload_n F.1 F.2.1 dX8_readsNumbers_86 rfl (lv_at hl 0 rfl) ?_
            refine k_bipush_60 F dX8_readsNumbers_87 ?_
            refine clX8_273 F hw hl ⟨Nat.le_of_ble_eq_true rfl, Nat.le_of_ble_eq_true rfl⟩ (Nat.le_of_ble_eq_true rfl) dX8_readsNumbers_89 hf (fun t35 M34 H31 o32 hw hn33 hf => ?_)
            refine b_if_eq F dX8_readsNumbers_92 (tgt := 99) (by decide) hf (fun hc36 hf => ?_) (fun hc36 hf => ?_)
            · refine k_iconst_0 F dX8_readsNumbers_99 ?_
              exact r_iret_w F hw rfl dX8_readsNumbers_100 hf
            · refine k_iconst_1 F dX8_readsNumbers_95 ?_
              refine lv_goto F.1 F.2.1 dX8_readsNumbers_96 (tgt := 100) (by decide) ?_
              exact r_iret_w F hw rfl dX8_readsNumbers_100 hf
      · rw [if_neg hc20] at hf
        by_cases hc39 : v1 = (114 : Int32)
        · rw [if_pos hc39] at hf
          refine lv_lookup F.1 F.2.1 dX8_readsNumbers_1 (tgt := 60) (off := 59) (by decide) (by rw [hc39]; decide) (by decide) ?_
          refine lv_aload_n F.1 F.2.1 dX8_readsNumbers_60 rfl (lv_at hl 0 rfl) ?_
          refine clX8_270 F hw hl ⟨Nat.le_of_ble_eq_true rfl, Nat.le_of_ble_eq_true rfl⟩ (Nat.le_of_ble_eq_true rfl) dX8_readsNumbers_61 hf (fun t44 M43 H40 o41 hw hn42 hf => ?_)
          exact r_iret_w F hw hn42 dX8_readsNumbers_64 hf
        · rw [if_neg hc39] at hf
          by_cases hc45 : v1 = (115 : Int32)
          · rw [if_pos hc45] at hf
            refine lv_lookup F.1 F.2.1 dX8_readsNumbers_1 (tgt := 60) (off := 59) (by decide) (by rw [hc45]; decide) (by decide) ?_
            refine lv_aload_n F.1 F.2.1 dX8_readsNumbers_60 rfl (lv_at hl 0 rfl) ?_
            refine clX8_270 F hw hl ⟨Nat.le_of_ble_eq_true rfl, Nat.le_of_ble_eq_true rfl⟩ (Nat.le_of_ble_eq_true rfl) dX8_readsNumbers_61 hf (fun t50 M49 H46 o47 hw hn48 hf => ?_)
            exact r_iret_w F hw hn48 dX8_readsNumbers_64 hf
          · rw [if_neg hc45] at hf
            by_cases hc51 : v1 = (122 : Int32)
            · rw [if_pos hc51] at hf
              refine lv_lookup F.1 F.2.1 dX8_readsNumbers_1 (tgt := 60) (off := 59) (by decide) (by rw [hc51]; decide) (by decide) ?_
              refine lv_aload_n F.1 F.2.1 dX8_readsNumbers_60 rfl (lv_at hl 0 rfl) ?_
              refine clX8_270 F hw hl ⟨Nat.le_of_ble_eq_true rfl, Nat.le_of_ble_eq_true rfl⟩ (Nat.le_of_ble_eq_true rfl) dX8_readsNumbers_61 hf (fun t56 M55 H52 o53 hw hn54 hf => ?_)
              exact r_iret_w F hw hn54 dX8_readsNumbers_64 hf
            · rw [if_neg hc51] at hf
              refine lv_lookup F.1 F.2.1 dX8_readsNumbers_1 (tgt := 123) (off := 122) (by decide) ((lv_osw hc1 (by decide)).trans ((lv_osw hc7 (by decide)).trans ((lv_osw hc20 (by decide)).trans ((lv_osw hc39 (by decide)).trans ((lv_osw hc45 (by decide)).trans ((lv_osw hc51 (by decide)).trans rfl)))))) (by decide) ?_
              refine lv_aload_n F.1 F.2.1 dX8_readsNumbers_123 rfl (lv_at hl 0 rfl) ?_
              refine clX8_276 F hw hl ⟨Nat.le_of_ble_eq_true rfl, Nat.le_of_ble_eq_true rfl⟩ (Nat.le_of_ble_eq_true rfl) dX8_readsNumbers_124 hf (fun t61 M60 H57 o58 hw hn59 hf => ?_)
              refine b_if_eq F dX8_readsNumbers_127 (tgt := 142) (by decide) hf (fun hc68 hf => ?_) (fun hc68 hf => ?_)
              · refine k_iconst_0 F dX8_readsNumbers_142 ?_
                exact r_iret_w F hw rfl dX8_readsNumbers_143 hf
              · refine lv_aload_n F.1 F.2.1 dX8_readsNumbers_130 rfl (lv_at hl 0 rfl) ?_
                refine k_iconst_5 F dX8_readsNumbers_131 ?_
                refine clX8_273 F hw hl ⟨Nat.le_of_ble_eq_true rfl, Nat.le_of_ble_eq_true rfl⟩ (Nat.le_of_ble_eq_true rfl) dX8_readsNumbers_132 hf (fun t66 M65 H62 o63 hw hn64 hf => ?_)
                refine b_if_eq F dX8_readsNumbers_135 (tgt := 142) (by decide) hf (fun hc67 hf => ?_) (fun hc67 hf => ?_)
                · refine k_iconst_0 F dX8_readsNumbers_142 ?_
                  exact r_iret_w F hw rfl dX8_readsNumbers_143 hf
                · refine k_iconst_1 F dX8_readsNumbers_138 ?_
                  refine lv_goto F.1 F.2.1 dX8_readsNumbers_139 (tgt := 143) (by decide) ?_
                  exact r_iret_w F hw rfl dX8_readsNumbers_143 hf
theorem clX8_282 (F : Fx D cA RX8 cc nL ret p s m args meth c) (hw : Wd shM D cA ad H0 M H locs) (hl : lv_has ls nL lv) {v1 : Int32} (hR : 4 ≤ R.frames ∧ 88 ≤ R.locals) (hrm : (rest.map fun v => v.category).sum ≤ 8) (hd : decode cc pc = .ok (.invokevirtual 282, 3)) {α : Type} {K : Int32 → Mem → Option α} {res : α} (hf : bnd2 (fX8_readsNumbers v1 M) K = some res) (kk : ∀ (t : Int32) (M1 : Mem) (H1 : Heap) (locs1 : List Loc), Wd shM D cA ad H0 M1 H1 locs1 → narrow .boolean (.int t) = .int t → K t M1 = some res → W p l e R s m args below meth c H1 locs1 0 0 Q (F0 m (pc + 3) ls (.int t :: rest))) : W p l e R s m args below meth c H locs 0 0 Q (F0 m pc ls (.int v1 :: .ref (ad 0) :: rest)) := by
  obtain ⟨t, M1, h1, h2⟩ := bnd2_some hf
  exact r_afti hw (r_runV (As := [.int v1]) F hw hl (cX8_readsNumbers_ok l D cA ad M v1 t M1 h1) cz8 (show shM[0]? = some (.inr (8, sf8)) from rfl) cwX8_282 hR hrm hd) (fun H1 o1 hw1 hn => kk t M1 H1 o1 hw1 hn h2)
def fX8_isOrder (v0 : Int32) : Int32 :=
  if v0 = (115 : Int32) then
    (1 : Int32)
  else
    if v0 = (122 : Int32) then
      (1 : Int32)
    else
      if v0 = (114 : Int32) then
        (1 : Int32)
      else
        if v0 = (43 : Int32) then
          (1 : Int32)
        else
          if v0 = (103 : Int32) then
            (1 : Int32)
          else
            if v0 = (98 : Int32) then
              (1 : Int32)
            else
              if v0 = (108 : Int32) then
                (1 : Int32)
              else
                (0 : Int32)
set_option maxHeartbeats 4000000 in
set_option maxRecDepth 100000 in
theorem cX8_isOrder_ok (l : Launch) (D : va_G) (cA : Nat → ClassId) (ad : Nat → Nat) (M : Mem) (v0 : Int32) (r : Int32) (hf : fX8_isOrder v0 = r) : Ctg l yX8_isOrder cX8_isOrder 1 (some .boolean) 0 0 shM D cA ad [.int v0] M (Qzi shM D cA ad .boolean r M) := by
  refine ct_in (by decide) (Nat.le_of_ble_eq_true rfl) ?_
  intro p e s m below meth c ls F hl hw
  have hl : lv_has ls 1 [(0, .int v0)] := hl
  unfold fX8_isOrder at hf
  refine lv_iload_n F.1 F.2.1 dX8_isOrder_0 rfl (lv_at hl 0 rfl) ?_
  refine k_bipush_115 F dX8_isOrder_1 ?_
  refine b_icmp_eq F dX8_isOrder_3 (tgt := 42) (by decide) hf (fun hc7 hf => ?_) (fun hc7 hf => ?_)
  · refine k_iconst_1 F dX8_isOrder_42 ?_
    refine lv_goto F.1 F.2.1 dX8_isOrder_43 (tgt := 47) (by decide) ?_
    exact r_iret_t F hw rfl dX8_isOrder_47 hf
  · refine lv_iload_n F.1 F.2.1 dX8_isOrder_6 rfl (lv_at hl 0 rfl) ?_
    refine k_bipush_122 F dX8_isOrder_7 ?_
    refine b_icmp_eq F dX8_isOrder_9 (tgt := 42) (by decide) hf (fun hc6 hf => ?_) (fun hc6 hf => ?_)
    · refine k_iconst_1 F dX8_isOrder_42 ?_
      refine lv_goto F.1 F.2.1 dX8_isOrder_43 (tgt := 47) (by decide) ?_
      exact r_iret_t F hw rfl dX8_isOrder_47 hf
    · refine lv_iload_n F.1 F.2.1 dX8_isOrder_12 rfl (lv_at hl 0 rfl) ?_
      refine k_bipush_114 F dX8_isOrder_13 ?_
      refine b_icmp_eq F dX8_isOrder_15 (tgt := 42) (by decide) hf (fun hc5 hf => ?_) (fun hc5 hf => ?_)
      · refine k_iconst_1 F dX8_isOrder_42 ?_
        refine lv_goto F.1 F.2.1 dX8_isOrder_43 (tgt := 47) (by decide) ?_
        exact r_iret_t F hw rfl dX8_isOrder_47 hf
      · refine lv_iload_n F.1 F.2.1 dX8_isOrder_18 rfl (lv_at hl 0 rfl) ?_
        refine k_bipush_43 F dX8_isOrder_19 ?_
        refine b_icmp_eq F dX8_isOrder_21 (tgt := 42) (by decide) hf (fun hc4 hf => ?_) (fun hc4 hf => ?_)
        · refine k_iconst_1 F dX8_isOrder_42 ?_
          refine lv_goto F.1 F.2.1 dX8_isOrder_43 (tgt := 47) (by decide) ?_
          exact r_iret_t F hw rfl dX8_isOrder_47 hf
        · refine lv_iload_n F.1 F.2.1 dX8_isOrder_24 rfl (lv_at hl 0 rfl) ?_
          refine k_bipush_103 F dX8_isOrder_25 ?_
          refine b_icmp_eq F dX8_isOrder_27 (tgt := 42) (by decide) hf (fun hc3 hf => ?_) (fun hc3 hf => ?_)
          · refine k_iconst_1 F dX8_isOrder_42 ?_
            refine lv_goto F.1 F.2.1 dX8_isOrder_43 (tgt := 47) (by decide) ?_
            exact r_iret_t F hw rfl dX8_isOrder_47 hf
          · refine lv_iload_n F.1 F.2.1 dX8_isOrder_30 rfl (lv_at hl 0 rfl) ?_
            refine k_bipush_98 F dX8_isOrder_31 ?_
            refine b_icmp_eq F dX8_isOrder_33 (tgt := 42) (by decide) hf (fun hc2 hf => ?_) (fun hc2 hf => ?_)
            · refine k_iconst_1 F dX8_isOrder_42 ?_
              refine lv_goto F.1 F.2.1 dX8_isOrder_43 (tgt := 47) (by decide) ?_
              exact r_iret_t F hw rfl dX8_isOrder_47 hf
            · refine lv_iload_n F.1 F.2.1 dX8_isOrder_36 rfl (lv_at hl 0 rfl) ?_
              refine k_bipush_108 F dX8_isOrder_37 ?_
              refine b_icmp_ne F dX8_isOrder_39 (tgt := 46) (by decide) hf (fun hc1 hf => ?_) (fun hc1 hf => ?_)
              · refine k_iconst_1 F dX8_isOrder_42 ?_
                refine lv_goto F.1 F.2.1 dX8_isOrder_43 (tgt := 47) (by decide) ?_
                exact r_iret_t F hw rfl dX8_isOrder_47 hf
              · refine k_iconst_0 F dX8_isOrder_46 ?_
                exact r_iret_t F hw rfl dX8_isOrder_47 hf
theorem clX8_279 (F : Fx D cA RX8 cc nL ret p s m args meth c) (hw : Wd shM D cA ad H0 M H locs) (hl : lv_has ls nL lv) {v0 : Int32} (hR : 1 ≤ R.frames ∧ 20 ≤ R.locals) (hrm : (rest.map fun v => v.category).sum ≤ 8) (hd : decode cc pc = .ok (.invokestatic 279, 3)) (kk : ∀ (H1 : Heap) (locs1 : List Loc), Wd shM D cA ad H0 M H1 locs1 → narrow .boolean (.int (fX8_isOrder v0)) = .int (fX8_isOrder v0) → W p l e R s m args below meth c H1 locs1 0 0 Q (F0 m (pc + 3) ls (.int (fX8_isOrder v0) :: rest))) : W p l e R s m args below meth c H locs 0 0 Q (F0 m pc ls (.int v0 :: rest)) :=
  r_afti hw (r_runS (As := [.int v0]) F hw hl (cX8_isOrder_ok l D cA ad M v0 (fX8_isOrder v0) rfl) cwX8_279 hR hrm hd) (fun H1 o1 hw1 hn => kk H1 o1 hw1 hn)
def fX8_readsOrder (v1 : Int32) (M : Mem) : Option (Int32 × Mem) :=
  if (fX8_isOrder v1) = 0 then
    some ((0 : Int32), M)
  else
    wr M 0 39 ((M 0 39) + (1 : Int32)) fun M4 =>
    bnd2 (fX8_readsNumbers v1 M4) fun t11 M10 =>
    if t11 = 0 then
      some ((0 : Int32), M10)
    else
      bnd2 (fX8_here M10) fun t16 M15 =>
      if t16 = (59 : Int32) then
        wr M15 0 39 ((M15 0 39) + (1 : Int32)) fun M17 =>
        some ((1 : Int32), M17)
      else
        some ((0 : Int32), M15)
set_option maxHeartbeats 4000000 in
set_option maxRecDepth 100000 in
theorem cX8_readsOrder_ok (l : Launch) (D : va_G) (cA : Nat → ClassId) (ad : Nat → Nat) (M : Mem) (v1 : Int32) (r : Int32) (M' : Mem) (hf : fX8_readsOrder v1 M = some (r, M')) : Ctg l yX8_readsOrder cX8_readsOrder 2 (some .boolean) 4 88 shM D cA ad [.ref (ad 0), .int v1] M (Qzi shM D cA ad .boolean r M') := by
  refine ct_in (by decide) (Nat.le_of_ble_eq_true rfl) ?_
  intro p e s m below meth c ls F hl hw
  have hl : lv_has ls 2 [(0, .ref (ad 0)), (1, .int v1)] := hl
  unfold fX8_readsOrder at hf
  refine lv_iload_n F.1 F.2.1 dX8_readsOrder_0 rfl (lv_at hl 1 rfl) ?_
  refine clX8_279 F hw hl ⟨Nat.le_of_ble_eq_true rfl, Nat.le_of_ble_eq_true rfl⟩ (Nat.le_of_ble_eq_true rfl) dX8_readsOrder_1 (fun H1 o2 hw hn3 => ?_)
  refine b_if_ne F dX8_readsOrder_4 (tgt := 9) (by decide) hf (fun hc22 hf => ?_) (fun hc22 hf => ?_)
  · refine k_iconst_0 F dX8_readsOrder_7 ?_
    exact r_iret_w F hw rfl dX8_readsOrder_8 hf
  · refine lv_aload_n F.1 F.2.1 dX8_readsOrder_9 rfl (lv_at hl 0 rfl) ?_
    refine lv_dup F.1 F.2.1 dX8_readsOrder_10 rfl ?_
    refine gX8_246 F hw rfl dX8_readsOrder_11 ?_
    refine k_iconst_1 F dX8_readsOrder_14 ?_
    refine lv_iadd F.1 F.2.1 dX8_readsOrder_15 ?_
    refine qX8_246 F hw rfl dX8_readsOrder_16 hf (fun M4 H5 o6 hw hf => ?_)
    refine lv_aload_n F.1 F.2.1 dX8_readsOrder_19 rfl (lv_at hl 0 rfl) ?_
    refine lv_iload_n F.1 F.2.1 dX8_readsOrder_20 rfl (lv_at hl 1 rfl) ?_
    refine clX8_282 F hw hl ⟨Nat.le_of_ble_eq_true rfl, Nat.le_of_ble_eq_true rfl⟩ (Nat.le_of_ble_eq_true rfl) dX8_readsOrder_21 hf (fun t11 M10 H7 o8 hw hn9 hf => ?_)
    refine b_if_eq F dX8_readsOrder_24 (tgt := 36) (by decide) hf (fun hc21 hf => ?_) (fun hc21 hf => ?_)
    · refine k_iconst_0 F dX8_readsOrder_36 ?_
      exact r_iret_w F hw rfl dX8_readsOrder_37 hf
    · refine lv_aload_n F.1 F.2.1 dX8_readsOrder_27 rfl (lv_at hl 0 rfl) ?_
      refine clX8_249 F hw hl ⟨Nat.le_of_ble_eq_true rfl, Nat.le_of_ble_eq_true rfl⟩ (Nat.le_of_ble_eq_true rfl) dX8_readsOrder_28 hf (fun t16 M15 H12 o13 hw hn14 hf => ?_)
      refine k_bipush_59 F dX8_readsOrder_31 ?_
      refine b_icmp_eq F dX8_readsOrder_33 (tgt := 38) (by decide) hf (fun hc20 hf => ?_) (fun hc20 hf => ?_)
      · refine lv_aload_n F.1 F.2.1 dX8_readsOrder_38 rfl (lv_at hl 0 rfl) ?_
        refine lv_dup F.1 F.2.1 dX8_readsOrder_39 rfl ?_
        refine gX8_246 F hw rfl dX8_readsOrder_40 ?_
        refine k_iconst_1 F dX8_readsOrder_43 ?_
        refine lv_iadd F.1 F.2.1 dX8_readsOrder_44 ?_
        refine qX8_246 F hw rfl dX8_readsOrder_45 hf (fun M17 H18 o19 hw hf => ?_)
        refine k_iconst_1 F dX8_readsOrder_48 ?_
        exact r_iret_w F hw rfl dX8_readsOrder_49 hf
      · refine k_iconst_0 F dX8_readsOrder_36 ?_
        exact r_iret_w F hw rfl dX8_readsOrder_37 hf
theorem clX8_285 (F : Fx D cA RX8 cc nL ret p s m args meth c) (hw : Wd shM D cA ad H0 M H locs) (hl : lv_has ls nL lv) {v1 : Int32} (hR : 5 ≤ R.frames ∧ 109 ≤ R.locals) (hrm : (rest.map fun v => v.category).sum ≤ 8) (hd : decode cc pc = .ok (.invokevirtual 285, 3)) {α : Type} {K : Int32 → Mem → Option α} {res : α} (hf : bnd2 (fX8_readsOrder v1 M) K = some res) (kk : ∀ (t : Int32) (M1 : Mem) (H1 : Heap) (locs1 : List Loc), Wd shM D cA ad H0 M1 H1 locs1 → narrow .boolean (.int t) = .int t → K t M1 = some res → W p l e R s m args below meth c H1 locs1 0 0 Q (F0 m (pc + 3) ls (.int t :: rest))) : W p l e R s m args below meth c H locs 0 0 Q (F0 m pc ls (.int v1 :: .ref (ad 0) :: rest)) := by
  obtain ⟨t, M1, h1, h2⟩ := bnd2_some hf
  exact r_afti hw (r_runV (As := [.int v1]) F hw hl (cX8_readsOrder_ok l D cA ad M v1 t M1 h1) cz8 (show shM[0]? = some (.inr (8, sf8)) from rfl) cwX8_285 hR hrm hd) (fun H1 o1 hw1 hn => kk t M1 H1 o1 hw1 hn h2)
def fX8_doesOrder (v1 : Int32) (M : Mem) : Option (Int32 × Mem) :=
  if v1 = (43 : Int32) then
    bnd2 (fX8_goBy (M 0 43) M) fun t6 M5 =>
    some (t6, M5)
  else if v1 = (98 : Int32) then
    ix (M 0 42) 4 <| wr M 3 (M 0 42).toNatClampNeg (M 0 43) fun M9 =>
    some ((0 : Int32), M9)
  else if v1 = (103 : Int32) then
    ix (((4 : Int32) * (M 0 41)) + (M 0 42)) 24 <| wr M 8 (((4 : Int32) * (M 0 41)) + (M 0 42)).toNatClampNeg (M 0 43) fun M14 =>
    some ((0 : Int32), M14)
  else if v1 = (114 : Int32) then
    ix (M 0 41) 6 <|
    if (M 13 (M 0 41).toNatClampNeg) = (-2 : Int32) then
      some ((0 : Int32), M)
    else
      if (fX8_isRoom M) = 0 then
        some ((0 : Int32), M)
      else
        bnd2 (fX8_goes (M 0 41) (M 13 (M 0 41).toNatClampNeg) M) fun t26 M25 =>
        some ((0 : Int32), M25)
  else if v1 = (115 : Int32) then
    if (fX8_isRoom M) = 0 then
      some ((0 : Int32), M)
    else
      bnd2 (fX8_sendsNow (M 0 41) M) fun t37 M36 =>
      some ((0 : Int32), M36)
  else if v1 = (122 : Int32) then
    bnd1 (fX8_comesNew (M 0 41) M) fun M43 =>
    some ((0 : Int32), M43)
  else 
    ix (M 0 42) 4 <| wr M 2 (M 0 42).toNatClampNeg (M 0 43) fun M45 =>
    some ((0 : Int32), M45)
set_option maxHeartbeats 4000000 in
set_option maxRecDepth 100000 in
theorem cX8_doesOrder_ok (l : Launch) (D : va_G) (cA : Nat → ClassId) (ad : Nat → Nat) (M : Mem) (v1 : Int32) (r : Int32) (M' : Mem) (hf : fX8_doesOrder v1 M = some (r, M')) : Ctg l yX8_doesOrder cX8_doesOrder 2 (some .int) 6 138 shM D cA ad [.ref (ad 0), .int v1] M (Qzi shM D cA ad .int r M') := by
  refine ct_in (by decide) (Nat.le_of_ble_eq_true rfl) ?_
  intro p e s m below meth c ls F hl hw
  have hl : lv_has ls 2 [(0, .ref (ad 0)), (1, .int v1)] := hl
  unfold fX8_doesOrder at hf
  refine lv_iload_n F.1 F.2.1 dX8_doesOrder_0 rfl (lv_at hl 1 rfl) ?_
  by_cases hc1 : v1 = (43 : Int32)
  · rw [if_pos hc1] at hf
    refine lv_lookup F.1 F.2.1 dX8_doesOrder_1 (tgt := 60) (off := 59) (by decide) (by rw [hc1]; decide) (by decide) ?_
    refine lv_aload_n F.1 F.2.1 dX8_doesOrder_60 rfl (lv_at hl 0 rfl) ?_
    refine lv_aload_n F.1 F.2.1 dX8_doesOrder_61 rfl (lv_at hl 0 rfl) ?_
    refine gX8_267 F hw rfl dX8_doesOrder_62 ?_
    refine clX8_231 F hw hl ⟨Nat.le_of_ble_eq_true rfl, Nat.le_of_ble_eq_true rfl⟩ (Nat.le_of_ble_eq_true rfl) dX8_doesOrder_65 hf (fun t6 M5 H2 o3 hw hn4 hf => ?_)
    exact r_iret_w F hw (vp_nar_int _) dX8_doesOrder_68 hf
  · rw [if_neg hc1] at hf
    by_cases hc7 : v1 = (98 : Int32)
    · rw [if_pos hc7] at hf
      refine lv_lookup F.1 F.2.1 dX8_doesOrder_1 (tgt := 160) (off := 159) (by decide) (by rw [hc7]; decide) (by decide) ?_
      refine lv_aload_n F.1 F.2.1 dX8_doesOrder_160 rfl (lv_at hl 0 rfl) ?_
      refine gX8_26 F hw rfl dX8_doesOrder_161 ?_
      refine lv_aload_n F.1 F.2.1 dX8_doesOrder_164 rfl (lv_at hl 0 rfl) ?_
      refine gX8_261 F hw rfl dX8_doesOrder_165 ?_
      refine lv_aload_n F.1 F.2.1 dX8_doesOrder_168 rfl (lv_at hl 0 rfl) ?_
      refine gX8_267 F hw rfl dX8_doesOrder_169 ?_
      refine r_iast F hw (n := 4) rfl dX8_doesOrder_172 hf (fun hi8 M9 H10 o11 hw hf => ?_)
      refine k_iconst_0 F dX8_doesOrder_173 ?_
      exact r_iret_w F hw (vp_nar_int _) dX8_doesOrder_174 hf
    · rw [if_neg hc7] at hf
      by_cases hc12 : v1 = (103 : Int32)
      · rw [if_pos hc12] at hf
        refine lv_lookup F.1 F.2.1 dX8_doesOrder_1 (tgt := 138) (off := 137) (by decide) (by rw [hc12]; decide) (by decide) ?_
        refine lv_aload_n F.1 F.2.1 dX8_doesOrder_138 rfl (lv_at hl 0 rfl) ?_
        refine gX8_41 F hw rfl dX8_doesOrder_139 ?_
        refine k_iconst_4 F dX8_doesOrder_142 ?_
        refine lv_aload_n F.1 F.2.1 dX8_doesOrder_143 rfl (lv_at hl 0 rfl) ?_
        refine gX8_258 F hw rfl dX8_doesOrder_144 ?_
        refine lv_imul F.1 F.2.1 dX8_doesOrder_147 ?_
        refine lv_aload_n F.1 F.2.1 dX8_doesOrder_148 rfl (lv_at hl 0 rfl) ?_
        refine gX8_261 F hw rfl dX8_doesOrder_149 ?_
        refine lv_iadd F.1 F.2.1 dX8_doesOrder_152 ?_
        refine lv_aload_n F.1 F.2.1 dX8_doesOrder_153 rfl (lv_at hl 0 rfl) ?_
        refine gX8_267 F hw rfl dX8_doesOrder_154 ?_
        refine r_iast F hw (n := 24) rfl dX8_doesOrder_157 hf (fun hi13 M14 H15 o16 hw hf => ?_)
        refine k_iconst_0 F dX8_doesOrder_158 ?_
        exact r_iret_w F hw (vp_nar_int _) dX8_doesOrder_159 hf
      · rw [if_neg hc12] at hf
        by_cases hc17 : v1 = (114 : Int32)
        · rw [if_pos hc17] at hf
          refine lv_lookup F.1 F.2.1 dX8_doesOrder_1 (tgt := 87) (off := 86) (by decide) (by rw [hc17]; decide) (by decide) ?_
          refine lv_aload_n F.1 F.2.1 dX8_doesOrder_87 rfl (lv_at hl 0 rfl) ?_
          refine gX8_56 F hw rfl dX8_doesOrder_88 ?_
          refine lv_aload_n F.1 F.2.1 dX8_doesOrder_91 rfl (lv_at hl 0 rfl) ?_
          refine gX8_258 F hw rfl dX8_doesOrder_92 ?_
          refine r_iald F hw (n := 6) rfl dX8_doesOrder_95 hf (fun hi18 hf => ?_)
          refine k_bipush_m2 F dX8_doesOrder_96 ?_
          refine b_icmp_eq F dX8_doesOrder_98 (tgt := 126) (by decide) hf (fun hc28 hf => ?_) (fun hc28 hf => ?_)
          · refine k_iconst_0 F dX8_doesOrder_126 ?_
            exact r_iret_w F hw (vp_nar_int _) dX8_doesOrder_127 hf
          · refine lv_aload_n F.1 F.2.1 dX8_doesOrder_101 rfl (lv_at hl 0 rfl) ?_
            refine clX8_167 F hw hl ⟨Nat.le_of_ble_eq_true rfl, Nat.le_of_ble_eq_true rfl⟩ (Nat.le_of_ble_eq_true rfl) dX8_doesOrder_102 (fun H19 o20 hw hn21 => ?_)
            refine b_if_eq F dX8_doesOrder_105 (tgt := 126) (by decide) hf (fun hc27 hf => ?_) (fun hc27 hf => ?_)
            · refine k_iconst_0 F dX8_doesOrder_126 ?_
              exact r_iret_w F hw (vp_nar_int _) dX8_doesOrder_127 hf
            · refine lv_aload_n F.1 F.2.1 dX8_doesOrder_108 rfl (lv_at hl 0 rfl) ?_
              refine lv_aload_n F.1 F.2.1 dX8_doesOrder_109 rfl (lv_at hl 0 rfl) ?_
              refine gX8_258 F hw rfl dX8_doesOrder_110 ?_
              refine lv_aload_n F.1 F.2.1 dX8_doesOrder_113 rfl (lv_at hl 0 rfl) ?_
              refine gX8_56 F hw rfl dX8_doesOrder_114 ?_
              refine lv_aload_n F.1 F.2.1 dX8_doesOrder_117 rfl (lv_at hl 0 rfl) ?_
              refine gX8_258 F hw rfl dX8_doesOrder_118 ?_
              refine r_iald0 F hw (n := 6) rfl dX8_doesOrder_121 hi18 ?_
              refine clX8_164 F hw hl ⟨Nat.le_of_ble_eq_true rfl, Nat.le_of_ble_eq_true rfl⟩ (Nat.le_of_ble_eq_true rfl) dX8_doesOrder_122 hf (fun t26 M25 H22 o23 hw hn24 hf => ?_)
              refine lv_pop F.1 F.2.1 dX8_doesOrder_125 rfl ?_
              refine k_iconst_0 F dX8_doesOrder_126 ?_
              exact r_iret_w F hw (vp_nar_int _) dX8_doesOrder_127 hf
        · rw [if_neg hc17] at hf
          by_cases hc29 : v1 = (115 : Int32)
          · rw [if_pos hc29] at hf
            refine lv_lookup F.1 F.2.1 dX8_doesOrder_1 (tgt := 69) (off := 68) (by decide) (by rw [hc29]; decide) (by decide) ?_
            refine lv_aload_n F.1 F.2.1 dX8_doesOrder_69 rfl (lv_at hl 0 rfl) ?_
            refine clX8_167 F hw hl ⟨Nat.le_of_ble_eq_true rfl, Nat.le_of_ble_eq_true rfl⟩ (Nat.le_of_ble_eq_true rfl) dX8_doesOrder_70 (fun H30 o31 hw hn32 => ?_)
            refine b_if_eq F dX8_doesOrder_73 (tgt := 85) (by decide) hf (fun hc38 hf => ?_) (fun hc38 hf => ?_)
            · refine k_iconst_0 F dX8_doesOrder_85 ?_
              exact r_iret_w F hw (vp_nar_int _) dX8_doesOrder_86 hf
            · refine lv_aload_n F.1 F.2.1 dX8_doesOrder_76 rfl (lv_at hl 0 rfl) ?_
              refine lv_aload_n F.1 F.2.1 dX8_doesOrder_77 rfl (lv_at hl 0 rfl) ?_
              refine gX8_258 F hw rfl dX8_doesOrder_78 ?_
              refine clX8_171 F hw hl ⟨Nat.le_of_ble_eq_true rfl, Nat.le_of_ble_eq_true rfl⟩ (Nat.le_of_ble_eq_true rfl) dX8_doesOrder_81 hf (fun t37 M36 H33 o34 hw hn35 hf => ?_)
              refine lv_pop F.1 F.2.1 dX8_doesOrder_84 rfl ?_
              refine k_iconst_0 F dX8_doesOrder_85 ?_
              exact r_iret_w F hw (vp_nar_int _) dX8_doesOrder_86 hf
          · rw [if_neg hc29] at hf
            by_cases hc39 : v1 = (122 : Int32)
            · rw [if_pos hc39] at hf
              refine lv_lookup F.1 F.2.1 dX8_doesOrder_1 (tgt := 128) (off := 127) (by decide) (by rw [hc39]; decide) (by decide) ?_
              refine lv_aload_n F.1 F.2.1 dX8_doesOrder_128 rfl (lv_at hl 0 rfl) ?_
              refine lv_aload_n F.1 F.2.1 dX8_doesOrder_129 rfl (lv_at hl 0 rfl) ?_
              refine gX8_258 F hw rfl dX8_doesOrder_130 ?_
              refine clX8_123 F hw hl ⟨Nat.le_of_ble_eq_true rfl, Nat.le_of_ble_eq_true rfl⟩ (Nat.le_of_ble_eq_true rfl) dX8_doesOrder_133 hf (fun M43 H40 o41 hw hf => ?_)
              refine k_iconst_0 F dX8_doesOrder_136 ?_
              exact r_iret_w F hw (vp_nar_int _) dX8_doesOrder_137 hf
            · rw [if_neg hc39] at hf
              refine lv_lookup F.1 F.2.1 dX8_doesOrder_1 (tgt := 175) (off := 174) (by decide) ((lv_osw hc1 (by decide)).trans ((lv_osw hc7 (by decide)).trans ((lv_osw hc12 (by decide)).trans ((lv_osw hc17 (by decide)).trans ((lv_osw hc29 (by decide)).trans ((lv_osw hc39 (by decide)).trans rfl)))))) (by decide) ?_
              refine lv_aload_n F.1 F.2.1 dX8_doesOrder_175 rfl (lv_at hl 0 rfl) ?_
              refine gX8_23 F hw rfl dX8_doesOrder_176 ?_
              refine lv_aload_n F.1 F.2.1 dX8_doesOrder_179 rfl (lv_at hl 0 rfl) ?_
              refine gX8_261 F hw rfl dX8_doesOrder_180 ?_
              refine lv_aload_n F.1 F.2.1 dX8_doesOrder_183 rfl (lv_at hl 0 rfl) ?_
              refine gX8_267 F hw rfl dX8_doesOrder_184 ?_
              refine r_iast F hw (n := 4) rfl dX8_doesOrder_187 hf (fun hi44 M45 H46 o47 hw hf => ?_)
              refine k_iconst_0 F dX8_doesOrder_188 ?_
              exact r_iret_w F hw (vp_nar_int _) dX8_doesOrder_189 hf
theorem clX8_288 (F : Fx D cA RX8 cc nL ret p s m args meth c) (hw : Wd shM D cA ad H0 M H locs) (hl : lv_has ls nL lv) {v1 : Int32} (hR : 7 ≤ R.frames ∧ 159 ≤ R.locals) (hrm : (rest.map fun v => v.category).sum ≤ 8) (hd : decode cc pc = .ok (.invokevirtual 288, 3)) {α : Type} {K : Int32 → Mem → Option α} {res : α} (hf : bnd2 (fX8_doesOrder v1 M) K = some res) (kk : ∀ (t : Int32) (M1 : Mem) (H1 : Heap) (locs1 : List Loc), Wd shM D cA ad H0 M1 H1 locs1 → narrow .int (.int t) = .int t → K t M1 = some res → W p l e R s m args below meth c H1 locs1 0 0 Q (F0 m (pc + 3) ls (.int t :: rest))) : W p l e R s m args below meth c H locs 0 0 Q (F0 m pc ls (.int v1 :: .ref (ad 0) :: rest)) := by
  obtain ⟨t, M1, h1, h2⟩ := bnd2_some hf
  exact r_afti hw (r_runV (As := [.int v1]) F hw hl (cX8_doesOrder_ok l D cA ad M v1 t M1 h1) cz8 (show shM[0]? = some (.inr (8, sf8)) from rfl) cwX8_288 hR hrm hd) (fun H1 o1 hw1 hn => kk t M1 H1 o1 hw1 hn h2)
def fX8_goesThrough_L23 : Nat → Int32 → Int32 → Mem → Option (Int32 × Mem)
  | 0, _, _, _ => none
  | n + 1, v1, v2, M =>
    bnd2 (fX8_here M) fun t14 M13 =>
    if t14 = (-1 : Int32) then
      some (v2, M13)
    else
      bnd2 (fX8_here M13) fun t19 M18 =>
      bnd2 (fX8_readsOrder t19 M18) fun t25 M24 =>
      if t25 = 0 then
        some (((-10 : Int32) - (M24 0 39)), M24)
      else
        if v1 = 0 then
          fX8_goesThrough_L23 n v1 (v2 + (0 : Int32)) M24
        else
          bnd2 (fX8_doesOrder t19 M24) fun t31 M30 =>
          fX8_goesThrough_L23 n v1 (v2 + t31) M30
def fX8_goesThrough (v1 : Int32) (M : Mem) : Option (Int32 × Mem) :=
  wr M 0 39 (0 : Int32) fun M1 =>
  bnd2 (fX8_here M1) fun t9 M8 =>
  if t9 = (-1 : Int32) then
    some (((-10 : Int32) - (M8 0 38)), M8)
  else
    fX8_goesThrough_L23 FUEL v1 (0 : Int32) M8
set_option maxHeartbeats 4000000 in
set_option maxRecDepth 100000 in
theorem wX8_goesThrough_L23 {p : Program} {l : Launch} {e : Env} {s : State} {m : MethodId} {args : Array Value} {below : List Frame} {meth : Method} {c : Code} {D : va_G} {cA : Nat → ClassId} {ad : Nat → Nat} {r : Int32} {M' : Mem} (F : Fx D cA RX8 cX8_goesThrough 4 (some .int) p s m args meth c) : ∀ (n : Nat) (v1 : Int32) (v2 : Int32) (M : Mem) (H : Heap) (o : List Loc) (ls : Array Slot), lv_has ls 4 [(0, .ref (ad 0)), (1, .int v1), (2, .int v2)] → Wd shM D cA ad s.heap M H o → fX8_goesThrough_L23 n v1 v2 M = some (r, M') → W p l e (rz 7 159) s m args below meth c H o 0 0 (MQ below (Qzi shM D cA ad .int r M') args s 0 0 (Az shM ad)) (F0 m 23 ls []) := by
  intro n
  induction n with
  | zero =>
    intro v1 v2 M H o ls hl hw hf
    cases hf
  | succ n ih =>
    intro v1 v2 M H o ls hl hw hf
    rw [fX8_goesThrough_L23] at hf
    refine lv_aload_n F.1 F.2.1 dX8_goesThrough_23 rfl (lv_at hl 0 rfl) ?_
    refine clX8_249 F hw hl ⟨Nat.le_of_ble_eq_true rfl, Nat.le_of_ble_eq_true rfl⟩ (Nat.le_of_ble_eq_true rfl) dX8_goesThrough_24 hf (fun t14 M13 H10 o11 hw hn12 hf => ?_)
    refine k_iconst_m1 F dX8_goesThrough_27 ?_
    refine b_icmp_eq F dX8_goesThrough_28 (tgt := 71) (by decide) hf (fun hc35 hf => ?_) (fun hc35 hf => ?_)
    · refine lv_iload_n F.1 F.2.1 dX8_goesThrough_71 rfl (lv_at hl 2 rfl) ?_
      exact r_iret_w F hw (vp_nar_int _) dX8_goesThrough_72 hf
    · refine lv_aload_n F.1 F.2.1 dX8_goesThrough_31 rfl (lv_at hl 0 rfl) ?_
      refine clX8_249 F hw hl ⟨Nat.le_of_ble_eq_true rfl, Nat.le_of_ble_eq_true rfl⟩ (Nat.le_of_ble_eq_true rfl) dX8_goesThrough_32 hf (fun t19 M18 H15 o16 hw hn17 hf => ?_)
      refine lv_istore_n F.1 F.2.1 dX8_goesThrough_35 rfl hl (lv' := [(3, .int t19), (0, .ref (ad 0)), (1, .int v1), (2, .int v2)]) (Nat.le_of_ble_eq_true rfl) rfl (fun ls20 hl => ?_)
      refine lv_aload_n F.1 F.2.1 dX8_goesThrough_36 rfl (lv_at hl 1 rfl) ?_
      refine lv_iload_n F.1 F.2.1 dX8_goesThrough_37 rfl (lv_at hl 0 rfl) ?_
      refine clX8_285 F hw hl ⟨Nat.le_of_ble_eq_true rfl, Nat.le_of_ble_eq_true rfl⟩ (Nat.le_of_ble_eq_true rfl) dX8_goesThrough_38 hf (fun t25 M24 H21 o22 hw hn23 hf => ?_)
      refine b_if_ne F dX8_goesThrough_41 (tgt := 52) (by decide) hf (fun hc34 hf => ?_) (fun hc34 hf => ?_)
      · refine k_bipush_m10 F dX8_goesThrough_44 ?_
        refine lv_aload_n F.1 F.2.1 dX8_goesThrough_46 rfl (lv_at hl 1 rfl) ?_
        refine gX8_246 F hw rfl dX8_goesThrough_47 ?_
        refine lv_isub F.1 F.2.1 dX8_goesThrough_50 ?_
        exact r_iret_w F hw (vp_nar_int _) dX8_goesThrough_51 hf
      · refine lv_iload_n F.1 F.2.1 dX8_goesThrough_52 rfl (lv_at hl 3 rfl) ?_
        refine lv_iload_n F.1 F.2.1 dX8_goesThrough_53 rfl (lv_at hl 2 rfl) ?_
        refine b_if_eq F dX8_goesThrough_54 (tgt := 65) (by decide) hf (fun hc33 hf => ?_) (fun hc33 hf => ?_)
        · refine k_iconst_0 F dX8_goesThrough_65 ?_
          refine lv_iadd F.1 F.2.1 dX8_goesThrough_66 ?_
          refine lv_istore_n F.1 F.2.1 dX8_goesThrough_67 rfl hl (lv' := [(2, .int (v2 + (0 : Int32))), (3, .int t19), (0, .ref (ad 0)), (1, .int v1)]) (Nat.le_of_ble_eq_true rfl) rfl (fun ls26 hl => ?_)
          refine lv_goto F.1 F.2.1 dX8_goesThrough_68 (tgt := 23) (by decide) ?_
          exact ih v1 (v2 + (0 : Int32)) M24 _ _ _ (lv_sub hl [2, 3, 0] rfl) hw hf
        · refine lv_aload_n F.1 F.2.1 dX8_goesThrough_57 rfl (lv_at hl 1 rfl) ?_
          refine lv_iload_n F.1 F.2.1 dX8_goesThrough_58 rfl (lv_at hl 0 rfl) ?_
          refine clX8_288 F hw hl ⟨Nat.le_of_ble_eq_true rfl, Nat.le_of_ble_eq_true rfl⟩ (Nat.le_of_ble_eq_true rfl) dX8_goesThrough_59 hf (fun t31 M30 H27 o28 hw hn29 hf => ?_)
          refine lv_goto F.1 F.2.1 dX8_goesThrough_62 (tgt := 66) (by decide) ?_
          refine lv_iadd F.1 F.2.1 dX8_goesThrough_66 ?_
          refine lv_istore_n F.1 F.2.1 dX8_goesThrough_67 rfl hl (lv' := [(2, .int (v2 + t31)), (3, .int t19), (0, .ref (ad 0)), (1, .int v1)]) (Nat.le_of_ble_eq_true rfl) rfl (fun ls32 hl => ?_)
          refine lv_goto F.1 F.2.1 dX8_goesThrough_68 (tgt := 23) (by decide) ?_
          exact ih v1 (v2 + t31) M30 _ _ _ (lv_sub hl [2, 3, 0] rfl) hw hf
set_option maxHeartbeats 4000000 in
set_option maxRecDepth 100000 in
theorem cX8_goesThrough_ok (l : Launch) (D : va_G) (cA : Nat → ClassId) (ad : Nat → Nat) (M : Mem) (v1 : Int32) (r : Int32) (M' : Mem) (hf : fX8_goesThrough v1 M = some (r, M')) : Ctg l yX8_goesThrough cX8_goesThrough 4 (some .int) 7 159 shM D cA ad [.ref (ad 0), .int v1] M (Qzi shM D cA ad .int r M') := by
  refine ct_in (by decide) (Nat.le_of_ble_eq_true rfl) ?_
  intro p e s m below meth c ls F hl hw
  have hl : lv_has ls 4 [(0, .ref (ad 0)), (1, .int v1)] := hl
  unfold fX8_goesThrough at hf
  refine lv_aload_n F.1 F.2.1 dX8_goesThrough_0 rfl (lv_at hl 0 rfl) ?_
  refine k_iconst_0 F dX8_goesThrough_1 ?_
  refine qX8_246 F hw rfl dX8_goesThrough_2 hf (fun M1 H2 o3 hw hf => ?_)
  refine k_iconst_0 F dX8_goesThrough_5 ?_
  refine lv_istore_n F.1 F.2.1 dX8_goesThrough_6 rfl hl (lv' := [(2, .int (0 : Int32)), (0, .ref (ad 0)), (1, .int v1)]) (Nat.le_of_ble_eq_true rfl) rfl (fun ls4 hl => ?_)
  refine lv_aload_n F.1 F.2.1 dX8_goesThrough_7 rfl (lv_at hl 1 rfl) ?_
  refine clX8_249 F hw hl ⟨Nat.le_of_ble_eq_true rfl, Nat.le_of_ble_eq_true rfl⟩ (Nat.le_of_ble_eq_true rfl) dX8_goesThrough_8 hf (fun t9 M8 H5 o6 hw hn7 hf => ?_)
  refine k_iconst_m1 F dX8_goesThrough_11 ?_
  refine b_icmp_ne F dX8_goesThrough_12 (tgt := 23) (by decide) hf (fun hc36 hf => ?_) (fun hc36 hf => ?_)
  · refine k_bipush_m10 F dX8_goesThrough_15 ?_
    refine lv_aload_n F.1 F.2.1 dX8_goesThrough_17 rfl (lv_at hl 1 rfl) ?_
    refine gX8_243 F hw rfl dX8_goesThrough_18 ?_
    refine lv_isub F.1 F.2.1 dX8_goesThrough_21 ?_
    exact r_iret_w F hw (vp_nar_int _) dX8_goesThrough_22 hf
  · exact wX8_goesThrough_L23 F FUEL v1 (0 : Int32) M8 _ _ _ (lv_sub hl [1, 2, 0] rfl) hw hf
theorem clX8_291 (F : Fx D cA RX8 cc nL ret p s m args meth c) (hw : Wd shM D cA ad H0 M H locs) (hl : lv_has ls nL lv) {v1 : Int32} (hR : 8 ≤ R.frames ∧ 182 ≤ R.locals) (hrm : (rest.map fun v => v.category).sum ≤ 8) (hd : decode cc pc = .ok (.invokevirtual 291, 3)) {α : Type} {K : Int32 → Mem → Option α} {res : α} (hf : bnd2 (fX8_goesThrough v1 M) K = some res) (kk : ∀ (t : Int32) (M1 : Mem) (H1 : Heap) (locs1 : List Loc), Wd shM D cA ad H0 M1 H1 locs1 → narrow .int (.int t) = .int t → K t M1 = some res → W p l e R s m args below meth c H1 locs1 0 0 Q (F0 m (pc + 3) ls (.int t :: rest))) : W p l e R s m args below meth c H locs 0 0 Q (F0 m pc ls (.int v1 :: .ref (ad 0) :: rest)) := by
  obtain ⟨t, M1, h1, h2⟩ := bnd2_some hf
  exact r_afti hw (r_runV (As := [.int v1]) F hw hl (cX8_goesThrough_ok l D cA ad M v1 t M1 h1) cz8 (show shM[0]? = some (.inr (8, sf8)) from rfl) cwX8_291 hR hrm hd) (fun H1 o1 hw1 hn => kk t M1 H1 o1 hw1 hn h2)
def fX8_does (M : Mem) : Option (Int32 × Mem) :=
  bnd2 (fX8_goesThrough (0 : Int32) M) fun t5 M4 =>
  if 0 ≤ t5 then
    bnd2 (fX8_goesThrough (1 : Int32) M4) fun t11 M10 =>
    some (t11, M10)
  else
    some (t5, M4)
set_option maxHeartbeats 4000000 in
set_option maxRecDepth 100000 in
theorem cX8_does_ok (l : Launch) (D : va_G) (cA : Nat → ClassId) (ad : Nat → Nat) (M : Mem)  (r : Int32) (M' : Mem) (hf : fX8_does M = some (r, M')) : Ctg l yX8_does cX8_does 2 (some .int) 8 182 shM D cA ad [.ref (ad 0)] M (Qzi shM D cA ad .int r M') := by
  refine ct_in (by decide) (Nat.le_of_ble_eq_true rfl) ?_
  intro p e s m below meth c ls F hl hw
  have hl : lv_has ls 2 [(0, .ref (ad 0))] := hl
  unfold fX8_does at hf
  refine lv_aload_n F.1 F.2.1 dX8_does_0 rfl (lv_at hl 0 rfl) ?_
  refine k_iconst_0 F dX8_does_1 ?_
  refine clX8_291 F hw hl ⟨Nat.le_of_ble_eq_true rfl, Nat.le_of_ble_eq_true rfl⟩ (Nat.le_of_ble_eq_true rfl) dX8_does_2 hf (fun t5 M4 H1 o2 hw hn3 hf => ?_)
  refine lv_istore_n F.1 F.2.1 dX8_does_5 rfl hl (lv' := [(1, .int t5), (0, .ref (ad 0))]) (Nat.le_of_ble_eq_true rfl) rfl (fun ls6 hl => ?_)
  refine lv_iload_n F.1 F.2.1 dX8_does_6 rfl (lv_at hl 0 rfl) ?_
  refine b_if_ge F dX8_does_7 (tgt := 14) (by decide) hf (fun hc12 hf => ?_) (fun hc12 hf => ?_)
  · refine lv_aload_n F.1 F.2.1 dX8_does_14 rfl (lv_at hl 1 rfl) ?_
    refine k_iconst_1 F dX8_does_15 ?_
    refine clX8_291 F hw hl ⟨Nat.le_of_ble_eq_true rfl, Nat.le_of_ble_eq_true rfl⟩ (Nat.le_of_ble_eq_true rfl) dX8_does_16 hf (fun t11 M10 H7 o8 hw hn9 hf => ?_)
    exact r_iret_w F hw (vp_nar_int _) dX8_does_19 hf
  · refine lv_iload_n F.1 F.2.1 dX8_does_10 rfl (lv_at hl 0 rfl) ?_
    refine lv_goto F.1 F.2.1 dX8_does_11 (tgt := 19) (by decide) ?_
    exact r_iret_w F hw (vp_nar_int _) dX8_does_19 hf
def fX8_toldBy (v1 : Int32) (M : Mem) : Option Int32 :=
  if (3 : Int32) ≤ v1 then
    if v1 = (3 : Int32) then
      some (M 0 38)
    else
      if v1 = (4 : Int32) then
        some (M 0 1)
      else
        if v1 = (5 : Int32) then
          some (M 0 2)
        else
          some (M 0 3)
  else
    ix v1 3 <|
    some (M 1 v1.toNatClampNeg)
set_option maxHeartbeats 4000000 in
set_option maxRecDepth 100000 in
theorem cX8_toldBy_ok (l : Launch) (D : va_G) (cA : Nat → ClassId) (ad : Nat → Nat) (M : Mem) (v1 : Int32) (r : Int32) (hf : fX8_toldBy v1 M = some r) : Ctg l yX8_toldBy cX8_toldBy 2 (some .int) 0 0 shM D cA ad [.ref (ad 0), .int v1] M (Qzi shM D cA ad .int r M) := by
  refine ct_in (by decide) (Nat.le_of_ble_eq_true rfl) ?_
  intro p e s m below meth c ls F hl hw
  have hl : lv_has ls 2 [(0, .ref (ad 0)), (1, .int v1)] := hl
  unfold fX8_toldBy at hf
  refine lv_iload_n F.1 F.2.1 dX8_toldBy_0 rfl (lv_at hl 1 rfl) ?_
  refine k_iconst_3 F dX8_toldBy_1 ?_
  refine b_icmp_ge F dX8_toldBy_2 (tgt := 14) (by decide) hf (fun hc5 hf => ?_) (fun hc5 hf => ?_)
  · refine lv_iload_n F.1 F.2.1 dX8_toldBy_14 rfl (lv_at hl 1 rfl) ?_
    refine k_iconst_3 F dX8_toldBy_15 ?_
    refine b_icmp_ne F dX8_toldBy_16 (tgt := 26) (by decide) hf (fun hc3 hf => ?_) (fun hc3 hf => ?_)
    · refine lv_aload_n F.1 F.2.1 dX8_toldBy_19 rfl (lv_at hl 0 rfl) ?_
      refine gX8_243 F hw rfl dX8_toldBy_20 ?_
      refine lv_goto F.1 F.2.1 dX8_toldBy_23 (tgt := 54) (by decide) ?_
      exact r_iret_o F hw (vp_nar_int _) dX8_toldBy_54 hf
    · refine lv_iload_n F.1 F.2.1 dX8_toldBy_26 rfl (lv_at hl 1 rfl) ?_
      refine k_iconst_4 F dX8_toldBy_27 ?_
      refine b_icmp_ne F dX8_toldBy_28 (tgt := 38) (by decide) hf (fun hc2 hf => ?_) (fun hc2 hf => ?_)
      · refine lv_aload_n F.1 F.2.1 dX8_toldBy_31 rfl (lv_at hl 0 rfl) ?_
        refine gX8_13 F hw rfl dX8_toldBy_32 ?_
        refine lv_goto F.1 F.2.1 dX8_toldBy_35 (tgt := 54) (by decide) ?_
        exact r_iret_o F hw (vp_nar_int _) dX8_toldBy_54 hf
      · refine lv_iload_n F.1 F.2.1 dX8_toldBy_38 rfl (lv_at hl 1 rfl) ?_
        refine k_iconst_5 F dX8_toldBy_39 ?_
        refine b_icmp_ne F dX8_toldBy_40 (tgt := 50) (by decide) hf (fun hc1 hf => ?_) (fun hc1 hf => ?_)
        · refine lv_aload_n F.1 F.2.1 dX8_toldBy_43 rfl (lv_at hl 0 rfl) ?_
          refine gX8_17 F hw rfl dX8_toldBy_44 ?_
          refine lv_goto F.1 F.2.1 dX8_toldBy_47 (tgt := 54) (by decide) ?_
          exact r_iret_o F hw (vp_nar_int _) dX8_toldBy_54 hf
        · refine lv_aload_n F.1 F.2.1 dX8_toldBy_50 rfl (lv_at hl 0 rfl) ?_
          refine gX8_20 F hw rfl dX8_toldBy_51 ?_
          exact r_iret_o F hw (vp_nar_int _) dX8_toldBy_54 hf
  · refine lv_aload_n F.1 F.2.1 dX8_toldBy_5 rfl (lv_at hl 0 rfl) ?_
    refine gX8_7 F hw rfl dX8_toldBy_6 ?_
    refine lv_iload_n F.1 F.2.1 dX8_toldBy_9 rfl (lv_at hl 1 rfl) ?_
    refine r_iald F hw (n := 3) rfl dX8_toldBy_10 hf (fun hi4 hf => ?_)
    refine lv_goto F.1 F.2.1 dX8_toldBy_11 (tgt := 54) (by decide) ?_
    exact r_iret_o F hw (vp_nar_int _) dX8_toldBy_54 hf
theorem clX8_295 (F : Fx D cA RX8 cc nL ret p s m args meth c) (hw : Wd shM D cA ad H0 M H locs) (hl : lv_has ls nL lv) {v1 : Int32} (hR : 1 ≤ R.frames ∧ 21 ≤ R.locals) (hrm : (rest.map fun v => v.category).sum ≤ 8) (hd : decode cc pc = .ok (.invokevirtual 295, 3)) {α : Type} {K : Int32 → Option α} {res : α} (hf : bnd1 (fX8_toldBy v1 M) K = some res) (kk : ∀ (t : Int32) (H1 : Heap) (locs1 : List Loc), Wd shM D cA ad H0 M H1 locs1 → narrow .int (.int t) = .int t → K t = some res → W p l e R s m args below meth c H1 locs1 0 0 Q (F0 m (pc + 3) ls (.int t :: rest))) : W p l e R s m args below meth c H locs 0 0 Q (F0 m pc ls (.int v1 :: .ref (ad 0) :: rest)) := by
  obtain ⟨t, h1, h2⟩ := bnd1_some hf
  exact r_afti hw (r_runV (As := [.int v1]) F hw hl (cX8_toldBy_ok l D cA ad M v1 t h1) cz8 (show shM[0]? = some (.inr (8, sf8)) from rfl) cwX8_295 hR hrm hd) (fun H1 o1 hw1 hn => kk t H1 o1 hw1 hn h2)
def fX8_told (v1 : Int32) (M : Mem) : Option (Int32 × Mem) :=
  if (fX8_in v1 (0 : Int32) (6 : Int32)) = 0 then
    bnd2 (fX8_bad M) fun t8 M7 =>
    some (t8, M7)
  else
    bnd1 (fX8_toldBy v1 M) fun t12 =>
    some (t12, M)
set_option maxHeartbeats 4000000 in
set_option maxRecDepth 100000 in
theorem cX8_told_ok (l : Launch) (D : va_G) (cA : Nat → ClassId) (ad : Nat → Nat) (M : Mem) (v1 : Int32) (r : Int32) (M' : Mem) (hf : fX8_told v1 M = some (r, M')) : Ctg l yX8_told cX8_told 2 (some .int) 1 22 shM D cA ad [.ref (ad 0), .int v1] M (Qzi shM D cA ad .int r M') := by
  refine ct_in (by decide) (Nat.le_of_ble_eq_true rfl) ?_
  intro p e s m below meth c ls F hl hw
  have hl : lv_has ls 2 [(0, .ref (ad 0)), (1, .int v1)] := hl
  unfold fX8_told at hf
  refine lv_iload_n F.1 F.2.1 dX8_told_0 rfl (lv_at hl 1 rfl) ?_
  refine k_iconst_0 F dX8_told_1 ?_
  refine k_bipush_6 F dX8_told_2 ?_
  refine clX8_110 F hw hl ⟨Nat.le_of_ble_eq_true rfl, Nat.le_of_ble_eq_true rfl⟩ (Nat.le_of_ble_eq_true rfl) dX8_told_4 (fun H1 o2 hw hn3 => ?_)
  refine b_if_eq F dX8_told_7 (tgt := 18) (by decide) hf (fun hc13 hf => ?_) (fun hc13 hf => ?_)
  · refine lv_aload_n F.1 F.2.1 dX8_told_18 rfl (lv_at hl 0 rfl) ?_
    refine clX8_127 F hw hl ⟨Nat.le_of_ble_eq_true rfl, Nat.le_of_ble_eq_true rfl⟩ (Nat.le_of_ble_eq_true rfl) dX8_told_19 hf (fun t8 M7 H4 o5 hw hn6 hf => ?_)
    exact r_iret_w F hw (vp_nar_int _) dX8_told_22 hf
  · refine lv_aload_n F.1 F.2.1 dX8_told_10 rfl (lv_at hl 0 rfl) ?_
    refine lv_iload_n F.1 F.2.1 dX8_told_11 rfl (lv_at hl 1 rfl) ?_
    refine clX8_295 F hw hl ⟨Nat.le_of_ble_eq_true rfl, Nat.le_of_ble_eq_true rfl⟩ (Nat.le_of_ble_eq_true rfl) dX8_told_12 hf (fun t12 H9 o10 hw hn11 hf => ?_)
    refine lv_goto F.1 F.2.1 dX8_told_15 (tgt := 22) (by decide) ?_
    exact r_iret_w F hw (vp_nar_int _) dX8_told_22 hf
def fX8_digest_L6 : Nat → Int64 → Int32 → Mem → Option (Int64)
  | 0, _, _, _ => none
  | n + 1, v1, v3, M =>
    if (7 : Int32) ≤ v3 then
      some v1
    else
      bnd1 (fX8_toldBy v3 M) fun t6 =>
      fX8_digest_L6 n (((31 : Int64) * v1) + t6.toInt64) (v3 + (1 : Int32)) M
def fX8_digest_L44 : Nat → Int64 → Int32 → Int32 → Mem → Option (Int64)
  | 0, _, _, _, _ => none
  | n + 1, v1, v3, v4, M =>
    if (8 : Int32) ≤ v4 then
      some v1
    else
      bnd1 (fX8_ofBy v3 v4 M) fun t19 =>
      fX8_digest_L44 n (((31 : Int64) * v1) + t19.toInt64) v3 (v4 + (1 : Int32)) M
def fX8_digest_L33 : Nat → Int64 → Int32 → Mem → Option (Int64)
  | 0, _, _, _ => none
  | n + 1, v1, v3, M =>
    if (M 0 1) ≤ v3 then
      some v1
    else
      bnd1 (fX8_digest_L44 FUEL v1 v3 (0 : Int32) M) fun w23 =>
      fX8_digest_L33 n w23 (v3 + (1 : Int32)) M
def fX8_digest_L91 : Nat → Int64 → Int32 → Int32 → Mem → Option (Int64)
  | 0, _, _, _, _ => none
  | n + 1, v1, v3, v4, M =>
    if (4 : Int32) ≤ v4 then
      some v1
    else
      bnd1 (fX8_atBy v3 v4 M) fun t39 =>
      fX8_digest_L91 n (((31 : Int64) * v1) + t39.toInt64) v3 (v4 + (1 : Int32)) M
def fX8_digest_L80 : Nat → Int64 → Int32 → Mem → Option (Int64)
  | 0, _, _, _ => none
  | n + 1, v1, v3, M =>
    if (M 0 2) ≤ v3 then
      some v1
    else
      bnd1 (fX8_digest_L91 FUEL v1 v3 (0 : Int32) M) fun w43 =>
      fX8_digest_L80 n w43 (v3 + (1 : Int32)) M
def fX8_digest_L126 : Nat → Int64 → Int32 → Mem → Option (Int64)
  | 0, _, _, _ => none
  | n + 1, v1, v3, M =>
    if (9 : Int32) ≤ v3 then
      some v1
    else
      bnd1 (fX8_allBy v3 M) fun t58 =>
      fX8_digest_L126 n (((31 : Int64) * v1) + t58.toInt64) (v3 + (1 : Int32)) M
def fX8_digest (M : Mem) : Option Int64 :=
  bnd1 (fX8_digest_L6 FUEL (2131 : Int64) (0 : Int32) M) fun w10 =>
  bnd1 (fX8_digest_L33 FUEL w10 (0 : Int32) M) fun w30 =>
  bnd1 (fX8_digest_L80 FUEL w30 (0 : Int32) M) fun w50 =>
  bnd1 (fX8_digest_L126 FUEL w50 (0 : Int32) M) fun w62 =>
  some w62
set_option maxHeartbeats 4000000 in
set_option maxRecDepth 100000 in
theorem wX8_digest_L6 {p : Program} {l : Launch} {e : Env} {s : State} {m : MethodId} {args : Array Value} {below : List Frame} {meth : Method} {c : Code} {D : va_G} {cA : Nat → ClassId} {ad : Nat → Nat} {Q : State → Prop} (F : Fx D cA RX8 cX8_digest 5 (some .long) p s m args meth c) : ∀ (n : Nat) (v1 : Int64) (v3 : Int32) (M : Mem) (H : Heap) (o : List Loc) (ls : Array Slot), lv_has ls 5 [(0, .ref (ad 0)), (1, .long v1), (3, .int v3)] → Wd shM D cA ad s.heap M H o → ∀ (u1 : Int64), fX8_digest_L6 n v1 v3 M = some u1 → (∀ (H1 : Heap) (o1 : List Loc) (ls1 : Array Slot), lv_has ls1 5 [(1, .long u1), (0, .ref (ad 0))] → Wd shM D cA ad s.heap M H1 o1 → W p l e (rz 1 22) s m args below meth c H1 o1 0 0 Q (F0 m 31 ls1 [])) → W p l e (rz 1 22) s m args below meth c H o 0 0 Q (F0 m 6 ls []) := by
  intro n
  induction n with
  | zero =>
    intro v1 v3 M H o ls hl hw u1 hf kk
    cases hf
  | succ n ih =>
    intro v1 v3 M H o ls hl hw u1 hf kk
    rw [fX8_digest_L6] at hf
    refine lv_iload_n F.1 F.2.1 dX8_digest_6 rfl (lv_at hl 2 rfl) ?_
    refine k_bipush_7 F dX8_digest_7 ?_
    refine b_icmp_ge F dX8_digest_9 (tgt := 31) (by decide) hf (fun hc9 hf => ?_) (fun hc9 hf => ?_)
    · cases hf
      exact kk _ _ _ (lv_sub hl [1, 0] rfl) hw
    · refine lv_ldc2 F.1 F.2.1 F.2.2.2.1 (F.2.2.2.2.1 _ kw_1119) dX8_digest_12 ?_
      refine lv_lload_n F.1 F.2.1 dX8_digest_15 rfl (lv_at hl 1 rfl) ?_
      refine lv_lmul F.1 F.2.1 dX8_digest_16 ?_
      refine lv_aload_n F.1 F.2.1 dX8_digest_17 rfl (lv_at hl 0 rfl) ?_
      refine lv_iload_n F.1 F.2.1 dX8_digest_18 rfl (lv_at hl 2 rfl) ?_
      refine clX8_295 F hw hl ⟨Nat.le_of_ble_eq_true rfl, Nat.le_of_ble_eq_true rfl⟩ (Nat.le_of_ble_eq_true rfl) dX8_digest_19 hf (fun t6 H3 o4 hw hn5 hf => ?_)
      refine lv_i2l F.1 F.2.1 dX8_digest_22 rfl ?_
      refine lv_ladd F.1 F.2.1 dX8_digest_23 ?_
      refine lv_lstore_n F.1 F.2.1 dX8_digest_24 rfl hl (lv' := [(1, .long (((31 : Int64) * v1) + t6.toInt64)), (0, .ref (ad 0)), (3, .int v3)]) (Nat.le_of_ble_eq_true rfl) rfl (fun ls7 hl => ?_)
      refine lv_iinc F.1 F.2.1 dX8_digest_25 hl (k := 2) rfl (ki_1 _) (lv' := [(3, .int (v3 + (1 : Int32))), (1, .long (((31 : Int64) * v1) + t6.toInt64)), (0, .ref (ad 0))]) (Nat.le_of_ble_eq_true rfl) rfl (fun ls8 hl => ?_)
      refine lv_goto F.1 F.2.1 dX8_digest_28 (tgt := 6) (by decide) ?_
      exact ih (((31 : Int64) * v1) + t6.toInt64) (v3 + (1 : Int32)) M _ _ _ (lv_sub hl [2, 1, 0] rfl) hw u1 hf kk
set_option maxHeartbeats 4000000 in
set_option maxRecDepth 100000 in
theorem wX8_digest_L44 {p : Program} {l : Launch} {e : Env} {s : State} {m : MethodId} {args : Array Value} {below : List Frame} {meth : Method} {c : Code} {D : va_G} {cA : Nat → ClassId} {ad : Nat → Nat} {Q : State → Prop} (F : Fx D cA RX8 cX8_digest 5 (some .long) p s m args meth c) : ∀ (n : Nat) (v1 : Int64) (v3 : Int32) (v4 : Int32) (M : Mem) (H : Heap) (o : List Loc) (ls : Array Slot), lv_has ls 5 [(0, .ref (ad 0)), (1, .long v1), (3, .int v3), (4, .int v4)] → Wd shM D cA ad s.heap M H o → ∀ (u1 : Int64), fX8_digest_L44 n v1 v3 v4 M = some u1 → (∀ (H1 : Heap) (o1 : List Loc) (ls1 : Array Slot), lv_has ls1 5 [(1, .long u1), (0, .ref (ad 0)), (3, .int v3)] → Wd shM D cA ad s.heap M H1 o1 → W p l e (rz 1 22) s m args below meth c H1 o1 0 0 Q (F0 m 72 ls1 [])) → W p l e (rz 1 22) s m args below meth c H o 0 0 Q (F0 m 44 ls []) := by
  intro n
  induction n with
  | zero =>
    intro v1 v3 v4 M H o ls hl hw u1 hf kk
    cases hf
  | succ n ih =>
    intro v1 v3 v4 M H o ls hl hw u1 hf kk
    rw [fX8_digest_L44] at hf
    refine lv_iload F.1 F.2.1 dX8_digest_44 (lv_at hl 3 rfl) ?_
    refine k_bipush_8 F dX8_digest_46 ?_
    refine b_icmp_ge F dX8_digest_48 (tgt := 72) (by decide) hf (fun hc22 hf => ?_) (fun hc22 hf => ?_)
    · cases hf
      exact kk _ _ _ (lv_sub hl [1, 0, 2] rfl) hw
    · refine lv_ldc2 F.1 F.2.1 F.2.2.2.1 (F.2.2.2.2.1 _ kw_1119) dX8_digest_51 ?_
      refine lv_lload_n F.1 F.2.1 dX8_digest_54 rfl (lv_at hl 1 rfl) ?_
      refine lv_lmul F.1 F.2.1 dX8_digest_55 ?_
      refine lv_aload_n F.1 F.2.1 dX8_digest_56 rfl (lv_at hl 0 rfl) ?_
      refine lv_iload_n F.1 F.2.1 dX8_digest_57 rfl (lv_at hl 2 rfl) ?_
      refine lv_iload F.1 F.2.1 dX8_digest_58 (lv_at hl 3 rfl) ?_
      refine clX8_234 F hw hl ⟨Nat.le_of_ble_eq_true rfl, Nat.le_of_ble_eq_true rfl⟩ (Nat.le_of_ble_eq_true rfl) dX8_digest_60 hf (fun t19 H16 o17 hw hn18 hf => ?_)
      refine lv_i2l F.1 F.2.1 dX8_digest_63 rfl ?_
      refine lv_ladd F.1 F.2.1 dX8_digest_64 ?_
      refine lv_lstore_n F.1 F.2.1 dX8_digest_65 rfl hl (lv' := [(1, .long (((31 : Int64) * v1) + t19.toInt64)), (0, .ref (ad 0)), (3, .int v3), (4, .int v4)]) (Nat.le_of_ble_eq_true rfl) rfl (fun ls20 hl => ?_)
      refine lv_iinc F.1 F.2.1 dX8_digest_66 hl (k := 3) rfl (ki_1 _) (lv' := [(4, .int (v4 + (1 : Int32))), (1, .long (((31 : Int64) * v1) + t19.toInt64)), (0, .ref (ad 0)), (3, .int v3)]) (Nat.le_of_ble_eq_true rfl) rfl (fun ls21 hl => ?_)
      refine lv_goto F.1 F.2.1 dX8_digest_69 (tgt := 44) (by decide) ?_
      exact ih (((31 : Int64) * v1) + t19.toInt64) v3 (v4 + (1 : Int32)) M _ _ _ (lv_sub hl [2, 1, 3, 0] rfl) hw u1 hf kk
set_option maxHeartbeats 4000000 in
set_option maxRecDepth 100000 in
theorem wX8_digest_L33 {p : Program} {l : Launch} {e : Env} {s : State} {m : MethodId} {args : Array Value} {below : List Frame} {meth : Method} {c : Code} {D : va_G} {cA : Nat → ClassId} {ad : Nat → Nat} {Q : State → Prop} (F : Fx D cA RX8 cX8_digest 5 (some .long) p s m args meth c) : ∀ (n : Nat) (v1 : Int64) (v3 : Int32) (M : Mem) (H : Heap) (o : List Loc) (ls : Array Slot), lv_has ls 5 [(0, .ref (ad 0)), (1, .long v1), (3, .int v3)] → Wd shM D cA ad s.heap M H o → ∀ (u1 : Int64), fX8_digest_L33 n v1 v3 M = some u1 → (∀ (H1 : Heap) (o1 : List Loc) (ls1 : Array Slot), lv_has ls1 5 [(1, .long u1), (0, .ref (ad 0))] → Wd shM D cA ad s.heap M H1 o1 → W p l e (rz 1 22) s m args below meth c H1 o1 0 0 Q (F0 m 78 ls1 [])) → W p l e (rz 1 22) s m args below meth c H o 0 0 Q (F0 m 33 ls []) := by
  intro n
  induction n with
  | zero =>
    intro v1 v3 M H o ls hl hw u1 hf kk
    cases hf
  | succ n ih =>
    intro v1 v3 M H o ls hl hw u1 hf kk
    rw [fX8_digest_L33] at hf
    refine lv_iload_n F.1 F.2.1 dX8_digest_33 rfl (lv_at hl 2 rfl) ?_
    refine lv_aload_n F.1 F.2.1 dX8_digest_34 rfl (lv_at hl 0 rfl) ?_
    refine gX8_13 F hw rfl dX8_digest_35 ?_
    refine b_icmp_ge F dX8_digest_38 (tgt := 78) (by decide) hf (fun hc29 hf => ?_) (fun hc29 hf => ?_)
    · cases hf
      exact kk _ _ _ (lv_sub hl [1, 0] rfl) hw
    · refine k_iconst_0 F dX8_digest_41 ?_
      refine lv_istore F.1 F.2.1 dX8_digest_42 hl (lv' := [(4, .int (0 : Int32)), (0, .ref (ad 0)), (1, .long v1), (3, .int v3)]) (Nat.le_of_ble_eq_true rfl) rfl (fun ls15 hl => ?_)
      obtain ⟨w23, hq28, hf⟩ := bnd1_some hf
      refine wX8_digest_L44 F FUEL v1 v3 (0 : Int32) M _ _ _ (lv_sub hl [1, 2, 3, 0] rfl) hw w23 hq28 (fun H24 o25 ls26 hl hw => ?_)
      refine lv_iinc F.1 F.2.1 dX8_digest_72 hl (k := 2) rfl (ki_1 _) (lv' := [(3, .int (v3 + (1 : Int32))), (1, .long w23), (0, .ref (ad 0))]) (Nat.le_of_ble_eq_true rfl) rfl (fun ls27 hl => ?_)
      refine lv_goto F.1 F.2.1 dX8_digest_75 (tgt := 33) (by decide) ?_
      exact ih w23 (v3 + (1 : Int32)) M _ _ _ (lv_sub hl [2, 1, 0] rfl) hw u1 hf kk
set_option maxHeartbeats 4000000 in
set_option maxRecDepth 100000 in
theorem wX8_digest_L91 {p : Program} {l : Launch} {e : Env} {s : State} {m : MethodId} {args : Array Value} {below : List Frame} {meth : Method} {c : Code} {D : va_G} {cA : Nat → ClassId} {ad : Nat → Nat} {Q : State → Prop} (F : Fx D cA RX8 cX8_digest 5 (some .long) p s m args meth c) : ∀ (n : Nat) (v1 : Int64) (v3 : Int32) (v4 : Int32) (M : Mem) (H : Heap) (o : List Loc) (ls : Array Slot), lv_has ls 5 [(0, .ref (ad 0)), (1, .long v1), (3, .int v3), (4, .int v4)] → Wd shM D cA ad s.heap M H o → ∀ (u1 : Int64), fX8_digest_L91 n v1 v3 v4 M = some u1 → (∀ (H1 : Heap) (o1 : List Loc) (ls1 : Array Slot), lv_has ls1 5 [(1, .long u1), (0, .ref (ad 0)), (3, .int v3)] → Wd shM D cA ad s.heap M H1 o1 → W p l e (rz 1 22) s m args below meth c H1 o1 0 0 Q (F0 m 118 ls1 [])) → W p l e (rz 1 22) s m args below meth c H o 0 0 Q (F0 m 91 ls []) := by
  intro n
  induction n with
  | zero =>
    intro v1 v3 v4 M H o ls hl hw u1 hf kk
    cases hf
  | succ n ih =>
    intro v1 v3 v4 M H o ls hl hw u1 hf kk
    rw [fX8_digest_L91] at hf
    refine lv_iload F.1 F.2.1 dX8_digest_91 (lv_at hl 3 rfl) ?_
    refine k_iconst_4 F dX8_digest_93 ?_
    refine b_icmp_ge F dX8_digest_94 (tgt := 118) (by decide) hf (fun hc42 hf => ?_) (fun hc42 hf => ?_)
    · cases hf
      exact kk _ _ _ (lv_sub hl [1, 0, 2] rfl) hw
    · refine lv_ldc2 F.1 F.2.1 F.2.2.2.1 (F.2.2.2.2.1 _ kw_1119) dX8_digest_97 ?_
      refine lv_lload_n F.1 F.2.1 dX8_digest_100 rfl (lv_at hl 1 rfl) ?_
      refine lv_lmul F.1 F.2.1 dX8_digest_101 ?_
      refine lv_aload_n F.1 F.2.1 dX8_digest_102 rfl (lv_at hl 0 rfl) ?_
      refine lv_iload_n F.1 F.2.1 dX8_digest_103 rfl (lv_at hl 2 rfl) ?_
      refine lv_iload F.1 F.2.1 dX8_digest_104 (lv_at hl 3 rfl) ?_
      refine clX8_237 F hw hl ⟨Nat.le_of_ble_eq_true rfl, Nat.le_of_ble_eq_true rfl⟩ (Nat.le_of_ble_eq_true rfl) dX8_digest_106 hf (fun t39 H36 o37 hw hn38 hf => ?_)
      refine lv_i2l F.1 F.2.1 dX8_digest_109 rfl ?_
      refine lv_ladd F.1 F.2.1 dX8_digest_110 ?_
      refine lv_lstore_n F.1 F.2.1 dX8_digest_111 rfl hl (lv' := [(1, .long (((31 : Int64) * v1) + t39.toInt64)), (0, .ref (ad 0)), (3, .int v3), (4, .int v4)]) (Nat.le_of_ble_eq_true rfl) rfl (fun ls40 hl => ?_)
      refine lv_iinc F.1 F.2.1 dX8_digest_112 hl (k := 3) rfl (ki_1 _) (lv' := [(4, .int (v4 + (1 : Int32))), (1, .long (((31 : Int64) * v1) + t39.toInt64)), (0, .ref (ad 0)), (3, .int v3)]) (Nat.le_of_ble_eq_true rfl) rfl (fun ls41 hl => ?_)
      refine lv_goto F.1 F.2.1 dX8_digest_115 (tgt := 91) (by decide) ?_
      exact ih (((31 : Int64) * v1) + t39.toInt64) v3 (v4 + (1 : Int32)) M _ _ _ (lv_sub hl [2, 1, 3, 0] rfl) hw u1 hf kk
set_option maxHeartbeats 4000000 in
set_option maxRecDepth 100000 in
theorem wX8_digest_L80 {p : Program} {l : Launch} {e : Env} {s : State} {m : MethodId} {args : Array Value} {below : List Frame} {meth : Method} {c : Code} {D : va_G} {cA : Nat → ClassId} {ad : Nat → Nat} {Q : State → Prop} (F : Fx D cA RX8 cX8_digest 5 (some .long) p s m args meth c) : ∀ (n : Nat) (v1 : Int64) (v3 : Int32) (M : Mem) (H : Heap) (o : List Loc) (ls : Array Slot), lv_has ls 5 [(0, .ref (ad 0)), (1, .long v1), (3, .int v3)] → Wd shM D cA ad s.heap M H o → ∀ (u1 : Int64), fX8_digest_L80 n v1 v3 M = some u1 → (∀ (H1 : Heap) (o1 : List Loc) (ls1 : Array Slot), lv_has ls1 5 [(1, .long u1), (0, .ref (ad 0))] → Wd shM D cA ad s.heap M H1 o1 → W p l e (rz 1 22) s m args below meth c H1 o1 0 0 Q (F0 m 124 ls1 [])) → W p l e (rz 1 22) s m args below meth c H o 0 0 Q (F0 m 80 ls []) := by
  intro n
  induction n with
  | zero =>
    intro v1 v3 M H o ls hl hw u1 hf kk
    cases hf
  | succ n ih =>
    intro v1 v3 M H o ls hl hw u1 hf kk
    rw [fX8_digest_L80] at hf
    refine lv_iload_n F.1 F.2.1 dX8_digest_80 rfl (lv_at hl 2 rfl) ?_
    refine lv_aload_n F.1 F.2.1 dX8_digest_81 rfl (lv_at hl 0 rfl) ?_
    refine gX8_17 F hw rfl dX8_digest_82 ?_
    refine b_icmp_ge F dX8_digest_85 (tgt := 124) (by decide) hf (fun hc49 hf => ?_) (fun hc49 hf => ?_)
    · cases hf
      exact kk _ _ _ (lv_sub hl [1, 0] rfl) hw
    · refine k_iconst_0 F dX8_digest_88 ?_
      refine lv_istore F.1 F.2.1 dX8_digest_89 hl (lv' := [(4, .int (0 : Int32)), (0, .ref (ad 0)), (1, .long v1), (3, .int v3)]) (Nat.le_of_ble_eq_true rfl) rfl (fun ls35 hl => ?_)
      obtain ⟨w43, hq48, hf⟩ := bnd1_some hf
      refine wX8_digest_L91 F FUEL v1 v3 (0 : Int32) M _ _ _ (lv_sub hl [1, 2, 3, 0] rfl) hw w43 hq48 (fun H44 o45 ls46 hl hw => ?_)
      refine lv_iinc F.1 F.2.1 dX8_digest_118 hl (k := 2) rfl (ki_1 _) (lv' := [(3, .int (v3 + (1 : Int32))), (1, .long w43), (0, .ref (ad 0))]) (Nat.le_of_ble_eq_true rfl) rfl (fun ls47 hl => ?_)
      refine lv_goto F.1 F.2.1 dX8_digest_121 (tgt := 80) (by decide) ?_
      exact ih w43 (v3 + (1 : Int32)) M _ _ _ (lv_sub hl [2, 1, 0] rfl) hw u1 hf kk
set_option maxHeartbeats 4000000 in
set_option maxRecDepth 100000 in
theorem wX8_digest_L126 {p : Program} {l : Launch} {e : Env} {s : State} {m : MethodId} {args : Array Value} {below : List Frame} {meth : Method} {c : Code} {D : va_G} {cA : Nat → ClassId} {ad : Nat → Nat} {Q : State → Prop} (F : Fx D cA RX8 cX8_digest 5 (some .long) p s m args meth c) : ∀ (n : Nat) (v1 : Int64) (v3 : Int32) (M : Mem) (H : Heap) (o : List Loc) (ls : Array Slot), lv_has ls 5 [(0, .ref (ad 0)), (1, .long v1), (3, .int v3)] → Wd shM D cA ad s.heap M H o → ∀ (u1 : Int64), fX8_digest_L126 n v1 v3 M = some u1 → (∀ (H1 : Heap) (o1 : List Loc) (ls1 : Array Slot), lv_has ls1 5 [(1, .long u1)] → Wd shM D cA ad s.heap M H1 o1 → W p l e (rz 1 22) s m args below meth c H1 o1 0 0 Q (F0 m 151 ls1 [])) → W p l e (rz 1 22) s m args below meth c H o 0 0 Q (F0 m 126 ls []) := by
  intro n
  induction n with
  | zero =>
    intro v1 v3 M H o ls hl hw u1 hf kk
    cases hf
  | succ n ih =>
    intro v1 v3 M H o ls hl hw u1 hf kk
    rw [fX8_digest_L126] at hf
    refine lv_iload_n F.1 F.2.1 dX8_digest_126 rfl (lv_at hl 2 rfl) ?_
    refine k_bipush_9 F dX8_digest_127 ?_
    refine b_icmp_ge F dX8_digest_129 (tgt := 151) (by decide) hf (fun hc61 hf => ?_) (fun hc61 hf => ?_)
    · cases hf
      exact kk _ _ _ (lv_sub hl [1] rfl) hw
    · refine lv_ldc2 F.1 F.2.1 F.2.2.2.1 (F.2.2.2.2.1 _ kw_1119) dX8_digest_132 ?_
      refine lv_lload_n F.1 F.2.1 dX8_digest_135 rfl (lv_at hl 1 rfl) ?_
      refine lv_lmul F.1 F.2.1 dX8_digest_136 ?_
      refine lv_aload_n F.1 F.2.1 dX8_digest_137 rfl (lv_at hl 0 rfl) ?_
      refine lv_iload_n F.1 F.2.1 dX8_digest_138 rfl (lv_at hl 2 rfl) ?_
      refine clX8_240 F hw hl ⟨Nat.le_of_ble_eq_true rfl, Nat.le_of_ble_eq_true rfl⟩ (Nat.le_of_ble_eq_true rfl) dX8_digest_139 hf (fun t58 H55 o56 hw hn57 hf => ?_)
      refine lv_i2l F.1 F.2.1 dX8_digest_142 rfl ?_
      refine lv_ladd F.1 F.2.1 dX8_digest_143 ?_
      refine lv_lstore_n F.1 F.2.1 dX8_digest_144 rfl hl (lv' := [(1, .long (((31 : Int64) * v1) + t58.toInt64)), (0, .ref (ad 0)), (3, .int v3)]) (Nat.le_of_ble_eq_true rfl) rfl (fun ls59 hl => ?_)
      refine lv_iinc F.1 F.2.1 dX8_digest_145 hl (k := 2) rfl (ki_1 _) (lv' := [(3, .int (v3 + (1 : Int32))), (1, .long (((31 : Int64) * v1) + t58.toInt64)), (0, .ref (ad 0))]) (Nat.le_of_ble_eq_true rfl) rfl (fun ls60 hl => ?_)
      refine lv_goto F.1 F.2.1 dX8_digest_148 (tgt := 126) (by decide) ?_
      exact ih (((31 : Int64) * v1) + t58.toInt64) (v3 + (1 : Int32)) M _ _ _ (lv_sub hl [2, 1, 0] rfl) hw u1 hf kk
set_option maxHeartbeats 4000000 in
set_option maxRecDepth 100000 in
theorem cX8_digest_ok (l : Launch) (D : va_G) (cA : Nat → ClassId) (ad : Nat → Nat) (M : Mem)  (r : Int64) (hf : fX8_digest M = some r) : Ctg l yX8_digest cX8_digest 5 (some .long) 1 22 shM D cA ad [.ref (ad 0)] M (Qzl shM D cA ad r M) := by
  refine ct_in (by decide) (Nat.le_of_ble_eq_true rfl) ?_
  intro p e s m below meth c ls F hl hw
  have hl : lv_has ls 5 [(0, .ref (ad 0))] := hl
  unfold fX8_digest at hf
  refine lv_ldc2 F.1 F.2.1 F.2.2.2.1 (F.2.2.2.2.1 _ kw_1118) dX8_digest_0 ?_
  refine lv_lstore_n F.1 F.2.1 dX8_digest_3 rfl hl (lv' := [(1, .long (2131 : Int64)), (0, .ref (ad 0))]) (Nat.le_of_ble_eq_true rfl) rfl (fun ls1 hl => ?_)
  refine k_iconst_0 F dX8_digest_4 ?_
  refine lv_istore_n F.1 F.2.1 dX8_digest_5 rfl hl (lv' := [(3, .int (0 : Int32)), (1, .long (2131 : Int64)), (0, .ref (ad 0))]) (Nat.le_of_ble_eq_true rfl) rfl (fun ls2 hl => ?_)
  obtain ⟨w10, hq69, hf⟩ := bnd1_some hf
  refine wX8_digest_L6 F FUEL (2131 : Int64) (0 : Int32) M _ _ _ (lv_sub hl [2, 1, 0] rfl) hw w10 hq69 (fun H11 o12 ls13 hl hw => ?_)
  refine k_iconst_0 F dX8_digest_31 ?_
  refine lv_istore_n F.1 F.2.1 dX8_digest_32 rfl hl (lv' := [(3, .int (0 : Int32)), (1, .long w10), (0, .ref (ad 0))]) (Nat.le_of_ble_eq_true rfl) rfl (fun ls14 hl => ?_)
  obtain ⟨w30, hq68, hf⟩ := bnd1_some hf
  refine wX8_digest_L33 F FUEL w10 (0 : Int32) M _ _ _ (lv_sub hl [2, 1, 0] rfl) hw w30 hq68 (fun H31 o32 ls33 hl hw => ?_)
  refine k_iconst_0 F dX8_digest_78 ?_
  refine lv_istore_n F.1 F.2.1 dX8_digest_79 rfl hl (lv' := [(3, .int (0 : Int32)), (1, .long w30), (0, .ref (ad 0))]) (Nat.le_of_ble_eq_true rfl) rfl (fun ls34 hl => ?_)
  obtain ⟨w50, hq67, hf⟩ := bnd1_some hf
  refine wX8_digest_L80 F FUEL w30 (0 : Int32) M _ _ _ (lv_sub hl [2, 1, 0] rfl) hw w50 hq67 (fun H51 o52 ls53 hl hw => ?_)
  refine k_iconst_0 F dX8_digest_124 ?_
  refine lv_istore_n F.1 F.2.1 dX8_digest_125 rfl hl (lv' := [(3, .int (0 : Int32)), (1, .long w50), (0, .ref (ad 0))]) (Nat.le_of_ble_eq_true rfl) rfl (fun ls54 hl => ?_)
  obtain ⟨w62, hq66, hf⟩ := bnd1_some hf
  refine wX8_digest_L126 F FUEL w50 (0 : Int32) M _ _ _ (lv_sub hl [2, 1, 0] rfl) hw w62 hq66 (fun H63 o64 ls65 hl hw => ?_)
  refine lv_lload_n F.1 F.2.1 dX8_digest_151 rfl (lv_at hl 0 rfl) ?_
  exact r_lret_o F hw dX8_digest_152 hf
end RW
