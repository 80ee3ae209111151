section RW
variable {p : Program} {l : Launch} {e : Env} {R : Room} {s : State} {m : MethodId} {args : Array Value} {below : List Frame} {meth : Method} {c : Code} {H : Heap} {locs : List Loc} {Q : State → Prop}
variable {sh : List Sh} {D : va_G} {cA : Nat → ClassId} {ad : Nat → Nat} {H0 : Heap} {M : Mem} {cc : ByteArray} {own : String} {nL : Nat} {ret : Option FieldType} {pc : Nat} {ls : Array Slot} {rest : List Value} {lv : List (Nat × Value)}
def fX7_mostOfSetting (v0 : Int32) : Int32 :=
  if v0 = (0 : Int32) then
    (6 : Int32)
  else if v0 = (1 : Int32) then
    (4 : Int32)
  else 
    (9 : Int32)
set_option maxHeartbeats 4000000 in
set_option maxRecDepth 100000 in
theorem cX7_mostOfSetting_ok (l : Launch) (D : va_G) (cA : Nat → ClassId) (ad : Nat → Nat) (M : Mem) (v0 : Int32) (r : Int32) (hf : fX7_mostOfSetting v0 = r) : Ctg l yX7_mostOfSetting cX7_mostOfSetting 1 (some .int) 0 0 shC D cA ad [.int v0] M (Qzi shC D cA ad .int r M) := by
  refine ct_in (by decide) (Nat.le_of_ble_eq_true rfl) ?_
  intro p e s m below meth c ls F hl hw
  have hl : lv_has ls 1 [(0, .int v0)] := hl
  unfold fX7_mostOfSetting at hf
  refine lv_iload_n F.1 F.2.1 dX7_mostOfSetting_0 rfl (lv_at hl 0 rfl) ?_
  by_cases hc1 : v0 = (0 : Int32)
  · rw [if_pos hc1] at hf
    refine lv_lookup F.1 F.2.1 dX7_mostOfSetting_1 (tgt := 28) (off := 27) (by decide) (by rw [hc1]; decide) (by decide) ?_
    refine k_bipush_6 F dX7_mostOfSetting_28 ?_
    exact r_iret_t F hw (vp_nar_int _) dX7_mostOfSetting_30 hf
  · rw [if_neg hc1] at hf
    by_cases hc2 : v0 = (1 : Int32)
    · rw [if_pos hc2] at hf
      refine lv_lookup F.1 F.2.1 dX7_mostOfSetting_1 (tgt := 31) (off := 30) (by decide) (by rw [hc2]; decide) (by decide) ?_
      refine k_iconst_4 F dX7_mostOfSetting_31 ?_
      exact r_iret_t F hw (vp_nar_int _) dX7_mostOfSetting_32 hf
    · rw [if_neg hc2] at hf
      refine lv_lookup F.1 F.2.1 dX7_mostOfSetting_1 (tgt := 33) (off := 32) (by decide) ((lv_osw hc1 (by decide)).trans ((lv_osw hc2 (by decide)).trans rfl)) (by decide) ?_
      refine k_bipush_9 F dX7_mostOfSetting_33 ?_
      exact r_iret_t F hw (vp_nar_int _) dX7_mostOfSetting_35 hf
theorem clX7_26 (F : Fx D cA RX7 cc nL ret p s m args meth c) (hw : Wd shC D cA ad H0 M H locs) (hl : lv_has ls nL lv) {v0 : Int32} (hR : 1 ≤ R.frames ∧ 20 ≤ R.locals) (hrm : (rest.map fun v => v.category).sum ≤ 8) (hd : decode cc pc = .ok (.invokestatic 26, 3)) (kk : ∀ (H1 : Heap) (locs1 : List Loc), Wd shC D cA ad H0 M H1 locs1 → narrow .int (.int (fX7_mostOfSetting v0)) = .int (fX7_mostOfSetting v0) → W p l e R s m args below meth c H1 locs1 0 0 Q (F0 m (pc + 3) ls (.int (fX7_mostOfSetting v0) :: rest))) : W p l e R s m args below meth c H locs 0 0 Q (F0 m pc ls (.int v0 :: rest)) :=
  r_afti hw (r_runS (As := [.int v0]) F hw hl (cX7_mostOfSetting_ok l D cA ad M v0 (fX7_mostOfSetting v0) rfl) cwX7_26 hR hrm hd) (fun H1 o1 hw1 hn => kk H1 o1 hw1 hn)
def fX7_refuseBad (M : Mem) : Option (Int32 × Mem) :=
  wr M 0 2 ((M 0 2) + (1 : Int32)) fun M1 =>
  some ((-2 : Int32), M1)
set_option maxHeartbeats 4000000 in
set_option maxRecDepth 100000 in
theorem cX7_refuseBad_ok (l : Launch) (D : va_G) (cA : Nat → ClassId) (ad : Nat → Nat) (M : Mem)  (r : Int32) (M' : Mem) (hf : fX7_refuseBad M = some (r, M')) : Ctg l yX7_refuseBad cX7_refuseBad 1 (some .int) 0 0 shC D cA ad [.ref (ad 0)] M (Qzi shC D cA ad .int r M') := by
  refine ct_in (by decide) (Nat.le_of_ble_eq_true rfl) ?_
  intro p e s m below meth c ls F hl hw
  have hl : lv_has ls 1 [(0, .ref (ad 0))] := hl
  unfold fX7_refuseBad at hf
  refine lv_aload_n F.1 F.2.1 dX7_refuseBad_0 rfl (lv_at hl 0 rfl) ?_
  refine lv_dup F.1 F.2.1 dX7_refuseBad_1 rfl ?_
  refine gX7_125 F hw rfl dX7_refuseBad_2 ?_
  refine k_iconst_1 F dX7_refuseBad_5 ?_
  refine lv_iadd F.1 F.2.1 dX7_refuseBad_6 ?_
  refine qX7_125 F hw rfl dX7_refuseBad_7 hf (fun M1 H2 o3 hw hf => ?_)
  refine k_bipush_m2 F dX7_refuseBad_10 ?_
  exact r_iret_w F hw (vp_nar_int _) dX7_refuseBad_12 hf
theorem clX7_30 (F : Fx D cA RX7 cc nL ret p s m args meth c) (hw : Wd shC D cA ad H0 M H locs) (hl : lv_has ls nL lv) (hR : 1 ≤ R.frames ∧ 20 ≤ R.locals) (hrm : (rest.map fun v => v.category).sum ≤ 8) (hd : decode cc pc = .ok (.invokevirtual 30, 3)) {α : Type} {K : Int32 → Mem → Option α} {res : α} (hf : bnd2 (fX7_refuseBad M) K = some res) (kk : ∀ (t : Int32) (M1 : Mem) (H1 : Heap) (locs1 : List Loc), Wd shC D cA ad H0 M1 H1 locs1 → narrow .int (.int t) = .int t → K t M1 = some res → W p l e R s m args below meth c H1 locs1 0 0 Q (F0 m (pc + 3) ls (.int t :: rest))) : W p l e R s m args below meth c H locs 0 0 Q (F0 m pc ls (.ref (ad 0) :: rest)) := by
  obtain ⟨t, M1, h1, h2⟩ := bnd2_some hf
  exact r_afti hw (r_runV (As := []) F hw hl (cX7_refuseBad_ok l D cA ad M t M1 h1) cz7 (show shC[0]? = some (.inr (7, sf7)) from rfl) cwX7_30 hR hrm hd) (fun H1 o1 hw1 hn => kk t M1 H1 o1 hw1 hn h2)
def fX7_setting (v1 : Int32) (M : Mem) : Int32 :=
  if v1 = (0 : Int32) then
    (M 1 0)
  else if v1 = (1 : Int32) then
    (M 1 1)
  else 
    (M 1 2)
set_option maxHeartbeats 4000000 in
set_option maxRecDepth 100000 in
theorem cX7_setting_ok (l : Launch) (D : va_G) (cA : Nat → ClassId) (ad : Nat → Nat) (M : Mem) (v1 : Int32) (r : Int32) (hf : fX7_setting v1 M = r) : Ctg l yX7_setting cX7_setting 2 (some .int) 0 0 shC D cA ad [.ref (ad 0), .int v1] M (Qzi shC D cA ad .int r M) := by
  refine ct_in (by decide) (Nat.le_of_ble_eq_true rfl) ?_
  intro p e s m below meth c ls F hl hw
  have hl : lv_has ls 2 [(0, .ref (ad 0)), (1, .int v1)] := hl
  unfold fX7_setting at hf
  refine lv_iload_n F.1 F.2.1 dX7_setting_0 rfl (lv_at hl 1 rfl) ?_
  by_cases hc1 : v1 = (0 : Int32)
  · rw [if_pos hc1] at hf
    refine lv_lookup F.1 F.2.1 dX7_setting_1 (tgt := 28) (off := 27) (by decide) (by rw [hc1]; decide) (by decide) ?_
    refine lv_aload_n F.1 F.2.1 dX7_setting_28 rfl (lv_at hl 0 rfl) ?_
    refine gX7_12 F hw rfl dX7_setting_29 ?_
    refine gX7_37 F hw rfl dX7_setting_32 ?_
    exact r_iret_t F hw (vp_nar_int _) dX7_setting_35 hf
  · rw [if_neg hc1] at hf
    by_cases hc2 : v1 = (1 : Int32)
    · rw [if_pos hc2] at hf
      refine lv_lookup F.1 F.2.1 dX7_setting_1 (tgt := 36) (off := 35) (by decide) (by rw [hc2]; decide) (by decide) ?_
      refine lv_aload_n F.1 F.2.1 dX7_setting_36 rfl (lv_at hl 0 rfl) ?_
      refine gX7_12 F hw rfl dX7_setting_37 ?_
      refine gX7_41 F hw rfl dX7_setting_40 ?_
      exact r_iret_t F hw (vp_nar_int _) dX7_setting_43 hf
    · rw [if_neg hc2] at hf
      refine lv_lookup F.1 F.2.1 dX7_setting_1 (tgt := 44) (off := 43) (by decide) ((lv_osw hc1 (by decide)).trans ((lv_osw hc2 (by decide)).trans rfl)) (by decide) ?_
      refine lv_aload_n F.1 F.2.1 dX7_setting_44 rfl (lv_at hl 0 rfl) ?_
      refine gX7_12 F hw rfl dX7_setting_45 ?_
      refine gX7_44 F hw rfl dX7_setting_48 ?_
      exact r_iret_t F hw (vp_nar_int _) dX7_setting_51 hf
theorem clX7_34 (F : Fx D cA RX7 cc nL ret p s m args meth c) (hw : Wd shC D cA ad H0 M H locs) (hl : lv_has ls nL lv) {v1 : Int32} (hR : 1 ≤ R.frames ∧ 21 ≤ R.locals) (hrm : (rest.map fun v => v.category).sum ≤ 8) (hd : decode cc pc = .ok (.invokevirtual 34, 3)) (kk : ∀ (H1 : Heap) (locs1 : List Loc), Wd shC D cA ad H0 M H1 locs1 → narrow .int (.int (fX7_setting v1 M)) = .int (fX7_setting v1 M) → W p l e R s m args below meth c H1 locs1 0 0 Q (F0 m (pc + 3) ls (.int (fX7_setting v1 M) :: rest))) : W p l e R s m args below meth c H locs 0 0 Q (F0 m pc ls (.int v1 :: .ref (ad 0) :: rest)) :=
  r_afti hw (r_runV (As := [.int v1]) F hw hl (cX7_setting_ok l D cA ad M v1 (fX7_setting v1 M) rfl) cz7 (show shC[0]? = some (.inr (7, sf7)) from rfl) cwX7_34 hR hrm hd) (fun H1 o1 hw1 hn => kk H1 o1 hw1 hn)
def fX7_sets (v1 : Int32) (v2 : Int32) (M : Mem) : Option (Int32 × Mem) :=
  if v1 < 0 then
    bnd2 (fX7_refuseBad M) fun t5 M4 =>
    some (t5, M4)
  else
    if (2 : Int32) < v1 then
      bnd2 (fX7_refuseBad M) fun t10 M9 =>
      some (t10, M9)
    else
      if v2 < (1 : Int32) then
        bnd2 (fX7_refuseBad M) fun t15 M14 =>
        some (t15, M14)
      else
        if v2 ≤ (fX7_mostOfSetting v1) then
          if v1 = 0 then
            wr M 1 0 v2 fun M38 =>
            bnd1 (fX2_startAnew M38) fun M44 =>
            some ((fX7_setting v1 M), M44)
          else
            if v1 = (1 : Int32) then
              wr M 1 1 v2 fun M30 =>
              bnd1 (fX2_startAnew M30) fun M36 =>
              some ((fX7_setting v1 M), M36)
            else
              wr M 1 2 v2 fun M23 =>
              bnd1 (fX2_startAnew M23) fun M29 =>
              some ((fX7_setting v1 M), M29)
        else
          bnd2 (fX7_refuseBad M) fun t50 M49 =>
          some (t50, M49)
set_option maxHeartbeats 4000000 in
set_option maxRecDepth 100000 in
theorem cX7_sets_ok (l : Launch) (D : va_G) (cA : Nat → ClassId) (ad : Nat → Nat) (M : Mem) (v1 : Int32) (v2 : Int32) (r : Int32) (M' : Mem) (hf : fX7_sets v1 v2 M = some (r, M')) : Ctg l yX7_sets cX7_sets 4 (some .int) 2 44 shC D cA ad [.ref (ad 0), .int v1, .int v2] M (Qzi shC D cA ad .int r M') := by
  refine ct_in (by decide) (Nat.le_of_ble_eq_true rfl) ?_
  intro p e s m below meth c ls F hl hw
  have hl : lv_has ls 4 [(0, .ref (ad 0)), (1, .int v1), (2, .int v2)] := hl
  unfold fX7_sets at hf
  refine lv_iload_n F.1 F.2.1 dX7_sets_0 rfl (lv_at hl 1 rfl) ?_
  refine b_if_lt F dX7_sets_1 (tgt := 22) (by decide) hf (fun hc54 hf => ?_) (fun hc54 hf => ?_)
  · refine lv_aload_n F.1 F.2.1 dX7_sets_22 rfl (lv_at hl 0 rfl) ?_
    refine clX7_30 F hw hl ⟨Nat.le_of_ble_eq_true rfl, Nat.le_of_ble_eq_true rfl⟩ (Nat.le_of_ble_eq_true rfl) dX7_sets_23 hf (fun t5 M4 H1 o2 hw hn3 hf => ?_)
    exact r_iret_w F hw (vp_nar_int _) dX7_sets_26 hf
  · refine lv_iload_n F.1 F.2.1 dX7_sets_4 rfl (lv_at hl 1 rfl) ?_
    refine k_iconst_2 F dX7_sets_5 ?_
    refine b_icmp_gt F dX7_sets_6 (tgt := 22) (by decide) hf (fun hc53 hf => ?_) (fun hc53 hf => ?_)
    · refine lv_aload_n F.1 F.2.1 dX7_sets_22 rfl (lv_at hl 0 rfl) ?_
      refine clX7_30 F hw hl ⟨Nat.le_of_ble_eq_true rfl, Nat.le_of_ble_eq_true rfl⟩ (Nat.le_of_ble_eq_true rfl) dX7_sets_23 hf (fun t10 M9 H6 o7 hw hn8 hf => ?_)
      exact r_iret_w F hw (vp_nar_int _) dX7_sets_26 hf
    · refine lv_iload_n F.1 F.2.1 dX7_sets_9 rfl (lv_at hl 2 rfl) ?_
      refine k_iconst_1 F dX7_sets_10 ?_
      refine b_icmp_lt F dX7_sets_11 (tgt := 22) (by decide) hf (fun hc52 hf => ?_) (fun hc52 hf => ?_)
      · refine lv_aload_n F.1 F.2.1 dX7_sets_22 rfl (lv_at hl 0 rfl) ?_
        refine clX7_30 F hw hl ⟨Nat.le_of_ble_eq_true rfl, Nat.le_of_ble_eq_true rfl⟩ (Nat.le_of_ble_eq_true rfl) dX7_sets_23 hf (fun t15 M14 H11 o12 hw hn13 hf => ?_)
        exact r_iret_w F hw (vp_nar_int _) dX7_sets_26 hf
      · refine lv_iload_n F.1 F.2.1 dX7_sets_14 rfl (lv_at hl 2 rfl) ?_
        refine lv_iload_n F.1 F.2.1 dX7_sets_15 rfl (lv_at hl 1 rfl) ?_
        refine clX7_26 F hw hl ⟨Nat.le_of_ble_eq_true rfl, Nat.le_of_ble_eq_true rfl⟩ (Nat.le_of_ble_eq_true rfl) dX7_sets_16 (fun H16 o17 hw hn18 => ?_)
        refine b_icmp_le F dX7_sets_19 (tgt := 27) (by decide) hf (fun hc51 hf => ?_) (fun hc51 hf => ?_)
        · refine lv_aload_n F.1 F.2.1 dX7_sets_27 rfl (lv_at hl 0 rfl) ?_
          refine lv_iload_n F.1 F.2.1 dX7_sets_28 rfl (lv_at hl 1 rfl) ?_
          refine clX7_34 F hw hl ⟨Nat.le_of_ble_eq_true rfl, Nat.le_of_ble_eq_true rfl⟩ (Nat.le_of_ble_eq_true rfl) dX7_sets_29 (fun H19 o20 hw hn21 => ?_)
          refine lv_istore_n F.1 F.2.1 dX7_sets_32 rfl hl (lv' := [(3, .int (fX7_setting v1 M)), (0, .ref (ad 0)), (1, .int v1), (2, .int v2)]) (Nat.le_of_ble_eq_true rfl) rfl (fun ls22 hl => ?_)
          refine lv_iload_n F.1 F.2.1 dX7_sets_33 rfl (lv_at hl 2 rfl) ?_
          refine b_if_ne F dX7_sets_34 (tgt := 48) (by decide) hf (fun hc45 hf => ?_) (fun hc45 hf => ?_)
          · refine lv_aload_n F.1 F.2.1 dX7_sets_37 rfl (lv_at hl 1 rfl) ?_
            refine gX7_12 F hw rfl dX7_sets_38 ?_
            refine lv_iload_n F.1 F.2.1 dX7_sets_41 rfl (lv_at hl 3 rfl) ?_
            refine qX7_37 F hw rfl dX7_sets_42 hf (fun M38 H39 o40 hw hf => ?_)
            refine lv_goto F.1 F.2.1 dX7_sets_45 (tgt := 72) (by decide) ?_
            refine lv_aload_n F.1 F.2.1 dX7_sets_72 rfl (lv_at hl 1 rfl) ?_
            refine gX7_12 F hw rfl dX7_sets_73 ?_
            refine clX7_23 F hw hl ⟨Nat.le_of_ble_eq_true rfl, Nat.le_of_ble_eq_true rfl⟩ (Nat.le_of_ble_eq_true rfl) dX7_sets_76 hf (fun M44 H41 o42 hw hf => ?_)
            refine lv_iload_n F.1 F.2.1 dX7_sets_79 rfl (lv_at hl 0 rfl) ?_
            exact r_iret_w F hw (vp_nar_int _) dX7_sets_80 hf
          · refine lv_iload_n F.1 F.2.1 dX7_sets_48 rfl (lv_at hl 2 rfl) ?_
            refine k_iconst_1 F dX7_sets_49 ?_
            refine b_icmp_ne F dX7_sets_50 (tgt := 64) (by decide) hf (fun hc37 hf => ?_) (fun hc37 hf => ?_)
            · refine lv_aload_n F.1 F.2.1 dX7_sets_53 rfl (lv_at hl 1 rfl) ?_
              refine gX7_12 F hw rfl dX7_sets_54 ?_
              refine lv_iload_n F.1 F.2.1 dX7_sets_57 rfl (lv_at hl 3 rfl) ?_
              refine qX7_41 F hw rfl dX7_sets_58 hf (fun M30 H31 o32 hw hf => ?_)
              refine lv_goto F.1 F.2.1 dX7_sets_61 (tgt := 72) (by decide) ?_
              refine lv_aload_n F.1 F.2.1 dX7_sets_72 rfl (lv_at hl 1 rfl) ?_
              refine gX7_12 F hw rfl dX7_sets_73 ?_
              refine clX7_23 F hw hl ⟨Nat.le_of_ble_eq_true rfl, Nat.le_of_ble_eq_true rfl⟩ (Nat.le_of_ble_eq_true rfl) dX7_sets_76 hf (fun M36 H33 o34 hw hf => ?_)
              refine lv_iload_n F.1 F.2.1 dX7_sets_79 rfl (lv_at hl 0 rfl) ?_
              exact r_iret_w F hw (vp_nar_int _) dX7_sets_80 hf
            · refine lv_aload_n F.1 F.2.1 dX7_sets_64 rfl (lv_at hl 1 rfl) ?_
              refine gX7_12 F hw rfl dX7_sets_65 ?_
              refine lv_iload_n F.1 F.2.1 dX7_sets_68 rfl (lv_at hl 3 rfl) ?_
              refine qX7_44 F hw rfl dX7_sets_69 hf (fun M23 H24 o25 hw hf => ?_)
              refine lv_aload_n F.1 F.2.1 dX7_sets_72 rfl (lv_at hl 1 rfl) ?_
              refine gX7_12 F hw rfl dX7_sets_73 ?_
              refine clX7_23 F hw hl ⟨Nat.le_of_ble_eq_true rfl, Nat.le_of_ble_eq_true rfl⟩ (Nat.le_of_ble_eq_true rfl) dX7_sets_76 hf (fun M29 H26 o27 hw hf => ?_)
              refine lv_iload_n F.1 F.2.1 dX7_sets_79 rfl (lv_at hl 0 rfl) ?_
              exact r_iret_w F hw (vp_nar_int _) dX7_sets_80 hf
        · refine lv_aload_n F.1 F.2.1 dX7_sets_22 rfl (lv_at hl 0 rfl) ?_
          refine clX7_30 F hw hl ⟨Nat.le_of_ble_eq_true rfl, Nat.le_of_ble_eq_true rfl⟩ (Nat.le_of_ble_eq_true rfl) dX7_sets_23 hf (fun t50 M49 H46 o47 hw hn48 hf => ?_)
          exact r_iret_w F hw (vp_nar_int _) dX7_sets_26 hf
def fX7_isGate (v1 : Int32) (M : Mem) : Int32 :=
  if v1 < 0 then
    (0 : Int32)
  else
    if (M 1 1) ≤ v1 then
      (0 : Int32)
    else
      (1 : Int32)
set_option maxHeartbeats 4000000 in
set_option maxRecDepth 100000 in
theorem cX7_isGate_ok (l : Launch) (D : va_G) (cA : Nat → ClassId) (ad : Nat → Nat) (M : Mem) (v1 : Int32) (r : Int32) (hf : fX7_isGate v1 M = r) : Ctg l yX7_isGate cX7_isGate 2 (some .boolean) 0 0 shC D cA ad [.ref (ad 0), .int v1] M (Qzi shC D cA ad .boolean r M) := by
  refine ct_in (by decide) (Nat.le_of_ble_eq_true rfl) ?_
  intro p e s m below meth c ls F hl hw
  have hl : lv_has ls 2 [(0, .ref (ad 0)), (1, .int v1)] := hl
  unfold fX7_isGate at hf
  refine lv_iload_n F.1 F.2.1 dX7_isGate_0 rfl (lv_at hl 1 rfl) ?_
  refine b_if_lt F dX7_isGate_1 (tgt := 19) (by decide) hf (fun hc2 hf => ?_) (fun hc2 hf => ?_)
  · refine k_iconst_0 F dX7_isGate_19 ?_
    exact r_iret_t F hw rfl dX7_isGate_20 hf
  · refine lv_iload_n F.1 F.2.1 dX7_isGate_4 rfl (lv_at hl 1 rfl) ?_
    refine lv_aload_n F.1 F.2.1 dX7_isGate_5 rfl (lv_at hl 0 rfl) ?_
    refine gX7_12 F hw rfl dX7_isGate_6 ?_
    refine gX7_41 F hw rfl dX7_isGate_9 ?_
    refine b_icmp_ge F dX7_isGate_12 (tgt := 19) (by decide) hf (fun hc1 hf => ?_) (fun hc1 hf => ?_)
    · refine k_iconst_0 F dX7_isGate_19 ?_
      exact r_iret_t F hw rfl dX7_isGate_20 hf
    · refine k_iconst_1 F dX7_isGate_15 ?_
      refine lv_goto F.1 F.2.1 dX7_isGate_16 (tgt := 20) (by decide) ?_
      exact r_iret_t F hw rfl dX7_isGate_20 hf
theorem clX7_47 (F : Fx D cA RX7 cc nL ret p s m args meth c) (hw : Wd shC D cA ad H0 M H locs) (hl : lv_has ls nL lv) {v1 : Int32} (hR : 1 ≤ R.frames ∧ 21 ≤ R.locals) (hrm : (rest.map fun v => v.category).sum ≤ 8) (hd : decode cc pc = .ok (.invokevirtual 47, 3)) (kk : ∀ (H1 : Heap) (locs1 : List Loc), Wd shC D cA ad H0 M H1 locs1 → narrow .boolean (.int (fX7_isGate v1 M)) = .int (fX7_isGate v1 M) → W p l e R s m args below meth c H1 locs1 0 0 Q (F0 m (pc + 3) ls (.int (fX7_isGate v1 M) :: rest))) : W p l e R s m args below meth c H locs 0 0 Q (F0 m pc ls (.int v1 :: .ref (ad 0) :: rest)) :=
  r_afti hw (r_runV (As := [.int v1]) F hw hl (cX7_isGate_ok l D cA ad M v1 (fX7_isGate v1 M) rfl) cz7 (show shC[0]? = some (.inr (7, sf7)) from rfl) cwX7_47 hR hrm hd) (fun H1 o1 hw1 hn => kk H1 o1 hw1 hn)
def fX7_gate (v1 : Int32) (v2 : Int32) (v3 : Int32) (M : Mem) : Option (Int32 × Mem) :=
  if (fX7_isGate v1 M) = 0 then
    bnd2 (fX7_refuseBad M) fun t8 M7 =>
    some (t8, M7)
  else
    if v2 < 0 then
      bnd2 (fX7_refuseBad M) fun t13 M12 =>
      some (t13, M12)
    else
      if (1 : Int32) < v2 then
        bnd2 (fX7_refuseBad M) fun t18 M17 =>
        some (t18, M17)
      else
        if v3 < 0 then
          bnd2 (fX7_refuseBad M) fun t23 M22 =>
          some (t23, M22)
        else
          jn (fun (t24 : Int32) =>
            if v3 ≤ t24 then
              ix v1 4 <|
              jn (fun (t31 : Int32) =>
                if v2 = 0 then
                  wr M (24 + v1.toNatClampNeg) 0 v3 fun M40 =>
                  some (t31, M40)
                else
                  wr M (24 + v1.toNatClampNeg) 1 v3 fun M37 =>
                  some (t31, M37)) fun j35 =>
              if v2 = 0 then
                j35 (M (24 + v1.toNatClampNeg) 0)
              else
                j35 (M (24 + v1.toNatClampNeg) 1)
            else
              bnd2 (fX7_refuseBad M) fun t49 M48 =>
              some (t49, M48)) fun j28 =>
          if v2 = 0 then
            j28 (5 : Int32)
          else
            j28 (40 : Int32)
set_option maxHeartbeats 4000000 in
set_option maxRecDepth 100000 in
theorem cX7_gate_ok (l : Launch) (D : va_G) (cA : Nat → ClassId) (ad : Nat → Nat) (M : Mem) (v1 : Int32) (v2 : Int32) (v3 : Int32) (r : Int32) (M' : Mem) (hf : fX7_gate v1 v2 v3 M = some (r, M')) : Ctg l yX7_gate cX7_gate 6 (some .int) 1 21 shC D cA ad [.ref (ad 0), .int v1, .int v2, .int v3] M (Qzi shC D cA ad .int r M') := by
  refine ct_in (by decide) (Nat.le_of_ble_eq_true rfl) ?_
  intro p e s m below meth c ls F hl hw
  have hl : lv_has ls 6 [(0, .ref (ad 0)), (1, .int v1), (2, .int v2), (3, .int v3)] := hl
  unfold fX7_gate at hf
  refine lv_aload_n F.1 F.2.1 dX7_gate_0 rfl (lv_at hl 0 rfl) ?_
  refine lv_iload_n F.1 F.2.1 dX7_gate_1 rfl (lv_at hl 1 rfl) ?_
  refine clX7_47 F hw hl ⟨Nat.le_of_ble_eq_true rfl, Nat.le_of_ble_eq_true rfl⟩ (Nat.le_of_ble_eq_true rfl) dX7_gate_2 (fun H1 o2 hw hn3 => ?_)
  refine b_if_eq F dX7_gate_5 (tgt := 35) (by decide) hf (fun hc55 hf => ?_) (fun hc55 hf => ?_)
  · refine lv_aload_n F.1 F.2.1 dX7_gate_35 rfl (lv_at hl 0 rfl) ?_
    refine clX7_30 F hw hl ⟨Nat.le_of_ble_eq_true rfl, Nat.le_of_ble_eq_true rfl⟩ (Nat.le_of_ble_eq_true rfl) dX7_gate_36 hf (fun t8 M7 H4 o5 hw hn6 hf => ?_)
    exact r_iret_w F hw (vp_nar_int _) dX7_gate_39 hf
  · refine lv_iload_n F.1 F.2.1 dX7_gate_8 rfl (lv_at hl 2 rfl) ?_
    refine b_if_lt F dX7_gate_9 (tgt := 35) (by decide) hf (fun hc54 hf => ?_) (fun hc54 hf => ?_)
    · refine lv_aload_n F.1 F.2.1 dX7_gate_35 rfl (lv_at hl 0 rfl) ?_
      refine clX7_30 F hw hl ⟨Nat.le_of_ble_eq_true rfl, Nat.le_of_ble_eq_true rfl⟩ (Nat.le_of_ble_eq_true rfl) dX7_gate_36 hf (fun t13 M12 H9 o10 hw hn11 hf => ?_)
      exact r_iret_w F hw (vp_nar_int _) dX7_gate_39 hf
    · refine lv_iload_n F.1 F.2.1 dX7_gate_12 rfl (lv_at hl 2 rfl) ?_
      refine k_iconst_1 F dX7_gate_13 ?_
      refine b_icmp_gt F dX7_gate_14 (tgt := 35) (by decide) hf (fun hc53 hf => ?_) (fun hc53 hf => ?_)
      · refine lv_aload_n F.1 F.2.1 dX7_gate_35 rfl (lv_at hl 0 rfl) ?_
        refine clX7_30 F hw hl ⟨Nat.le_of_ble_eq_true rfl, Nat.le_of_ble_eq_true rfl⟩ (Nat.le_of_ble_eq_true rfl) dX7_gate_36 hf (fun t18 M17 H14 o15 hw hn16 hf => ?_)
        exact r_iret_w F hw (vp_nar_int _) dX7_gate_39 hf
      · refine lv_iload_n F.1 F.2.1 dX7_gate_17 rfl (lv_at hl 3 rfl) ?_
        refine b_if_lt F dX7_gate_18 (tgt := 35) (by decide) hf (fun hc52 hf => ?_) (fun hc52 hf => ?_)
        · refine lv_aload_n F.1 F.2.1 dX7_gate_35 rfl (lv_at hl 0 rfl) ?_
          refine clX7_30 F hw hl ⟨Nat.le_of_ble_eq_true rfl, Nat.le_of_ble_eq_true rfl⟩ (Nat.le_of_ble_eq_true rfl) dX7_gate_36 hf (fun t23 M22 H19 o20 hw hn21 hf => ?_)
          exact r_iret_w F hw (vp_nar_int _) dX7_gate_39 hf
        · refine lv_iload_n F.1 F.2.1 dX7_gate_21 rfl (lv_at hl 3 rfl) ?_
          refine lv_iload_n F.1 F.2.1 dX7_gate_22 rfl (lv_at hl 2 rfl) ?_
          refine jn_go1 (fun (t24 : Int32) => ∀ (H25 : Heap) (o26 : List Loc) (ls27 : Array Slot), lv_has ls27 6 [(0, .ref (ad 0)), (1, .int v1), (2, .int v2), (3, .int v3)] → Wd shC D cA ad s.heap M H25 o26 → W p l e (rz 1 21) s m ([.ref (ad 0), .int v1, .int v2, .int v3] : List Value).toArray below meth c H25 o26 0 0 (MQ below (Qzi shC D cA ad .int r M') ([.ref (ad 0), .int v1, .int v2, .int v3] : List Value).toArray s 0 0 (Az shC ad)) (F0 m 32 ls27 [.int t24, .int v3])) hf (fun t24 hf H25 o26 ls27 hl hw => ?_) (fun j28 Jj28 hf => ?_)
          · refine b_icmp_le F dX7_gate_32 (tgt := 40) (by decide) hf (fun hc50 hf => ?_) (fun hc50 hf => ?_)
            · refine lv_aload_n F.1 F.2.1 dX7_gate_40 rfl (lv_at hl 0 rfl) ?_
              refine gX7_12 F hw rfl dX7_gate_41 ?_
              refine gX7_51 F hw rfl dX7_gate_44 ?_
              refine lv_iload_n F.1 F.2.1 dX7_gate_47 rfl (lv_at hl 1 rfl) ?_
              refine r_aald F hw (t := 3) (b := 24) (n := 4) rfl rfl rfl dX7_gate_48 hf (fun hi29 hf => ?_)
              refine lv_astore F.1 F.2.1 dX7_gate_49 hl (lv' := [(4, .ref (ad (24 + v1.toNatClampNeg))), (0, .ref (ad 0)), (1, .int v1), (2, .int v2), (3, .int v3)]) (Nat.le_of_ble_eq_true rfl) rfl (fun ls30 hl => ?_)
              refine lv_iload_n F.1 F.2.1 dX7_gate_51 rfl (lv_at hl 3 rfl) ?_
              refine jn_go1 (fun (t31 : Int32) => ∀ (H32 : Heap) (o33 : List Loc) (ls34 : Array Slot), lv_has ls34 6 [(4, .ref (ad (24 + v1.toNatClampNeg))), (2, .int v2), (3, .int v3)] → Wd shC D cA ad s.heap M H32 o33 → W p l e (rz 1 21) s m ([.ref (ad 0), .int v1, .int v2, .int v3] : List Value).toArray below meth c H32 o33 0 0 (MQ below (Qzi shC D cA ad .int r M') ([.ref (ad 0), .int v1, .int v2, .int v3] : List Value).toArray s 0 0 (Az shC ad)) (F0 m 68 ls34 [.int t31])) hf (fun t31 hf H32 o33 ls34 hl hw => ?_) (fun j35 Jj35 hf => ?_)
              · refine lv_istore F.1 F.2.1 dX7_gate_68 hl (lv' := [(5, .int t31), (4, .ref (ad (24 + v1.toNatClampNeg))), (2, .int v2), (3, .int v3)]) (Nat.le_of_ble_eq_true rfl) rfl (fun ls36 hl => ?_)
                refine lv_iload_n F.1 F.2.1 dX7_gate_70 rfl (lv_at hl 2 rfl) ?_
                refine b_if_ne F dX7_gate_71 (tgt := 83) (by decide) hf (fun hc43 hf => ?_) (fun hc43 hf => ?_)
                · refine lv_aload F.1 F.2.1 dX7_gate_74 (lv_at hl 1 rfl) ?_
                  refine lv_iload_n F.1 F.2.1 dX7_gate_76 rfl (lv_at hl 3 rfl) ?_
                  refine qX7_55 F hw (sh_in24 hi29) dX7_gate_77 hf (fun M40 H41 o42 hw hf => ?_)
                  refine lv_goto F.1 F.2.1 dX7_gate_80 (tgt := 89) (by decide) ?_
                  refine lv_iload F.1 F.2.1 dX7_gate_89 (lv_at hl 0 rfl) ?_
                  exact r_iret_w F hw (vp_nar_int _) dX7_gate_91 hf
                · refine lv_aload F.1 F.2.1 dX7_gate_83 (lv_at hl 1 rfl) ?_
                  refine lv_iload_n F.1 F.2.1 dX7_gate_85 rfl (lv_at hl 3 rfl) ?_
                  refine qX7_60 F hw (sh_in24 hi29) dX7_gate_86 hf (fun M37 H38 o39 hw hf => ?_)
                  refine lv_iload F.1 F.2.1 dX7_gate_89 (lv_at hl 0 rfl) ?_
                  exact r_iret_w F hw (vp_nar_int _) dX7_gate_91 hf
              · refine b_if_ne F dX7_gate_52 (tgt := 63) (by decide) hf (fun hc44 hf => ?_) (fun hc44 hf => ?_)
                · refine lv_aload F.1 F.2.1 dX7_gate_55 (lv_at hl 0 rfl) ?_
                  refine gX7_55 F hw (sh_in24 hi29) dX7_gate_57 ?_
                  refine lv_goto F.1 F.2.1 dX7_gate_60 (tgt := 68) (by decide) ?_
                  exact Jj35 (M (24 + v1.toNatClampNeg) 0) hf _ _ _ (lv_sub hl [0, 3, 4] rfl) hw
                · refine lv_aload F.1 F.2.1 dX7_gate_63 (lv_at hl 0 rfl) ?_
                  refine gX7_60 F hw (sh_in24 hi29) dX7_gate_65 ?_
                  exact Jj35 (M (24 + v1.toNatClampNeg) 1) hf _ _ _ (lv_sub hl [0, 3, 4] rfl) hw
            · refine lv_aload_n F.1 F.2.1 dX7_gate_35 rfl (lv_at hl 0 rfl) ?_
              refine clX7_30 F hw hl ⟨Nat.le_of_ble_eq_true rfl, Nat.le_of_ble_eq_true rfl⟩ (Nat.le_of_ble_eq_true rfl) dX7_gate_36 hf (fun t49 M48 H45 o46 hw hn47 hf => ?_)
              exact r_iret_w F hw (vp_nar_int _) dX7_gate_39 hf
          · refine b_if_ne F dX7_gate_23 (tgt := 30) (by decide) hf (fun hc51 hf => ?_) (fun hc51 hf => ?_)
            · refine k_iconst_5 F dX7_gate_26 ?_
              refine lv_goto F.1 F.2.1 dX7_gate_27 (tgt := 32) (by decide) ?_
              exact Jj28 (5 : Int32) hf _ _ _ hl hw
            · refine k_bipush_40 F dX7_gate_30 ?_
              exact Jj28 (40 : Int32) hf _ _ _ hl hw
def fX7_isSender (v1 : Int32) (M : Mem) : Int32 :=
  if v1 < 0 then
    (0 : Int32)
  else
    if (M 1 0) ≤ v1 then
      (0 : Int32)
    else
      (1 : Int32)
set_option maxHeartbeats 4000000 in
set_option maxRecDepth 100000 in
theorem cX7_isSender_ok (l : Launch) (D : va_G) (cA : Nat → ClassId) (ad : Nat → Nat) (M : Mem) (v1 : Int32) (r : Int32) (hf : fX7_isSender v1 M = r) : Ctg l yX7_isSender cX7_isSender 2 (some .boolean) 0 0 shC D cA ad [.ref (ad 0), .int v1] M (Qzi shC D cA ad .boolean r M) := by
  refine ct_in (by decide) (Nat.le_of_ble_eq_true rfl) ?_
  intro p e s m below meth c ls F hl hw
  have hl : lv_has ls 2 [(0, .ref (ad 0)), (1, .int v1)] := hl
  unfold fX7_isSender at hf
  refine lv_iload_n F.1 F.2.1 dX7_isSender_0 rfl (lv_at hl 1 rfl) ?_
  refine b_if_lt F dX7_isSender_1 (tgt := 19) (by decide) hf (fun hc2 hf => ?_) (fun hc2 hf => ?_)
  · refine k_iconst_0 F dX7_isSender_19 ?_
    exact r_iret_t F hw rfl dX7_isSender_20 hf
  · refine lv_iload_n F.1 F.2.1 dX7_isSender_4 rfl (lv_at hl 1 rfl) ?_
    refine lv_aload_n F.1 F.2.1 dX7_isSender_5 rfl (lv_at hl 0 rfl) ?_
    refine gX7_12 F hw rfl dX7_isSender_6 ?_
    refine gX7_37 F hw rfl dX7_isSender_9 ?_
    refine b_icmp_ge F dX7_isSender_12 (tgt := 19) (by decide) hf (fun hc1 hf => ?_) (fun hc1 hf => ?_)
    · refine k_iconst_0 F dX7_isSender_19 ?_
      exact r_iret_t F hw rfl dX7_isSender_20 hf
    · refine k_iconst_1 F dX7_isSender_15 ?_
      refine lv_goto F.1 F.2.1 dX7_isSender_16 (tgt := 20) (by decide) ?_
      exact r_iret_t F hw rfl dX7_isSender_20 hf
theorem clX7_63 (F : Fx D cA RX7 cc nL ret p s m args meth c) (hw : Wd shC D cA ad H0 M H locs) (hl : lv_has ls nL lv) {v1 : Int32} (hR : 1 ≤ R.frames ∧ 21 ≤ R.locals) (hrm : (rest.map fun v => v.category).sum ≤ 8) (hd : decode cc pc = .ok (.invokevirtual 63, 3)) (kk : ∀ (H1 : Heap) (locs1 : List Loc), Wd shC D cA ad H0 M H1 locs1 → narrow .boolean (.int (fX7_isSender v1 M)) = .int (fX7_isSender v1 M) → W p l e R s m args below meth c H1 locs1 0 0 Q (F0 m (pc + 3) ls (.int (fX7_isSender v1 M) :: rest))) : W p l e R s m args below meth c H locs 0 0 Q (F0 m pc ls (.int v1 :: .ref (ad 0) :: rest)) :=
  r_afti hw (r_runV (As := [.int v1]) F hw hl (cX7_isSender_ok l D cA ad M v1 (fX7_isSender v1 M) rfl) cz7 (show shC[0]? = some (.inr (7, sf7)) from rfl) cwX7_63 hR hrm hd) (fun H1 o1 hw1 hn => kk H1 o1 hw1 hn)
def fX7_gain (v1 : Int32) (v2 : Int32) (v3 : Int32) (M : Mem) : Option (Int32 × Mem) :=
  if (fX7_isSender v1 M) = 0 then
    bnd2 (fX7_refuseBad M) fun t8 M7 =>
    some (t8, M7)
  else
    if (fX7_isGate v2 M) = 0 then
      bnd2 (fX7_refuseBad M) fun t16 M15 =>
      some (t16, M15)
    else
      if v3 < 0 then
        bnd2 (fX7_refuseBad M) fun t21 M20 =>
        some (t21, M20)
      else
        if v3 ≤ (60 : Int32) then
          ix v1 6 <|
          ix v2 4 <|
          wr M (4 + v1.toNatClampNeg) v2.toNatClampNeg v3 fun M25 =>
          some ((M (4 + v1.toNatClampNeg) v2.toNatClampNeg), M25)
        else
          bnd2 (fX7_refuseBad M) fun t32 M31 =>
          some (t32, M31)
set_option maxHeartbeats 4000000 in
set_option maxRecDepth 100000 in
theorem cX7_gain_ok (l : Launch) (D : va_G) (cA : Nat → ClassId) (ad : Nat → Nat) (M : Mem) (v1 : Int32) (v2 : Int32) (v3 : Int32) (r : Int32) (M' : Mem) (hf : fX7_gain v1 v2 v3 M = some (r, M')) : Ctg l yX7_gain cX7_gain 5 (some .int) 1 21 shC D cA ad [.ref (ad 0), .int v1, .int v2, .int v3] M (Qzi shC D cA ad .int r M') := by
  refine ct_in (by decide) (Nat.le_of_ble_eq_true rfl) ?_
  intro p e s m below meth c ls F hl hw
  have hl : lv_has ls 5 [(0, .ref (ad 0)), (1, .int v1), (2, .int v2), (3, .int v3)] := hl
  unfold fX7_gain at hf
  refine lv_aload_n F.1 F.2.1 dX7_gain_0 rfl (lv_at hl 0 rfl) ?_
  refine lv_iload_n F.1 F.2.1 dX7_gain_1 rfl (lv_at hl 1 rfl) ?_
  refine clX7_63 F hw hl ⟨Nat.le_of_ble_eq_true rfl, Nat.le_of_ble_eq_true rfl⟩ (Nat.le_of_ble_eq_true rfl) dX7_gain_2 (fun H1 o2 hw hn3 => ?_)
  refine b_if_eq F dX7_gain_5 (tgt := 26) (by decide) hf (fun hc36 hf => ?_) (fun hc36 hf => ?_)
  · refine lv_aload_n F.1 F.2.1 dX7_gain_26 rfl (lv_at hl 0 rfl) ?_
    refine clX7_30 F hw hl ⟨Nat.le_of_ble_eq_true rfl, Nat.le_of_ble_eq_true rfl⟩ (Nat.le_of_ble_eq_true rfl) dX7_gain_27 hf (fun t8 M7 H4 o5 hw hn6 hf => ?_)
    exact r_iret_w F hw (vp_nar_int _) dX7_gain_30 hf
  · refine lv_aload_n F.1 F.2.1 dX7_gain_8 rfl (lv_at hl 0 rfl) ?_
    refine lv_iload_n F.1 F.2.1 dX7_gain_9 rfl (lv_at hl 2 rfl) ?_
    refine clX7_47 F hw hl ⟨Nat.le_of_ble_eq_true rfl, Nat.le_of_ble_eq_true rfl⟩ (Nat.le_of_ble_eq_true rfl) dX7_gain_10 (fun H9 o10 hw hn11 => ?_)
    refine b_if_eq F dX7_gain_13 (tgt := 26) (by decide) hf (fun hc35 hf => ?_) (fun hc35 hf => ?_)
    · refine lv_aload_n F.1 F.2.1 dX7_gain_26 rfl (lv_at hl 0 rfl) ?_
      refine clX7_30 F hw hl ⟨Nat.le_of_ble_eq_true rfl, Nat.le_of_ble_eq_true rfl⟩ (Nat.le_of_ble_eq_true rfl) dX7_gain_27 hf (fun t16 M15 H12 o13 hw hn14 hf => ?_)
      exact r_iret_w F hw (vp_nar_int _) dX7_gain_30 hf
    · refine lv_iload_n F.1 F.2.1 dX7_gain_16 rfl (lv_at hl 3 rfl) ?_
      refine b_if_lt F dX7_gain_17 (tgt := 26) (by decide) hf (fun hc34 hf => ?_) (fun hc34 hf => ?_)
      · refine lv_aload_n F.1 F.2.1 dX7_gain_26 rfl (lv_at hl 0 rfl) ?_
        refine clX7_30 F hw hl ⟨Nat.le_of_ble_eq_true rfl, Nat.le_of_ble_eq_true rfl⟩ (Nat.le_of_ble_eq_true rfl) dX7_gain_27 hf (fun t21 M20 H17 o18 hw hn19 hf => ?_)
        exact r_iret_w F hw (vp_nar_int _) dX7_gain_30 hf
      · refine lv_iload_n F.1 F.2.1 dX7_gain_20 rfl (lv_at hl 3 rfl) ?_
        refine k_bipush_60 F dX7_gain_21 ?_
        refine b_icmp_le F dX7_gain_23 (tgt := 31) (by decide) hf (fun hc33 hf => ?_) (fun hc33 hf => ?_)
        · refine lv_aload_n F.1 F.2.1 dX7_gain_31 rfl (lv_at hl 0 rfl) ?_
          refine gX7_12 F hw rfl dX7_gain_32 ?_
          refine gX7_66 F hw rfl dX7_gain_35 ?_
          refine lv_iload_n F.1 F.2.1 dX7_gain_38 rfl (lv_at hl 1 rfl) ?_
          refine r_aald F hw (t := 1) (b := 4) (n := 6) rfl rfl rfl dX7_gain_39 hf (fun hi22 hf => ?_)
          refine lv_iload_n F.1 F.2.1 dX7_gain_40 rfl (lv_at hl 2 rfl) ?_
          refine r_iald F hw (n := 4) (sh_in4 hi22) dX7_gain_41 hf (fun hi23 hf => ?_)
          refine lv_istore F.1 F.2.1 dX7_gain_42 hl (lv' := [(4, .int (M (4 + v1.toNatClampNeg) v2.toNatClampNeg)), (0, .ref (ad 0)), (1, .int v1), (2, .int v2), (3, .int v3)]) (Nat.le_of_ble_eq_true rfl) rfl (fun ls24 hl => ?_)
          refine lv_aload_n F.1 F.2.1 dX7_gain_44 rfl (lv_at hl 1 rfl) ?_
          refine gX7_12 F hw rfl dX7_gain_45 ?_
          refine gX7_66 F hw rfl dX7_gain_48 ?_
          refine lv_iload_n F.1 F.2.1 dX7_gain_51 rfl (lv_at hl 2 rfl) ?_
          refine r_aald0 F hw (t := 1) (b := 4) (n := 6) rfl rfl rfl dX7_gain_52 hi22 ?_
          refine lv_iload_n F.1 F.2.1 dX7_gain_53 rfl (lv_at hl 3 rfl) ?_
          refine lv_iload_n F.1 F.2.1 dX7_gain_54 rfl (lv_at hl 4 rfl) ?_
          refine r_iast0 F hw (n := 4) (sh_in4 hi22) dX7_gain_55 hi23 hf (fun M25 H26 o27 hw hf => ?_)
          refine lv_iload F.1 F.2.1 dX7_gain_56 (lv_at hl 0 rfl) ?_
          exact r_iret_w F hw (vp_nar_int _) dX7_gain_58 hf
        · refine lv_aload_n F.1 F.2.1 dX7_gain_26 rfl (lv_at hl 0 rfl) ?_
          refine clX7_30 F hw hl ⟨Nat.le_of_ble_eq_true rfl, Nat.le_of_ble_eq_true rfl⟩ (Nat.le_of_ble_eq_true rfl) dX7_gain_27 hf (fun t32 M31 H28 o29 hw hn30 hf => ?_)
          exact r_iret_w F hw (vp_nar_int _) dX7_gain_30 hf
def fX7_draw (v1 : Int32) (M : Mem) : Option (Int32 × Mem) :=
  if v1 < 0 then
    bnd2 (fX7_refuseBad M) fun t5 M4 =>
    some (t5, M4)
  else
    if v1 ≤ (999999 : Int32) then
      bnd2 (fX2_drawGains v1 M) fun t10 M9 =>
      some (t10, M9)
    else
      bnd2 (fX7_refuseBad M) fun t15 M14 =>
      some (t15, M14)
set_option maxHeartbeats 4000000 in
set_option maxRecDepth 100000 in
theorem cX7_draw_ok (l : Launch) (D : va_G) (cA : Nat → ClassId) (ad : Nat → Nat) (M : Mem) (v1 : Int32) (r : Int32) (M' : Mem) (hf : fX7_draw v1 M = some (r, M')) : Ctg l yX7_draw cX7_draw 2 (some .int) 1 26 shC D cA ad [.ref (ad 0), .int v1] M (Qzi shC D cA ad .int r M') := by
  refine ct_in (by decide) (Nat.le_of_ble_eq_true rfl) ?_
  intro p e s m below meth c ls F hl hw
  have hl : lv_has ls 2 [(0, .ref (ad 0)), (1, .int v1)] := hl
  unfold fX7_draw at hf
  refine lv_iload_n F.1 F.2.1 dX7_draw_0 rfl (lv_at hl 1 rfl) ?_
  refine b_if_lt F dX7_draw_1 (tgt := 10) (by decide) hf (fun hc17 hf => ?_) (fun hc17 hf => ?_)
  · refine lv_aload_n F.1 F.2.1 dX7_draw_10 rfl (lv_at hl 0 rfl) ?_
    refine clX7_30 F hw hl ⟨Nat.le_of_ble_eq_true rfl, Nat.le_of_ble_eq_true rfl⟩ (Nat.le_of_ble_eq_true rfl) dX7_draw_11 hf (fun t5 M4 H1 o2 hw hn3 hf => ?_)
    exact r_iret_w F hw (vp_nar_int _) dX7_draw_14 hf
  · refine lv_iload_n F.1 F.2.1 dX7_draw_4 rfl (lv_at hl 1 rfl) ?_
    refine lv_ldc F.1 F.2.1 F.2.2.2.1 (F.2.2.2.2.1 _ kw_418) dX7_draw_5 ?_
    refine b_icmp_le F dX7_draw_7 (tgt := 15) (by decide) hf (fun hc16 hf => ?_) (fun hc16 hf => ?_)
    · refine lv_aload_n F.1 F.2.1 dX7_draw_15 rfl (lv_at hl 0 rfl) ?_
      refine gX7_12 F hw rfl dX7_draw_16 ?_
      refine lv_iload_n F.1 F.2.1 dX7_draw_19 rfl (lv_at hl 1 rfl) ?_
      refine clX7_71 F hw hl ⟨Nat.le_of_ble_eq_true rfl, Nat.le_of_ble_eq_true rfl⟩ (Nat.le_of_ble_eq_true rfl) dX7_draw_20 hf (fun t10 M9 H6 o7 hw hn8 hf => ?_)
      exact r_iret_w F hw (vp_nar_int _) dX7_draw_23 hf
    · refine lv_aload_n F.1 F.2.1 dX7_draw_10 rfl (lv_at hl 0 rfl) ?_
      refine clX7_30 F hw hl ⟨Nat.le_of_ble_eq_true rfl, Nat.le_of_ble_eq_true rfl⟩ (Nat.le_of_ble_eq_true rfl) dX7_draw_11 hf (fun t15 M14 H11 o12 hw hn13 hf => ?_)
      exact r_iret_w F hw (vp_nar_int _) dX7_draw_14 hf
def fX7_mostOfSender (v0 : Int32) : Int32 :=
  if v0 = (0 : Int32) then
    (5 : Int32)
  else if v0 = (1 : Int32) then
    (4 : Int32)
  else if v0 = (2 : Int32) then
    (63 : Int32)
  else 
    (1 : Int32)
set_option maxHeartbeats 4000000 in
set_option maxRecDepth 100000 in
theorem cX7_mostOfSender_ok (l : Launch) (D : va_G) (cA : Nat → ClassId) (ad : Nat → Nat) (M : Mem) (v0 : Int32) (r : Int32) (hf : fX7_mostOfSender v0 = r) : Ctg l yX7_mostOfSender cX7_mostOfSender 1 (some .int) 0 0 shC D cA ad [.int v0] M (Qzi shC D cA ad .int r M) := by
  refine ct_in (by decide) (Nat.le_of_ble_eq_true rfl) ?_
  intro p e s m below meth c ls F hl hw
  have hl : lv_has ls 1 [(0, .int v0)] := hl
  unfold fX7_mostOfSender at hf
  refine lv_iload_n F.1 F.2.1 dX7_mostOfSender_0 rfl (lv_at hl 0 rfl) ?_
  by_cases hc1 : v0 = (0 : Int32)
  · rw [if_pos hc1] at hf
    refine lv_tableIn F.1 F.2.1 dX7_mostOfSender_1 (tgt := 28) (off := 27) (by rw [hc1]; decide) (by rw [hc1]; decide) (by rw [hc1]; decide) (by decide) ?_
    refine k_iconst_5 F dX7_mostOfSender_28 ?_
    exact r_iret_t F hw (vp_nar_int _) dX7_mostOfSender_29 hf
  · rw [if_neg hc1] at hf
    by_cases hc2 : v0 = (1 : Int32)
    · rw [if_pos hc2] at hf
      refine lv_tableIn F.1 F.2.1 dX7_mostOfSender_1 (tgt := 30) (off := 29) (by rw [hc2]; decide) (by rw [hc2]; decide) (by rw [hc2]; decide) (by decide) ?_
      refine k_iconst_4 F dX7_mostOfSender_30 ?_
      exact r_iret_t F hw (vp_nar_int _) dX7_mostOfSender_31 hf
    · rw [if_neg hc2] at hf
      by_cases hc3 : v0 = (2 : Int32)
      · rw [if_pos hc3] at hf
        refine lv_tableIn F.1 F.2.1 dX7_mostOfSender_1 (tgt := 32) (off := 31) (by rw [hc3]; decide) (by rw [hc3]; decide) (by rw [hc3]; decide) (by decide) ?_
        refine k_bipush_63 F dX7_mostOfSender_32 ?_
        exact r_iret_t F hw (vp_nar_int _) dX7_mostOfSender_34 hf
      · rw [if_neg hc3] at hf
        refine lv_tableOut F.1 F.2.1 dX7_mostOfSender_1 (tgt := 35) (by have hc1t := lv_neT (a := 0) hc1 (by decide); have hc2t := lv_neT (a := 1) hc2 (by decide); have hc3t := lv_neT (a := 2) hc3 (by decide); omega) (by decide) ?_
        refine k_iconst_1 F dX7_mostOfSender_35 ?_
        exact r_iret_t F hw (vp_nar_int _) dX7_mostOfSender_36 hf
theorem clX7_74 (F : Fx D cA RX7 cc nL ret p s m args meth c) (hw : Wd shC D cA ad H0 M H locs) (hl : lv_has ls nL lv) {v0 : Int32} (hR : 1 ≤ R.frames ∧ 20 ≤ R.locals) (hrm : (rest.map fun v => v.category).sum ≤ 8) (hd : decode cc pc = .ok (.invokestatic 74, 3)) (kk : ∀ (H1 : Heap) (locs1 : List Loc), Wd shC D cA ad H0 M H1 locs1 → narrow .int (.int (fX7_mostOfSender v0)) = .int (fX7_mostOfSender v0) → W p l e R s m args below meth c H1 locs1 0 0 Q (F0 m (pc + 3) ls (.int (fX7_mostOfSender v0) :: rest))) : W p l e R s m args below meth c H locs 0 0 Q (F0 m pc ls (.int v0 :: rest)) :=
  r_afti hw (r_runS (As := [.int v0]) F hw hl (cX7_mostOfSender_ok l D cA ad M v0 (fX7_mostOfSender v0) rfl) cwX7_74 hR hrm hd) (fun H1 o1 hw1 hn => kk H1 o1 hw1 hn)
def fX7_sender (v1 : Int32) (v2 : Int32) (v3 : Int32) (M : Mem) : Option (Int32 × Mem) :=
  if (fX7_isSender v1 M) = 0 then
    bnd2 (fX7_refuseBad M) fun t8 M7 =>
    some (t8, M7)
  else
    if v2 < 0 then
      bnd2 (fX7_refuseBad M) fun t13 M12 =>
      some (t13, M12)
    else
      if (3 : Int32) < v2 then
        bnd2 (fX7_refuseBad M) fun t18 M17 =>
        some (t18, M17)
      else
        if v3 < 0 then
          bnd2 (fX7_refuseBad M) fun t23 M22 =>
          some (t23, M22)
        else
          if v3 ≤ (fX7_mostOfSender v2) then
            ix v1 6 <|
            bnd2 (fX3_change (11 + v1.toNatClampNeg) v2 v3 M) fun t32 M31 =>
            some (t32, M31)
          else
            bnd2 (fX7_refuseBad M) fun t37 M36 =>
            some (t37, M36)
set_option maxHeartbeats 4000000 in
set_option maxRecDepth 100000 in
theorem cX7_sender_ok (l : Launch) (D : va_G) (cA : Nat → ClassId) (ad : Nat → Nat) (M : Mem) (v1 : Int32) (v2 : Int32) (v3 : Int32) (r : Int32) (M' : Mem) (hf : fX7_sender v1 v2 v3 M = some (r, M')) : Ctg l yX7_sender cX7_sender 4 (some .int) 2 44 shC D cA ad [.ref (ad 0), .int v1, .int v2, .int v3] M (Qzi shC D cA ad .int r M') := by
  refine ct_in (by decide) (Nat.le_of_ble_eq_true rfl) ?_
  intro p e s m below meth c ls F hl hw
  have hl : lv_has ls 4 [(0, .ref (ad 0)), (1, .int v1), (2, .int v2), (3, .int v3)] := hl
  unfold fX7_sender at hf
  refine lv_aload_n F.1 F.2.1 dX7_sender_0 rfl (lv_at hl 0 rfl) ?_
  refine lv_iload_n F.1 F.2.1 dX7_sender_1 rfl (lv_at hl 1 rfl) ?_
  refine clX7_63 F hw hl ⟨Nat.le_of_ble_eq_true rfl, Nat.le_of_ble_eq_true rfl⟩ (Nat.le_of_ble_eq_true rfl) dX7_sender_2 (fun H1 o2 hw hn3 => ?_)
  refine b_if_eq F dX7_sender_5 (tgt := 29) (by decide) hf (fun hc42 hf => ?_) (fun hc42 hf => ?_)
  · refine lv_aload_n F.1 F.2.1 dX7_sender_29 rfl (lv_at hl 0 rfl) ?_
    refine clX7_30 F hw hl ⟨Nat.le_of_ble_eq_true rfl, Nat.le_of_ble_eq_true rfl⟩ (Nat.le_of_ble_eq_true rfl) dX7_sender_30 hf (fun t8 M7 H4 o5 hw hn6 hf => ?_)
    exact r_iret_w F hw (vp_nar_int _) dX7_sender_33 hf
  · refine lv_iload_n F.1 F.2.1 dX7_sender_8 rfl (lv_at hl 2 rfl) ?_
    refine b_if_lt F dX7_sender_9 (tgt := 29) (by decide) hf (fun hc41 hf => ?_) (fun hc41 hf => ?_)
    · refine lv_aload_n F.1 F.2.1 dX7_sender_29 rfl (lv_at hl 0 rfl) ?_
      refine clX7_30 F hw hl ⟨Nat.le_of_ble_eq_true rfl, Nat.le_of_ble_eq_true rfl⟩ (Nat.le_of_ble_eq_true rfl) dX7_sender_30 hf (fun t13 M12 H9 o10 hw hn11 hf => ?_)
      exact r_iret_w F hw (vp_nar_int _) dX7_sender_33 hf
    · refine lv_iload_n F.1 F.2.1 dX7_sender_12 rfl (lv_at hl 2 rfl) ?_
      refine k_iconst_3 F dX7_sender_13 ?_
      refine b_icmp_gt F dX7_sender_14 (tgt := 29) (by decide) hf (fun hc40 hf => ?_) (fun hc40 hf => ?_)
      · refine lv_aload_n F.1 F.2.1 dX7_sender_29 rfl (lv_at hl 0 rfl) ?_
        refine clX7_30 F hw hl ⟨Nat.le_of_ble_eq_true rfl, Nat.le_of_ble_eq_true rfl⟩ (Nat.le_of_ble_eq_true rfl) dX7_sender_30 hf (fun t18 M17 H14 o15 hw hn16 hf => ?_)
        exact r_iret_w F hw (vp_nar_int _) dX7_sender_33 hf
      · refine lv_iload_n F.1 F.2.1 dX7_sender_17 rfl (lv_at hl 3 rfl) ?_
        refine b_if_lt F dX7_sender_18 (tgt := 29) (by decide) hf (fun hc39 hf => ?_) (fun hc39 hf => ?_)
        · refine lv_aload_n F.1 F.2.1 dX7_sender_29 rfl (lv_at hl 0 rfl) ?_
          refine clX7_30 F hw hl ⟨Nat.le_of_ble_eq_true rfl, Nat.le_of_ble_eq_true rfl⟩ (Nat.le_of_ble_eq_true rfl) dX7_sender_30 hf (fun t23 M22 H19 o20 hw hn21 hf => ?_)
          exact r_iret_w F hw (vp_nar_int _) dX7_sender_33 hf
        · refine lv_iload_n F.1 F.2.1 dX7_sender_21 rfl (lv_at hl 3 rfl) ?_
          refine lv_iload_n F.1 F.2.1 dX7_sender_22 rfl (lv_at hl 2 rfl) ?_
          refine clX7_74 F hw hl ⟨Nat.le_of_ble_eq_true rfl, Nat.le_of_ble_eq_true rfl⟩ (Nat.le_of_ble_eq_true rfl) dX7_sender_23 (fun H24 o25 hw hn26 => ?_)
          refine b_icmp_le F dX7_sender_26 (tgt := 34) (by decide) hf (fun hc38 hf => ?_) (fun hc38 hf => ?_)
          · refine lv_aload_n F.1 F.2.1 dX7_sender_34 rfl (lv_at hl 0 rfl) ?_
            refine gX7_12 F hw rfl dX7_sender_35 ?_
            refine gX7_77 F hw rfl dX7_sender_38 ?_
            refine lv_iload_n F.1 F.2.1 dX7_sender_41 rfl (lv_at hl 1 rfl) ?_
            refine r_aald F hw (t := 2) (b := 11) (n := 6) rfl rfl rfl dX7_sender_42 hf (fun hi27 hf => ?_)
            refine lv_iload_n F.1 F.2.1 dX7_sender_43 rfl (lv_at hl 2 rfl) ?_
            refine lv_iload_n F.1 F.2.1 dX7_sender_44 rfl (lv_at hl 3 rfl) ?_
            refine clX7_81 F hw hl (sh_in11 hi27) ⟨Nat.le_of_ble_eq_true rfl, Nat.le_of_ble_eq_true rfl⟩ (Nat.le_of_ble_eq_true rfl) dX7_sender_45 hf (fun t32 M31 H28 o29 hw hn30 hf => ?_)
            exact r_iret_w F hw (vp_nar_int _) dX7_sender_48 hf
          · refine lv_aload_n F.1 F.2.1 dX7_sender_29 rfl (lv_at hl 0 rfl) ?_
            refine clX7_30 F hw hl ⟨Nat.le_of_ble_eq_true rfl, Nat.le_of_ble_eq_true rfl⟩ (Nat.le_of_ble_eq_true rfl) dX7_sender_30 hf (fun t37 M36 H33 o34 hw hn35 hf => ?_)
            exact r_iret_w F hw (vp_nar_int _) dX7_sender_33 hf
def fX7_refuseFull (M : Mem) : Option (Int32 × Mem) :=
  wr M 0 4 ((M 0 4) + (1 : Int32)) fun M1 =>
  some ((-4 : Int32), M1)
set_option maxHeartbeats 4000000 in
set_option maxRecDepth 100000 in
theorem cX7_refuseFull_ok (l : Launch) (D : va_G) (cA : Nat → ClassId) (ad : Nat → Nat) (M : Mem)  (r : Int32) (M' : Mem) (hf : fX7_refuseFull M = some (r, M')) : Ctg l yX7_refuseFull cX7_refuseFull 1 (some .int) 0 0 shC D cA ad [.ref (ad 0)] M (Qzi shC D cA ad .int r M') := by
  refine ct_in (by decide) (Nat.le_of_ble_eq_true rfl) ?_
  intro p e s m below meth c ls F hl hw
  have hl : lv_has ls 1 [(0, .ref (ad 0))] := hl
  unfold fX7_refuseFull at hf
  refine lv_aload_n F.1 F.2.1 dX7_refuseFull_0 rfl (lv_at hl 0 rfl) ?_
  refine lv_dup F.1 F.2.1 dX7_refuseFull_1 rfl ?_
  refine gX7_184 F hw rfl dX7_refuseFull_2 ?_
  refine k_iconst_1 F dX7_refuseFull_5 ?_
  refine lv_iadd F.1 F.2.1 dX7_refuseFull_6 ?_
  refine qX7_184 F hw rfl dX7_refuseFull_7 hf (fun M1 H2 o3 hw hf => ?_)
  refine k_bipush_m4 F dX7_refuseFull_10 ?_
  exact r_iret_w F hw (vp_nar_int _) dX7_refuseFull_12 hf
theorem clX7_91 (F : Fx D cA RX7 cc nL ret p s m args meth c) (hw : Wd shC D cA ad H0 M H locs) (hl : lv_has ls nL lv) (hR : 1 ≤ R.frames ∧ 20 ≤ R.locals) (hrm : (rest.map fun v => v.category).sum ≤ 8) (hd : decode cc pc = .ok (.invokevirtual 91, 3)) {α : Type} {K : Int32 → Mem → Option α} {res : α} (hf : bnd2 (fX7_refuseFull M) K = some res) (kk : ∀ (t : Int32) (M1 : Mem) (H1 : Heap) (locs1 : List Loc), Wd shC D cA ad H0 M1 H1 locs1 → narrow .int (.int t) = .int t → K t M1 = some res → W p l e R s m args below meth c H1 locs1 0 0 Q (F0 m (pc + 3) ls (.int t :: rest))) : W p l e R s m args below meth c H locs 0 0 Q (F0 m pc ls (.ref (ad 0) :: rest)) := by
  obtain ⟨t, M1, h1, h2⟩ := bnd2_some hf
  exact r_afti hw (r_runV (As := []) F hw hl (cX7_refuseFull_ok l D cA ad M t M1 h1) cz7 (show shC[0]? = some (.inr (7, sf7)) from rfl) cwX7_91 hR hrm hd) (fun H1 o1 hw1 hn => kk t M1 H1 o1 hw1 hn h2)
def fX7_sends (v1 : Int32) (M : Mem) : Option (Int32 × Mem) :=
  if (fX7_isSender v1 M) = 0 then
    bnd2 (fX7_refuseBad M) fun t22 M21 =>
    some (t22, M21)
  else
    if (fX2_isFull M) = 0 then
      bnd2 (fX2_sendNext v1 M) fun t11 M10 =>
      some (t11, M10)
    else
      bnd2 (fX7_refuseFull M) fun t16 M15 =>
      some (t16, M15)
set_option maxHeartbeats 4000000 in
set_option maxRecDepth 100000 in
theorem cX7_sends_ok (l : Launch) (D : va_G) (cA : Nat → ClassId) (ad : Nat → Nat) (M : Mem) (v1 : Int32) (r : Int32) (M' : Mem) (hf : fX7_sends v1 M = some (r, M')) : Ctg l yX7_sends cX7_sends 2 (some .int) 3 71 shC D cA ad [.ref (ad 0), .int v1] M (Qzi shC D cA ad .int r M') := by
  refine ct_in (by decide) (Nat.le_of_ble_eq_true rfl) ?_
  intro p e s m below meth c ls F hl hw
  have hl : lv_has ls 2 [(0, .ref (ad 0)), (1, .int v1)] := hl
  unfold fX7_sends at hf
  refine lv_aload_n F.1 F.2.1 dX7_sends_0 rfl (lv_at hl 0 rfl) ?_
  refine lv_iload_n F.1 F.2.1 dX7_sends_1 rfl (lv_at hl 1 rfl) ?_
  refine clX7_63 F hw hl ⟨Nat.le_of_ble_eq_true rfl, Nat.le_of_ble_eq_true rfl⟩ (Nat.le_of_ble_eq_true rfl) dX7_sends_2 (fun H1 o2 hw hn3 => ?_)
  refine b_if_ne F dX7_sends_5 (tgt := 13) (by decide) hf (fun hc23 hf => ?_) (fun hc23 hf => ?_)
  · refine lv_aload_n F.1 F.2.1 dX7_sends_8 rfl (lv_at hl 0 rfl) ?_
    refine clX7_30 F hw hl ⟨Nat.le_of_ble_eq_true rfl, Nat.le_of_ble_eq_true rfl⟩ (Nat.le_of_ble_eq_true rfl) dX7_sends_9 hf (fun t22 M21 H18 o19 hw hn20 hf => ?_)
    exact r_iret_w F hw (vp_nar_int _) dX7_sends_12 hf
  · refine lv_aload_n F.1 F.2.1 dX7_sends_13 rfl (lv_at hl 0 rfl) ?_
    refine gX7_12 F hw rfl dX7_sends_14 ?_
    refine clX7_87 F hw hl ⟨Nat.le_of_ble_eq_true rfl, Nat.le_of_ble_eq_true rfl⟩ (Nat.le_of_ble_eq_true rfl) dX7_sends_17 (fun H4 o5 hw hn6 => ?_)
    refine b_if_eq F dX7_sends_20 (tgt := 28) (by decide) hf (fun hc17 hf => ?_) (fun hc17 hf => ?_)
    · refine lv_aload_n F.1 F.2.1 dX7_sends_28 rfl (lv_at hl 0 rfl) ?_
      refine gX7_12 F hw rfl dX7_sends_29 ?_
      refine lv_iload_n F.1 F.2.1 dX7_sends_32 rfl (lv_at hl 1 rfl) ?_
      refine clX7_94 F hw hl ⟨Nat.le_of_ble_eq_true rfl, Nat.le_of_ble_eq_true rfl⟩ (Nat.le_of_ble_eq_true rfl) dX7_sends_33 hf (fun t11 M10 H7 o8 hw hn9 hf => ?_)
      exact r_iret_w F hw (vp_nar_int _) dX7_sends_36 hf
    · refine lv_aload_n F.1 F.2.1 dX7_sends_23 rfl (lv_at hl 0 rfl) ?_
      refine clX7_91 F hw hl ⟨Nat.le_of_ble_eq_true rfl, Nat.le_of_ble_eq_true rfl⟩ (Nat.le_of_ble_eq_true rfl) dX7_sends_24 hf (fun t16 M15 H12 o13 hw hn14 hf => ?_)
      exact r_iret_w F hw (vp_nar_int _) dX7_sends_27 hf
def fX7_refuseNo (M : Mem) : Option (Int32 × Mem) :=
  wr M 0 3 ((M 0 3) + (1 : Int32)) fun M1 =>
  some ((-3 : Int32), M1)
set_option maxHeartbeats 4000000 in
set_option maxRecDepth 100000 in
theorem cX7_refuseNo_ok (l : Launch) (D : va_G) (cA : Nat → ClassId) (ad : Nat → Nat) (M : Mem)  (r : Int32) (M' : Mem) (hf : fX7_refuseNo M = some (r, M')) : Ctg l yX7_refuseNo cX7_refuseNo 1 (some .int) 0 0 shC D cA ad [.ref (ad 0)] M (Qzi shC D cA ad .int r M') := by
  refine ct_in (by decide) (Nat.le_of_ble_eq_true rfl) ?_
  intro p e s m below meth c ls F hl hw
  have hl : lv_has ls 1 [(0, .ref (ad 0))] := hl
  unfold fX7_refuseNo at hf
  refine lv_aload_n F.1 F.2.1 dX7_refuseNo_0 rfl (lv_at hl 0 rfl) ?_
  refine lv_dup F.1 F.2.1 dX7_refuseNo_1 rfl ?_
  refine gX7_181 F hw rfl dX7_refuseNo_2 ?_
  refine k_iconst_1 F dX7_refuseNo_5 ?_
  refine lv_iadd F.1 F.2.1 dX7_refuseNo_6 ?_
  refine qX7_181 F hw rfl dX7_refuseNo_7 hf (fun M1 H2 o3 hw hf => ?_)
  refine k_bipush_m3 F dX7_refuseNo_10 ?_
  exact r_iret_w F hw (vp_nar_int _) dX7_refuseNo_12 hf
theorem clX7_100 (F : Fx D cA RX7 cc nL ret p s m args meth c) (hw : Wd shC D cA ad H0 M H locs) (hl : lv_has ls nL lv) (hR : 1 ≤ R.frames ∧ 20 ≤ R.locals) (hrm : (rest.map fun v => v.category).sum ≤ 8) (hd : decode cc pc = .ok (.invokevirtual 100, 3)) {α : Type} {K : Int32 → Mem → Option α} {res : α} (hf : bnd2 (fX7_refuseNo M) K = some res) (kk : ∀ (t : Int32) (M1 : Mem) (H1 : Heap) (locs1 : List Loc), Wd shC D cA ad H0 M1 H1 locs1 → narrow .int (.int t) = .int t → K t M1 = some res → W p l e R s m args below meth c H1 locs1 0 0 Q (F0 m (pc + 3) ls (.int t :: rest))) : W p l e R s m args below meth c H locs 0 0 Q (F0 m pc ls (.ref (ad 0) :: rest)) := by
  obtain ⟨t, M1, h1, h2⟩ := bnd2_some hf
  exact r_afti hw (r_runV (As := []) F hw hl (cX7_refuseNo_ok l D cA ad M t M1 h1) cz7 (show shC[0]? = some (.inr (7, sf7)) from rfl) cwX7_100 hR hrm hd) (fun H1 o1 hw1 hn => kk t M1 H1 o1 hw1 hn h2)
def fX7_again (v1 : Int32) (M : Mem) : Option (Int32 × Mem) :=
  if (fX7_isSender v1 M) = 0 then
    bnd2 (fX7_refuseBad M) fun t32 M31 =>
    some (t32, M31)
  else
    ix v1 6 <|
    if (fX3_hasSent (11 + v1.toNatClampNeg) M) = 0 then
      bnd2 (fX7_refuseNo M) fun t26 M25 =>
      some (t26, M25)
    else
      if (fX2_isFull M) = 0 then
        bnd2 (fX2_sendLastAgain v1 M) fun t15 M14 =>
        some (t15, M14)
      else
        bnd2 (fX7_refuseFull M) fun t20 M19 =>
        some (t20, M19)
set_option maxHeartbeats 4000000 in
set_option maxRecDepth 100000 in
theorem cX7_again_ok (l : Launch) (D : va_G) (cA : Nat → ClassId) (ad : Nat → Nat) (M : Mem) (v1 : Int32) (r : Int32) (M' : Mem) (hf : fX7_again v1 M = some (r, M')) : Ctg l yX7_again cX7_again 2 (some .int) 3 71 shC D cA ad [.ref (ad 0), .int v1] M (Qzi shC D cA ad .int r M') := by
  refine ct_in (by decide) (Nat.le_of_ble_eq_true rfl) ?_
  intro p e s m below meth c ls F hl hw
  have hl : lv_has ls 2 [(0, .ref (ad 0)), (1, .int v1)] := hl
  unfold fX7_again at hf
  refine lv_aload_n F.1 F.2.1 dX7_again_0 rfl (lv_at hl 0 rfl) ?_
  refine lv_iload_n F.1 F.2.1 dX7_again_1 rfl (lv_at hl 1 rfl) ?_
  refine clX7_63 F hw hl ⟨Nat.le_of_ble_eq_true rfl, Nat.le_of_ble_eq_true rfl⟩ (Nat.le_of_ble_eq_true rfl) dX7_again_2 (fun H1 o2 hw hn3 => ?_)
  refine b_if_ne F dX7_again_5 (tgt := 13) (by decide) hf (fun hc33 hf => ?_) (fun hc33 hf => ?_)
  · refine lv_aload_n F.1 F.2.1 dX7_again_8 rfl (lv_at hl 0 rfl) ?_
    refine clX7_30 F hw hl ⟨Nat.le_of_ble_eq_true rfl, Nat.le_of_ble_eq_true rfl⟩ (Nat.le_of_ble_eq_true rfl) dX7_again_9 hf (fun t32 M31 H28 o29 hw hn30 hf => ?_)
    exact r_iret_w F hw (vp_nar_int _) dX7_again_12 hf
  · refine lv_aload_n F.1 F.2.1 dX7_again_13 rfl (lv_at hl 0 rfl) ?_
    refine gX7_12 F hw rfl dX7_again_14 ?_
    refine gX7_77 F hw rfl dX7_again_17 ?_
    refine lv_iload_n F.1 F.2.1 dX7_again_20 rfl (lv_at hl 1 rfl) ?_
    refine r_aald F hw (t := 2) (b := 11) (n := 6) rfl rfl rfl dX7_again_21 hf (fun hi4 hf => ?_)
    refine clX7_97 F hw hl (sh_in11 hi4) ⟨Nat.le_of_ble_eq_true rfl, Nat.le_of_ble_eq_true rfl⟩ (Nat.le_of_ble_eq_true rfl) dX7_again_22 (fun H5 o6 hw hn7 => ?_)
    refine b_if_ne F dX7_again_25 (tgt := 33) (by decide) hf (fun hc27 hf => ?_) (fun hc27 hf => ?_)
    · refine lv_aload_n F.1 F.2.1 dX7_again_28 rfl (lv_at hl 0 rfl) ?_
      refine clX7_100 F hw hl ⟨Nat.le_of_ble_eq_true rfl, Nat.le_of_ble_eq_true rfl⟩ (Nat.le_of_ble_eq_true rfl) dX7_again_29 hf (fun t26 M25 H22 o23 hw hn24 hf => ?_)
      exact r_iret_w F hw (vp_nar_int _) dX7_again_32 hf
    · refine lv_aload_n F.1 F.2.1 dX7_again_33 rfl (lv_at hl 0 rfl) ?_
      refine gX7_12 F hw rfl dX7_again_34 ?_
      refine clX7_87 F hw hl ⟨Nat.le_of_ble_eq_true rfl, Nat.le_of_ble_eq_true rfl⟩ (Nat.le_of_ble_eq_true rfl) dX7_again_37 (fun H8 o9 hw hn10 => ?_)
      refine b_if_eq F dX7_again_40 (tgt := 48) (by decide) hf (fun hc21 hf => ?_) (fun hc21 hf => ?_)
      · refine lv_aload_n F.1 F.2.1 dX7_again_48 rfl (lv_at hl 0 rfl) ?_
        refine gX7_12 F hw rfl dX7_again_49 ?_
        refine lv_iload_n F.1 F.2.1 dX7_again_52 rfl (lv_at hl 1 rfl) ?_
        refine clX7_103 F hw hl ⟨Nat.le_of_ble_eq_true rfl, Nat.le_of_ble_eq_true rfl⟩ (Nat.le_of_ble_eq_true rfl) dX7_again_53 hf (fun t15 M14 H11 o12 hw hn13 hf => ?_)
        exact r_iret_w F hw (vp_nar_int _) dX7_again_56 hf
      · refine lv_aload_n F.1 F.2.1 dX7_again_43 rfl (lv_at hl 0 rfl) ?_
        refine clX7_91 F hw hl ⟨Nat.le_of_ble_eq_true rfl, Nat.le_of_ble_eq_true rfl⟩ (Nat.le_of_ble_eq_true rfl) dX7_again_44 hf (fun t20 M19 H16 o17 hw hn18 hf => ?_)
        exact r_iret_w F hw (vp_nar_int _) dX7_again_47 hf
def fX7_ticks (v1 : Int32) (M : Mem) : Option (Int32 × Mem) :=
  if v1 < (1 : Int32) then
    bnd2 (fX7_refuseBad M) fun t5 M4 =>
    some (t5, M4)
  else
    if v1 ≤ (99 : Int32) then
      bnd2 (fX2_passTicks v1 M) fun t10 M9 =>
      some (t10, M9)
    else
      bnd2 (fX7_refuseBad M) fun t15 M14 =>
      some (t15, M14)
set_option maxHeartbeats 4000000 in
set_option maxRecDepth 100000 in
theorem cX7_ticks_ok (l : Launch) (D : va_G) (cA : Nat → ClassId) (ad : Nat → Nat) (M : Mem) (v1 : Int32) (r : Int32) (M' : Mem) (hf : fX7_ticks v1 M = some (r, M')) : Ctg l yX7_ticks cX7_ticks 2 (some .int) 6 135 shC D cA ad [.ref (ad 0), .int v1] M (Qzi shC D cA ad .int r M') := by
  refine ct_in (by decide) (Nat.le_of_ble_eq_true rfl) ?_
  intro p e s m below meth c ls F hl hw
  have hl : lv_has ls 2 [(0, .ref (ad 0)), (1, .int v1)] := hl
  unfold fX7_ticks at hf
  refine lv_iload_n F.1 F.2.1 dX7_ticks_0 rfl (lv_at hl 1 rfl) ?_
  refine k_iconst_1 F dX7_ticks_1 ?_
  refine b_icmp_lt F dX7_ticks_2 (tgt := 11) (by decide) hf (fun hc17 hf => ?_) (fun hc17 hf => ?_)
  · refine lv_aload_n F.1 F.2.1 dX7_ticks_11 rfl (lv_at hl 0 rfl) ?_
    refine clX7_30 F hw hl ⟨Nat.le_of_ble_eq_true rfl, Nat.le_of_ble_eq_true rfl⟩ (Nat.le_of_ble_eq_true rfl) dX7_ticks_12 hf (fun t5 M4 H1 o2 hw hn3 hf => ?_)
    exact r_iret_w F hw (vp_nar_int _) dX7_ticks_15 hf
  · refine lv_iload_n F.1 F.2.1 dX7_ticks_5 rfl (lv_at hl 1 rfl) ?_
    refine k_bipush_99 F dX7_ticks_6 ?_
    refine b_icmp_le F dX7_ticks_8 (tgt := 16) (by decide) hf (fun hc16 hf => ?_) (fun hc16 hf => ?_)
    · refine lv_aload_n F.1 F.2.1 dX7_ticks_16 rfl (lv_at hl 0 rfl) ?_
      refine gX7_12 F hw rfl dX7_ticks_17 ?_
      refine lv_iload_n F.1 F.2.1 dX7_ticks_20 rfl (lv_at hl 1 rfl) ?_
      refine clX7_106 F hw hl ⟨Nat.le_of_ble_eq_true rfl, Nat.le_of_ble_eq_true rfl⟩ (Nat.le_of_ble_eq_true rfl) dX7_ticks_21 hf (fun t10 M9 H6 o7 hw hn8 hf => ?_)
      exact r_iret_w F hw (vp_nar_int _) dX7_ticks_24 hf
    · refine lv_aload_n F.1 F.2.1 dX7_ticks_11 rfl (lv_at hl 0 rfl) ?_
      refine clX7_30 F hw hl ⟨Nat.le_of_ble_eq_true rfl, Nat.le_of_ble_eq_true rfl⟩ (Nat.le_of_ble_eq_true rfl) dX7_ticks_12 hf (fun t15 M14 H11 o12 hw hn13 hf => ?_)
      exact r_iret_w F hw (vp_nar_int _) dX7_ticks_15 hf
def fX7_renews (v1 : Int32) (M : Mem) : Option (Int32 × Mem) :=
  if (fX7_isSender v1 M) = 0 then
    bnd2 (fX7_refuseBad M) fun t14 M13 =>
    some (t14, M13)
  else
    ix v1 6 <|
    bnd1 (fX3_becomeNew (11 + v1.toNatClampNeg) M) fun M9 =>
    some ((M (11 + v1.toNatClampNeg) 3), M9)
set_option maxHeartbeats 4000000 in
set_option maxRecDepth 100000 in
theorem cX7_renews_ok (l : Launch) (D : va_G) (cA : Nat → ClassId) (ad : Nat → Nat) (M : Mem) (v1 : Int32) (r : Int32) (M' : Mem) (hf : fX7_renews v1 M = some (r, M')) : Ctg l yX7_renews cX7_renews 3 (some .int) 1 21 shC D cA ad [.ref (ad 0), .int v1] M (Qzi shC D cA ad .int r M') := by
  refine ct_in (by decide) (Nat.le_of_ble_eq_true rfl) ?_
  intro p e s m below meth c ls F hl hw
  have hl : lv_has ls 3 [(0, .ref (ad 0)), (1, .int v1)] := hl
  unfold fX7_renews at hf
  refine lv_aload_n F.1 F.2.1 dX7_renews_0 rfl (lv_at hl 0 rfl) ?_
  refine lv_iload_n F.1 F.2.1 dX7_renews_1 rfl (lv_at hl 1 rfl) ?_
  refine clX7_63 F hw hl ⟨Nat.le_of_ble_eq_true rfl, Nat.le_of_ble_eq_true rfl⟩ (Nat.le_of_ble_eq_true rfl) dX7_renews_2 (fun H1 o2 hw hn3 => ?_)
  refine b_if_ne F dX7_renews_5 (tgt := 13) (by decide) hf (fun hc15 hf => ?_) (fun hc15 hf => ?_)
  · refine lv_aload_n F.1 F.2.1 dX7_renews_8 rfl (lv_at hl 0 rfl) ?_
    refine clX7_30 F hw hl ⟨Nat.le_of_ble_eq_true rfl, Nat.le_of_ble_eq_true rfl⟩ (Nat.le_of_ble_eq_true rfl) dX7_renews_9 hf (fun t14 M13 H10 o11 hw hn12 hf => ?_)
    exact r_iret_w F hw (vp_nar_int _) dX7_renews_12 hf
  · refine lv_aload_n F.1 F.2.1 dX7_renews_13 rfl (lv_at hl 0 rfl) ?_
    refine gX7_12 F hw rfl dX7_renews_14 ?_
    refine gX7_77 F hw rfl dX7_renews_17 ?_
    refine lv_iload_n F.1 F.2.1 dX7_renews_20 rfl (lv_at hl 1 rfl) ?_
    refine r_aald F hw (t := 2) (b := 11) (n := 6) rfl rfl rfl dX7_renews_21 hf (fun hi4 hf => ?_)
    refine gX7_109 F hw (sh_in11 hi4) dX7_renews_22 ?_
    refine lv_istore_n F.1 F.2.1 dX7_renews_25 rfl hl (lv' := [(2, .int (M (11 + v1.toNatClampNeg) 3)), (0, .ref (ad 0)), (1, .int v1)]) (Nat.le_of_ble_eq_true rfl) rfl (fun ls5 hl => ?_)
    refine lv_aload_n F.1 F.2.1 dX7_renews_26 rfl (lv_at hl 1 rfl) ?_
    refine gX7_12 F hw rfl dX7_renews_27 ?_
    refine gX7_77 F hw rfl dX7_renews_30 ?_
    refine lv_iload_n F.1 F.2.1 dX7_renews_33 rfl (lv_at hl 2 rfl) ?_
    refine r_aald0 F hw (t := 2) (b := 11) (n := 6) rfl rfl rfl dX7_renews_34 hi4 ?_
    refine clX7_112 F hw hl (sh_in11 hi4) ⟨Nat.le_of_ble_eq_true rfl, Nat.le_of_ble_eq_true rfl⟩ (Nat.le_of_ble_eq_true rfl) dX7_renews_35 hf (fun M9 H6 o7 hw hf => ?_)
    refine lv_iload_n F.1 F.2.1 dX7_renews_38 rfl (lv_at hl 0 rfl) ?_
    exact r_iret_w F hw (vp_nar_int _) dX7_renews_39 hf
def fX7_of (v1 : Int32) (v2 : Int32) (M : Mem) : Option (Int32 × Mem) :=
  if (fX7_isSender v1 M) = 0 then
    bnd2 (fX7_refuseBad M) fun t8 M7 =>
    some (t8, M7)
  else
    if v2 < 0 then
      bnd2 (fX7_refuseBad M) fun t13 M12 =>
      some (t13, M12)
    else
      if v2 ≤ (7 : Int32) then
        ix v1 6 <|
        some ((fX3_value (11 + v1.toNatClampNeg) v2 M), M)
      else
        bnd2 (fX7_refuseBad M) fun t22 M21 =>
        some (t22, M21)
set_option maxHeartbeats 4000000 in
set_option maxRecDepth 100000 in
theorem cX7_of_ok (l : Launch) (D : va_G) (cA : Nat → ClassId) (ad : Nat → Nat) (M : Mem) (v1 : Int32) (v2 : Int32) (r : Int32) (M' : Mem) (hf : fX7_of v1 v2 M = some (r, M')) : Ctg l yX7_of cX7_of 3 (some .int) 1 21 shC D cA ad [.ref (ad 0), .int v1, .int v2] M (Qzi shC D cA ad .int r M') := by
  refine ct_in (by decide) (Nat.le_of_ble_eq_true rfl) ?_
  intro p e s m below meth c ls F hl hw
  have hl : lv_has ls 3 [(0, .ref (ad 0)), (1, .int v1), (2, .int v2)] := hl
  unfold fX7_of at hf
  refine lv_aload_n F.1 F.2.1 dX7_of_0 rfl (lv_at hl 0 rfl) ?_
  refine lv_iload_n F.1 F.2.1 dX7_of_1 rfl (lv_at hl 1 rfl) ?_
  refine clX7_63 F hw hl ⟨Nat.le_of_ble_eq_true rfl, Nat.le_of_ble_eq_true rfl⟩ (Nat.le_of_ble_eq_true rfl) dX7_of_2 (fun H1 o2 hw hn3 => ?_)
  refine b_if_eq F dX7_of_5 (tgt := 18) (by decide) hf (fun hc25 hf => ?_) (fun hc25 hf => ?_)
  · refine lv_aload_n F.1 F.2.1 dX7_of_18 rfl (lv_at hl 0 rfl) ?_
    refine clX7_30 F hw hl ⟨Nat.le_of_ble_eq_true rfl, Nat.le_of_ble_eq_true rfl⟩ (Nat.le_of_ble_eq_true rfl) dX7_of_19 hf (fun t8 M7 H4 o5 hw hn6 hf => ?_)
    exact r_iret_w F hw (vp_nar_int _) dX7_of_22 hf
  · refine lv_iload_n F.1 F.2.1 dX7_of_8 rfl (lv_at hl 2 rfl) ?_
    refine b_if_lt F dX7_of_9 (tgt := 18) (by decide) hf (fun hc24 hf => ?_) (fun hc24 hf => ?_)
    · refine lv_aload_n F.1 F.2.1 dX7_of_18 rfl (lv_at hl 0 rfl) ?_
      refine clX7_30 F hw hl ⟨Nat.le_of_ble_eq_true rfl, Nat.le_of_ble_eq_true rfl⟩ (Nat.le_of_ble_eq_true rfl) dX7_of_19 hf (fun t13 M12 H9 o10 hw hn11 hf => ?_)
      exact r_iret_w F hw (vp_nar_int _) dX7_of_22 hf
    · refine lv_iload_n F.1 F.2.1 dX7_of_12 rfl (lv_at hl 2 rfl) ?_
      refine k_bipush_7 F dX7_of_13 ?_
      refine b_icmp_le F dX7_of_15 (tgt := 23) (by decide) hf (fun hc23 hf => ?_) (fun hc23 hf => ?_)
      · refine lv_aload_n F.1 F.2.1 dX7_of_23 rfl (lv_at hl 0 rfl) ?_
        refine gX7_12 F hw rfl dX7_of_24 ?_
        refine gX7_77 F hw rfl dX7_of_27 ?_
        refine lv_iload_n F.1 F.2.1 dX7_of_30 rfl (lv_at hl 1 rfl) ?_
        refine r_aald F hw (t := 2) (b := 11) (n := 6) rfl rfl rfl dX7_of_31 hf (fun hi14 hf => ?_)
        refine lv_iload_n F.1 F.2.1 dX7_of_32 rfl (lv_at hl 2 rfl) ?_
        refine clX7_115 F hw hl (sh_in11 hi14) ⟨Nat.le_of_ble_eq_true rfl, Nat.le_of_ble_eq_true rfl⟩ (Nat.le_of_ble_eq_true rfl) dX7_of_33 (fun H15 o16 hw hn17 => ?_)
        exact r_iret_w F hw (vp_nar_int _) dX7_of_36 hf
      · refine lv_aload_n F.1 F.2.1 dX7_of_18 rfl (lv_at hl 0 rfl) ?_
        refine clX7_30 F hw hl ⟨Nat.le_of_ble_eq_true rfl, Nat.le_of_ble_eq_true rfl⟩ (Nat.le_of_ble_eq_true rfl) dX7_of_19 hf (fun t22 M21 H18 o19 hw hn20 hf => ?_)
        exact r_iret_w F hw (vp_nar_int _) dX7_of_22 hf
theorem clX7_194 (F : Fx D cA RX7 cc nL ret p s m args meth c) (hw : Wd shC D cA ad H0 M H locs) (hl : lv_has ls nL lv) {v1 : Int32} {v2 : Int32} (hR : 2 ≤ R.frames ∧ 43 ≤ R.locals) (hrm : (rest.map fun v => v.category).sum ≤ 8) (hd : decode cc pc = .ok (.invokevirtual 194, 3)) {α : Type} {K : Int32 → Mem → Option α} {res : α} (hf : bnd2 (fX7_of v1 v2 M) K = some res) (kk : ∀ (t : Int32) (M1 : Mem) (H1 : Heap) (locs1 : List Loc), Wd shC D cA ad H0 M1 H1 locs1 → narrow .int (.int t) = .int t → K t M1 = some res → W p l e R s m args below meth c H1 locs1 0 0 Q (F0 m (pc + 3) ls (.int t :: rest))) : W p l e R s m args below meth c H locs 0 0 Q (F0 m pc ls (.int v2 :: .int v1 :: .ref (ad 0) :: rest)) := by
  obtain ⟨t, M1, h1, h2⟩ := bnd2_some hf
  exact r_afti hw (r_runV (As := [.int v1, .int v2]) F hw hl (cX7_of_ok l D cA ad M v1 v2 t M1 h1) cz7 (show shC[0]? = some (.inr (7, sf7)) from rfl) cwX7_194 hR hrm hd) (fun H1 o1 hw1 hn => kk t M1 H1 o1 hw1 hn h2)
def fX7_margin (v1 : Int32) (v2 : Int32) (M : Mem) : Option (Int32 × Mem) :=
  if (fX7_isSender v1 M) = 0 then
    bnd2 (fX7_refuseBad M) fun t8 M7 =>
    some (t8, M7)
  else
    if 0 ≤ v2 then
      ix v1 6 <|
      if (M (11 + v1.toNatClampNeg) 7) ≤ v2 then
        some ((-1000 : Int32), M)
      else
        if (4 : Int32) ≤ v2 then
          some ((-1000 : Int32), M)
        else
          ix v2 4 <|
          some ((M ((11 + v1.toNatClampNeg) + 6) v2.toNatClampNeg), M)
    else
      bnd2 (fX7_refuseBad M) fun t18 M17 =>
      some (t18, M17)
set_option maxHeartbeats 4000000 in
set_option maxRecDepth 100000 in
theorem cX7_margin_ok (l : Launch) (D : va_G) (cA : Nat → ClassId) (ad : Nat → Nat) (M : Mem) (v1 : Int32) (v2 : Int32) (r : Int32) (M' : Mem) (hf : fX7_margin v1 v2 M = some (r, M')) : Ctg l yX7_margin cX7_margin 4 (some .int) 1 21 shC D cA ad [.ref (ad 0), .int v1, .int v2] M (Qzi shC D cA ad .int r M') := by
  refine ct_in (by decide) (Nat.le_of_ble_eq_true rfl) ?_
  intro p e s m below meth c ls F hl hw
  have hl : lv_has ls 4 [(0, .ref (ad 0)), (1, .int v1), (2, .int v2)] := hl
  unfold fX7_margin at hf
  refine lv_aload_n F.1 F.2.1 dX7_margin_0 rfl (lv_at hl 0 rfl) ?_
  refine lv_iload_n F.1 F.2.1 dX7_margin_1 rfl (lv_at hl 1 rfl) ?_
  refine clX7_63 F hw hl ⟨Nat.le_of_ble_eq_true rfl, Nat.le_of_ble_eq_true rfl⟩ (Nat.le_of_ble_eq_true rfl) dX7_margin_2 (fun H1 o2 hw hn3 => ?_)
  refine b_if_eq F dX7_margin_5 (tgt := 12) (by decide) hf (fun hc20 hf => ?_) (fun hc20 hf => ?_)
  · refine lv_aload_n F.1 F.2.1 dX7_margin_12 rfl (lv_at hl 0 rfl) ?_
    refine clX7_30 F hw hl ⟨Nat.le_of_ble_eq_true rfl, Nat.le_of_ble_eq_true rfl⟩ (Nat.le_of_ble_eq_true rfl) dX7_margin_13 hf (fun t8 M7 H4 o5 hw hn6 hf => ?_)
    exact r_iret_w F hw (vp_nar_int _) dX7_margin_16 hf
  · refine lv_iload_n F.1 F.2.1 dX7_margin_8 rfl (lv_at hl 2 rfl) ?_
    refine b_if_ge F dX7_margin_9 (tgt := 17) (by decide) hf (fun hc19 hf => ?_) (fun hc19 hf => ?_)
    · refine lv_aload_n F.1 F.2.1 dX7_margin_17 rfl (lv_at hl 0 rfl) ?_
      refine gX7_12 F hw rfl dX7_margin_18 ?_
      refine gX7_77 F hw rfl dX7_margin_21 ?_
      refine lv_iload_n F.1 F.2.1 dX7_margin_24 rfl (lv_at hl 1 rfl) ?_
      refine r_aald F hw (t := 2) (b := 11) (n := 6) rfl rfl rfl dX7_margin_25 hf (fun hi9 hf => ?_)
      refine lv_astore_n F.1 F.2.1 dX7_margin_26 rfl hl (lv' := [(3, .ref (ad (11 + v1.toNatClampNeg))), (0, .ref (ad 0)), (1, .int v1), (2, .int v2)]) (Nat.le_of_ble_eq_true rfl) rfl (fun ls10 hl => ?_)
      refine lv_iload_n F.1 F.2.1 dX7_margin_27 rfl (lv_at hl 3 rfl) ?_
      refine lv_aload_n F.1 F.2.1 dX7_margin_28 rfl (lv_at hl 0 rfl) ?_
      refine gX7_118 F hw (sh_in11 hi9) dX7_margin_29 ?_
      refine b_icmp_ge F dX7_margin_32 (tgt := 49) (by decide) hf (fun hc13 hf => ?_) (fun hc13 hf => ?_)
      · refine k_sipush_m1000 F dX7_margin_49 ?_
        exact r_iret_w F hw (vp_nar_int _) dX7_margin_52 hf
      · refine lv_iload_n F.1 F.2.1 dX7_margin_35 rfl (lv_at hl 3 rfl) ?_
        refine k_iconst_4 F dX7_margin_36 ?_
        refine b_icmp_ge F dX7_margin_37 (tgt := 49) (by decide) hf (fun hc12 hf => ?_) (fun hc12 hf => ?_)
        · refine k_sipush_m1000 F dX7_margin_49 ?_
          exact r_iret_w F hw (vp_nar_int _) dX7_margin_52 hf
        · refine lv_aload_n F.1 F.2.1 dX7_margin_40 rfl (lv_at hl 0 rfl) ?_
          refine gX7_121 F hw (sh_in11 hi9) dX7_margin_41 ?_
          refine lv_iload_n F.1 F.2.1 dX7_margin_44 rfl (lv_at hl 3 rfl) ?_
          refine r_iald F hw (n := 4) (sh_marg (sh_in11 hi9)) dX7_margin_45 hf (fun hi11 hf => ?_)
          refine lv_goto F.1 F.2.1 dX7_margin_46 (tgt := 52) (by decide) ?_
          exact r_iret_w F hw (vp_nar_int _) dX7_margin_52 hf
    · refine lv_aload_n F.1 F.2.1 dX7_margin_12 rfl (lv_at hl 0 rfl) ?_
      refine clX7_30 F hw hl ⟨Nat.le_of_ble_eq_true rfl, Nat.le_of_ble_eq_true rfl⟩ (Nat.le_of_ble_eq_true rfl) dX7_margin_13 hf (fun t18 M17 H14 o15 hw hn16 hf => ?_)
      exact r_iret_w F hw (vp_nar_int _) dX7_margin_16 hf
def fX7_hears (v1 : Int32) (v2 : Int32) (M : Mem) : Option (Int32 × Mem) :=
  jn (
    wr M 0 2 ((M 0 2) + (1 : Int32)) fun M8 =>
    some ((-2000 : Int32), M8)) fun j7 =>
  if (fX7_isSender v1 M) = 0 then
    j7
  else
    if (fX7_isGate v2 M) = 0 then
      j7
    else
      bnd1 (fX2_marginAt v1 v2 M) fun t17 =>
      some (t17, M)
set_option maxHeartbeats 4000000 in
set_option maxRecDepth 100000 in
theorem cX7_hears_ok (l : Launch) (D : va_G) (cA : Nat → ClassId) (ad : Nat → Nat) (M : Mem) (v1 : Int32) (v2 : Int32) (r : Int32) (M' : Mem) (hf : fX7_hears v1 v2 M = some (r, M')) : Ctg l yX7_hears cX7_hears 3 (some .int) 1 22 shC D cA ad [.ref (ad 0), .int v1, .int v2] M (Qzi shC D cA ad .int r M') := by
  refine ct_in (by decide) (Nat.le_of_ble_eq_true rfl) ?_
  intro p e s m below meth c ls F hl hw
  have hl : lv_has ls 3 [(0, .ref (ad 0)), (1, .int v1), (2, .int v2)] := hl
  unfold fX7_hears at hf
  refine lv_aload_n F.1 F.2.1 dX7_hears_0 rfl (lv_at hl 0 rfl) ?_
  refine lv_iload_n F.1 F.2.1 dX7_hears_1 rfl (lv_at hl 1 rfl) ?_
  refine clX7_63 F hw hl ⟨Nat.le_of_ble_eq_true rfl, Nat.le_of_ble_eq_true rfl⟩ (Nat.le_of_ble_eq_true rfl) dX7_hears_2 (fun H1 o2 hw hn3 => ?_)
  refine jn_go0 (∀ (H4 : Heap) (o5 : List Loc) (ls6 : Array Slot), lv_has ls6 3 [(0, .ref (ad 0))] → Wd shC D cA ad s.heap M H4 o5 → W p l e (rz 1 22) s m ([.ref (ad 0), .int v1, .int v2] : List Value).toArray below meth c H4 o5 0 0 (MQ below (Qzi shC D cA ad .int r M') ([.ref (ad 0), .int v1, .int v2] : List Value).toArray s 0 0 (Az shC ad)) (F0 m 16 ls6 [])) hf (fun hf H4 o5 ls6 hl hw => ?_) (fun j7 Jj7 hf => ?_)
  · refine lv_aload_n F.1 F.2.1 dX7_hears_16 rfl (lv_at hl 0 rfl) ?_
    refine lv_dup F.1 F.2.1 dX7_hears_17 rfl ?_
    refine gX7_125 F hw rfl dX7_hears_18 ?_
    refine k_iconst_1 F dX7_hears_21 ?_
    refine lv_iadd F.1 F.2.1 dX7_hears_22 ?_
    refine qX7_125 F hw rfl dX7_hears_23 hf (fun M8 H9 o10 hw hf => ?_)
    refine k_sipush_m2000 F dX7_hears_26 ?_
    exact r_iret_w F hw (vp_nar_int _) dX7_hears_29 hf
  · refine b_if_eq F dX7_hears_5 (tgt := 16) (by decide) hf (fun hc19 hf => ?_) (fun hc19 hf => ?_)
    · exact Jj7 hf _ _ _ (lv_sub hl [0] rfl) hw
    · refine lv_aload_n F.1 F.2.1 dX7_hears_8 rfl (lv_at hl 0 rfl) ?_
      refine lv_iload_n F.1 F.2.1 dX7_hears_9 rfl (lv_at hl 2 rfl) ?_
      refine clX7_47 F hw hl ⟨Nat.le_of_ble_eq_true rfl, Nat.le_of_ble_eq_true rfl⟩ (Nat.le_of_ble_eq_true rfl) dX7_hears_10 (fun H11 o12 hw hn13 => ?_)
      refine b_if_ne F dX7_hears_13 (tgt := 30) (by decide) hf (fun hc18 hf => ?_) (fun hc18 hf => ?_)
      · exact Jj7 hf _ _ _ (lv_sub hl [0] rfl) hw
      · refine lv_aload_n F.1 F.2.1 dX7_hears_30 rfl (lv_at hl 0 rfl) ?_
        refine gX7_12 F hw rfl dX7_hears_31 ?_
        refine lv_iload_n F.1 F.2.1 dX7_hears_34 rfl (lv_at hl 1 rfl) ?_
        refine lv_iload_n F.1 F.2.1 dX7_hears_35 rfl (lv_at hl 2 rfl) ?_
        refine clX7_128 F hw hl ⟨Nat.le_of_ble_eq_true rfl, Nat.le_of_ble_eq_true rfl⟩ (Nat.le_of_ble_eq_true rfl) dX7_hears_36 hf (fun t17 H14 o15 hw hn16 hf => ?_)
        exact r_iret_w F hw (vp_nar_int _) dX7_hears_39 hf
def fX7_at (v1 : Int32) (v2 : Int32) (M : Mem) : Option (Int32 × Mem) :=
  if (fX7_isGate v1 M) = 0 then
    bnd2 (fX7_refuseBad M) fun t8 M7 =>
    some (t8, M7)
  else
    if v2 < 0 then
      bnd2 (fX7_refuseBad M) fun t13 M12 =>
      some (t13, M12)
    else
      if v2 ≤ (3 : Int32) then
        ix v1 4 <|
        some ((fX1_value (24 + v1.toNatClampNeg) v2 M), M)
      else
        bnd2 (fX7_refuseBad M) fun t22 M21 =>
        some (t22, M21)
set_option maxHeartbeats 4000000 in
set_option maxRecDepth 100000 in
theorem cX7_at_ok (l : Launch) (D : va_G) (cA : Nat → ClassId) (ad : Nat → Nat) (M : Mem) (v1 : Int32) (v2 : Int32) (r : Int32) (M' : Mem) (hf : fX7_at v1 v2 M = some (r, M')) : Ctg l yX7_at cX7_at 3 (some .int) 2 41 shC D cA ad [.ref (ad 0), .int v1, .int v2] M (Qzi shC D cA ad .int r M') := by
  refine ct_in (by decide) (Nat.le_of_ble_eq_true rfl) ?_
  intro p e s m below meth c ls F hl hw
  have hl : lv_has ls 3 [(0, .ref (ad 0)), (1, .int v1), (2, .int v2)] := hl
  unfold fX7_at at hf
  refine lv_aload_n F.1 F.2.1 dX7_at_0 rfl (lv_at hl 0 rfl) ?_
  refine lv_iload_n F.1 F.2.1 dX7_at_1 rfl (lv_at hl 1 rfl) ?_
  refine clX7_47 F hw hl ⟨Nat.le_of_ble_eq_true rfl, Nat.le_of_ble_eq_true rfl⟩ (Nat.le_of_ble_eq_true rfl) dX7_at_2 (fun H1 o2 hw hn3 => ?_)
  refine b_if_eq F dX7_at_5 (tgt := 17) (by decide) hf (fun hc25 hf => ?_) (fun hc25 hf => ?_)
  · refine lv_aload_n F.1 F.2.1 dX7_at_17 rfl (lv_at hl 0 rfl) ?_
    refine clX7_30 F hw hl ⟨Nat.le_of_ble_eq_true rfl, Nat.le_of_ble_eq_true rfl⟩ (Nat.le_of_ble_eq_true rfl) dX7_at_18 hf (fun t8 M7 H4 o5 hw hn6 hf => ?_)
    exact r_iret_w F hw (vp_nar_int _) dX7_at_21 hf
  · refine lv_iload_n F.1 F.2.1 dX7_at_8 rfl (lv_at hl 2 rfl) ?_
    refine b_if_lt F dX7_at_9 (tgt := 17) (by decide) hf (fun hc24 hf => ?_) (fun hc24 hf => ?_)
    · refine lv_aload_n F.1 F.2.1 dX7_at_17 rfl (lv_at hl 0 rfl) ?_
      refine clX7_30 F hw hl ⟨Nat.le_of_ble_eq_true rfl, Nat.le_of_ble_eq_true rfl⟩ (Nat.le_of_ble_eq_true rfl) dX7_at_18 hf (fun t13 M12 H9 o10 hw hn11 hf => ?_)
      exact r_iret_w F hw (vp_nar_int _) dX7_at_21 hf
    · refine lv_iload_n F.1 F.2.1 dX7_at_12 rfl (lv_at hl 2 rfl) ?_
      refine k_iconst_3 F dX7_at_13 ?_
      refine b_icmp_le F dX7_at_14 (tgt := 22) (by decide) hf (fun hc23 hf => ?_) (fun hc23 hf => ?_)
      · refine lv_aload_n F.1 F.2.1 dX7_at_22 rfl (lv_at hl 0 rfl) ?_
        refine gX7_12 F hw rfl dX7_at_23 ?_
        refine gX7_51 F hw rfl dX7_at_26 ?_
        refine lv_iload_n F.1 F.2.1 dX7_at_29 rfl (lv_at hl 1 rfl) ?_
        refine r_aald F hw (t := 3) (b := 24) (n := 4) rfl rfl rfl dX7_at_30 hf (fun hi14 hf => ?_)
        refine lv_iload_n F.1 F.2.1 dX7_at_31 rfl (lv_at hl 2 rfl) ?_
        refine clX7_131 F hw hl (sh_in24 hi14) ⟨Nat.le_of_ble_eq_true rfl, Nat.le_of_ble_eq_true rfl⟩ (Nat.le_of_ble_eq_true rfl) dX7_at_32 (fun H15 o16 hw hn17 => ?_)
        exact r_iret_w F hw (vp_nar_int _) dX7_at_35 hf
      · refine lv_aload_n F.1 F.2.1 dX7_at_17 rfl (lv_at hl 0 rfl) ?_
        refine clX7_30 F hw hl ⟨Nat.le_of_ble_eq_true rfl, Nat.le_of_ble_eq_true rfl⟩ (Nat.le_of_ble_eq_true rfl) dX7_at_18 hf (fun t22 M21 H18 o19 hw hn20 hf => ?_)
        exact r_iret_w F hw (vp_nar_int _) dX7_at_21 hf
theorem clX7_197 (F : Fx D cA RX7 cc nL ret p s m args meth c) (hw : Wd shC D cA ad H0 M H locs) (hl : lv_has ls nL lv) {v1 : Int32} {v2 : Int32} (hR : 3 ≤ R.frames ∧ 63 ≤ R.locals) (hrm : (rest.map fun v => v.category).sum ≤ 8) (hd : decode cc pc = .ok (.invokevirtual 197, 3)) {α : Type} {K : Int32 → Mem → Option α} {res : α} (hf : bnd2 (fX7_at v1 v2 M) K = some res) (kk : ∀ (t : Int32) (M1 : Mem) (H1 : Heap) (locs1 : List Loc), Wd shC D cA ad H0 M1 H1 locs1 → narrow .int (.int t) = .int t → K t M1 = some res → W p l e R s m args below meth c H1 locs1 0 0 Q (F0 m (pc + 3) ls (.int t :: rest))) : W p l e R s m args below meth c H locs 0 0 Q (F0 m pc ls (.int v2 :: .int v1 :: .ref (ad 0) :: rest)) := by
  obtain ⟨t, M1, h1, h2⟩ := bnd2_some hf
  exact r_afti hw (r_runV (As := [.int v1, .int v2]) F hw hl (cX7_at_ok l D cA ad M v1 v2 t M1 h1) cz7 (show shC[0]? = some (.inr (7, sf7)) from rfl) cwX7_197 hR hrm hd) (fun H1 o1 hw1 hn => kk t M1 H1 o1 hw1 hn h2)
def fX7_all (v1 : Int32) (M : Mem) : Option (Int32 × Mem) :=
  if v1 < 0 then
    bnd2 (fX7_refuseBad M) fun t5 M4 =>
    some (t5, M4)
  else
    if v1 ≤ (8 : Int32) then
      some ((fX2_value v1 M), M)
    else
      bnd2 (fX7_refuseBad M) fun t13 M12 =>
      some (t13, M12)
set_option maxHeartbeats 4000000 in
set_option maxRecDepth 100000 in
theorem cX7_all_ok (l : Launch) (D : va_G) (cA : Nat → ClassId) (ad : Nat → Nat) (M : Mem) (v1 : Int32) (r : Int32) (M' : Mem) (hf : fX7_all v1 M = some (r, M')) : Ctg l yX7_all cX7_all 2 (some .int) 1 21 shC D cA ad [.ref (ad 0), .int v1] M (Qzi shC D cA ad .int r M') := by
  refine ct_in (by decide) (Nat.le_of_ble_eq_true rfl) ?_
  intro p e s m below meth c ls F hl hw
  have hl : lv_has ls 2 [(0, .ref (ad 0)), (1, .int v1)] := hl
  unfold fX7_all at hf
  refine lv_iload_n F.1 F.2.1 dX7_all_0 rfl (lv_at hl 1 rfl) ?_
  refine b_if_lt F dX7_all_1 (tgt := 10) (by decide) hf (fun hc15 hf => ?_) (fun hc15 hf => ?_)
  · refine lv_aload_n F.1 F.2.1 dX7_all_10 rfl (lv_at hl 0 rfl) ?_
    refine clX7_30 F hw hl ⟨Nat.le_of_ble_eq_true rfl, Nat.le_of_ble_eq_true rfl⟩ (Nat.le_of_ble_eq_true rfl) dX7_all_11 hf (fun t5 M4 H1 o2 hw hn3 hf => ?_)
    exact r_iret_w F hw (vp_nar_int _) dX7_all_14 hf
  · refine lv_iload_n F.1 F.2.1 dX7_all_4 rfl (lv_at hl 1 rfl) ?_
    refine k_bipush_8 F dX7_all_5 ?_
    refine b_icmp_le F dX7_all_7 (tgt := 15) (by decide) hf (fun hc14 hf => ?_) (fun hc14 hf => ?_)
    · refine lv_aload_n F.1 F.2.1 dX7_all_15 rfl (lv_at hl 0 rfl) ?_
      refine gX7_12 F hw rfl dX7_all_16 ?_
      refine lv_iload_n F.1 F.2.1 dX7_all_19 rfl (lv_at hl 1 rfl) ?_
      refine clX7_132 F hw hl ⟨Nat.le_of_ble_eq_true rfl, Nat.le_of_ble_eq_true rfl⟩ (Nat.le_of_ble_eq_true rfl) dX7_all_20 (fun H6 o7 hw hn8 => ?_)
      exact r_iret_w F hw (vp_nar_int _) dX7_all_23 hf
    · refine lv_aload_n F.1 F.2.1 dX7_all_10 rfl (lv_at hl 0 rfl) ?_
      refine clX7_30 F hw hl ⟨Nat.le_of_ble_eq_true rfl, Nat.le_of_ble_eq_true rfl⟩ (Nat.le_of_ble_eq_true rfl) dX7_all_11 hf (fun t13 M12 H9 o10 hw hn11 hf => ?_)
      exact r_iret_w F hw (vp_nar_int _) dX7_all_14 hf
theorem clX7_200 (F : Fx D cA RX7 cc nL ret p s m args meth c) (hw : Wd shC D cA ad H0 M H locs) (hl : lv_has ls nL lv) {v1 : Int32} (hR : 2 ≤ R.frames ∧ 42 ≤ R.locals) (hrm : (rest.map fun v => v.category).sum ≤ 8) (hd : decode cc pc = .ok (.invokevirtual 200, 3)) {α : Type} {K : Int32 → Mem → Option α} {res : α} (hf : bnd2 (fX7_all v1 M) K = some res) (kk : ∀ (t : Int32) (M1 : Mem) (H1 : Heap) (locs1 : List Loc), Wd shC D cA ad H0 M1 H1 locs1 → narrow .int (.int t) = .int t → K t M1 = some res → W p l e R s m args below meth c H1 locs1 0 0 Q (F0 m (pc + 3) ls (.int t :: rest))) : W p l e R s m args below meth c H locs 0 0 Q (F0 m pc ls (.int v1 :: .ref (ad 0) :: rest)) := by
  obtain ⟨t, M1, h1, h2⟩ := bnd2_some hf
  exact r_afti hw (r_runV (As := [.int v1]) F hw hl (cX7_all_ok l D cA ad M v1 t M1 h1) cz7 (show shC[0]? = some (.inr (7, sf7)) from rfl) cwX7_200 hR hrm hd) (fun H1 o1 hw1 hn => kk t M1 H1 o1 hw1 hn h2)
def fX7_window (v1 : Int32) (v2 : Int32) (M : Mem) : Option (Int32 × Mem) :=
  if v1 < 0 then
    bnd2 (fX7_refuseBad M) fun t5 M4 =>
    some (t5, M4)
  else
    if v2 < 0 then
      bnd2 (fX7_refuseBad M) fun t10 M9 =>
      some (t10, M9)
    else
      if v2 ≤ (3 : Int32) then
        if v1 < (M 34 4) then
          if v2 = (3 : Int32) then
            ix v1 390 <|
            some ((((M 37 v1.toNatClampNeg) + (M 1 2)) - (M 1 3)), M)
          else
            bnd1 (fX6_value v1 v2 M) fun t14 =>
            some (t14, M)
        else
          some ((-1 : Int32), M)
      else
        bnd2 (fX7_refuseBad M) fun t22 M21 =>
        some (t22, M21)
set_option maxHeartbeats 4000000 in
set_option maxRecDepth 100000 in
theorem cX7_window_ok (l : Launch) (D : va_G) (cA : Nat → ClassId) (ad : Nat → Nat) (M : Mem) (v1 : Int32) (v2 : Int32) (r : Int32) (M' : Mem) (hf : fX7_window v1 v2 M = some (r, M')) : Ctg l yX7_window cX7_window 3 (some .int) 3 67 shC D cA ad [.ref (ad 0), .int v1, .int v2] M (Qzi shC D cA ad .int r M') := by
  refine ct_in (by decide) (Nat.le_of_ble_eq_true rfl) ?_
  intro p e s m below meth c ls F hl hw
  have hl : lv_has ls 3 [(0, .ref (ad 0)), (1, .int v1), (2, .int v2)] := hl
  unfold fX7_window at hf
  refine lv_iload_n F.1 F.2.1 dX7_window_0 rfl (lv_at hl 1 rfl) ?_
  refine b_if_lt F dX7_window_1 (tgt := 13) (by decide) hf (fun hc25 hf => ?_) (fun hc25 hf => ?_)
  · refine lv_aload_n F.1 F.2.1 dX7_window_13 rfl (lv_at hl 0 rfl) ?_
    refine clX7_30 F hw hl ⟨Nat.le_of_ble_eq_true rfl, Nat.le_of_ble_eq_true rfl⟩ (Nat.le_of_ble_eq_true rfl) dX7_window_14 hf (fun t5 M4 H1 o2 hw hn3 hf => ?_)
    exact r_iret_w F hw (vp_nar_int _) dX7_window_17 hf
  · refine lv_iload_n F.1 F.2.1 dX7_window_4 rfl (lv_at hl 2 rfl) ?_
    refine b_if_lt F dX7_window_5 (tgt := 13) (by decide) hf (fun hc24 hf => ?_) (fun hc24 hf => ?_)
    · refine lv_aload_n F.1 F.2.1 dX7_window_13 rfl (lv_at hl 0 rfl) ?_
      refine clX7_30 F hw hl ⟨Nat.le_of_ble_eq_true rfl, Nat.le_of_ble_eq_true rfl⟩ (Nat.le_of_ble_eq_true rfl) dX7_window_14 hf (fun t10 M9 H6 o7 hw hn8 hf => ?_)
      exact r_iret_w F hw (vp_nar_int _) dX7_window_17 hf
    · refine lv_iload_n F.1 F.2.1 dX7_window_8 rfl (lv_at hl 2 rfl) ?_
      refine k_iconst_3 F dX7_window_9 ?_
      refine b_icmp_le F dX7_window_10 (tgt := 18) (by decide) hf (fun hc23 hf => ?_) (fun hc23 hf => ?_)
      · refine lv_iload_n F.1 F.2.1 dX7_window_18 rfl (lv_at hl 1 rfl) ?_
        refine lv_aload_n F.1 F.2.1 dX7_window_19 rfl (lv_at hl 0 rfl) ?_
        refine gX7_12 F hw rfl dX7_window_20 ?_
        refine gX7_133 F hw rfl dX7_window_23 ?_
        refine gX7_137 F hw rfl dX7_window_26 ?_
        refine b_icmp_lt F dX7_window_29 (tgt := 34) (by decide) hf (fun hc17 hf => ?_) (fun hc17 hf => ?_)
        · refine lv_iload_n F.1 F.2.1 dX7_window_34 rfl (lv_at hl 2 rfl) ?_
          refine k_iconst_3 F dX7_window_35 ?_
          refine b_icmp_ne F dX7_window_36 (tgt := 68) (by decide) hf (fun hc16 hf => ?_) (fun hc16 hf => ?_)
          · refine lv_aload_n F.1 F.2.1 dX7_window_39 rfl (lv_at hl 0 rfl) ?_
            refine gX7_12 F hw rfl dX7_window_40 ?_
            refine gX7_133 F hw rfl dX7_window_43 ?_
            refine gX7_142 F hw rfl dX7_window_46 ?_
            refine lv_iload_n F.1 F.2.1 dX7_window_49 rfl (lv_at hl 1 rfl) ?_
            refine r_iald F hw (n := 390) rfl dX7_window_50 hf (fun hi15 hf => ?_)
            refine lv_aload_n F.1 F.2.1 dX7_window_51 rfl (lv_at hl 0 rfl) ?_
            refine gX7_12 F hw rfl dX7_window_52 ?_
            refine gX7_44 F hw rfl dX7_window_55 ?_
            refine lv_iadd F.1 F.2.1 dX7_window_58 ?_
            refine lv_aload_n F.1 F.2.1 dX7_window_59 rfl (lv_at hl 0 rfl) ?_
            refine gX7_12 F hw rfl dX7_window_60 ?_
            refine gX7_145 F hw rfl dX7_window_63 ?_
            refine lv_isub F.1 F.2.1 dX7_window_66 ?_
            exact r_iret_w F hw (vp_nar_int _) dX7_window_67 hf
          · refine lv_aload_n F.1 F.2.1 dX7_window_68 rfl (lv_at hl 0 rfl) ?_
            refine gX7_12 F hw rfl dX7_window_69 ?_
            refine gX7_133 F hw rfl dX7_window_72 ?_
            refine lv_iload_n F.1 F.2.1 dX7_window_75 rfl (lv_at hl 1 rfl) ?_
            refine lv_iload_n F.1 F.2.1 dX7_window_76 rfl (lv_at hl 2 rfl) ?_
            refine clX7_148 F hw hl ⟨Nat.le_of_ble_eq_true rfl, Nat.le_of_ble_eq_true rfl⟩ (Nat.le_of_ble_eq_true rfl) dX7_window_77 hf (fun t14 H11 o12 hw hn13 hf => ?_)
            exact r_iret_w F hw (vp_nar_int _) dX7_window_80 hf
        · refine k_iconst_m1 F dX7_window_32 ?_
          exact r_iret_w F hw (vp_nar_int _) dX7_window_33 hf
      · refine lv_aload_n F.1 F.2.1 dX7_window_13 rfl (lv_at hl 0 rfl) ?_
        refine clX7_30 F hw hl ⟨Nat.le_of_ble_eq_true rfl, Nat.le_of_ble_eq_true rfl⟩ (Nat.le_of_ble_eq_true rfl) dX7_window_14 hf (fun t22 M21 H18 o19 hw hn20 hf => ?_)
        exact r_iret_w F hw (vp_nar_int _) dX7_window_17 hf
def fX7_copy (v1 : Int32) (v2 : Int32) (M : Mem) : Option (Int32 × Mem) :=
  if v1 < 0 then
    bnd2 (fX7_refuseBad M) fun t5 M4 =>
    some (t5, M4)
  else
    if v2 < 0 then
      bnd2 (fX7_refuseBad M) fun t10 M9 =>
      some (t10, M9)
    else
      if v2 ≤ (2 : Int32) then
        if v1 < (M 28 5) then
          if v2 = (2 : Int32) then
            ix v1 60 <|
            some (((M 33 v1.toNatClampNeg) - (M 1 3)), M)
          else
            if v2 = 0 then
              ix v1 60 <|
              some ((M 29 v1.toNatClampNeg), M)
            else
              ix v1 60 <|
              some ((M 31 v1.toNatClampNeg), M)
        else
          some ((-1 : Int32), M)
      else
        bnd2 (fX7_refuseBad M) fun t21 M20 =>
        some (t21, M20)
set_option maxHeartbeats 4000000 in
set_option maxRecDepth 100000 in
theorem cX7_copy_ok (l : Launch) (D : va_G) (cA : Nat → ClassId) (ad : Nat → Nat) (M : Mem) (v1 : Int32) (v2 : Int32) (r : Int32) (M' : Mem) (hf : fX7_copy v1 v2 M = some (r, M')) : Ctg l yX7_copy cX7_copy 3 (some .int) 1 20 shC D cA ad [.ref (ad 0), .int v1, .int v2] M (Qzi shC D cA ad .int r M') := by
  refine ct_in (by decide) (Nat.le_of_ble_eq_true rfl) ?_
  intro p e s m below meth c ls F hl hw
  have hl : lv_has ls 3 [(0, .ref (ad 0)), (1, .int v1), (2, .int v2)] := hl
  unfold fX7_copy at hf
  refine lv_iload_n F.1 F.2.1 dX7_copy_0 rfl (lv_at hl 1 rfl) ?_
  refine b_if_lt F dX7_copy_1 (tgt := 13) (by decide) hf (fun hc24 hf => ?_) (fun hc24 hf => ?_)
  · refine lv_aload_n F.1 F.2.1 dX7_copy_13 rfl (lv_at hl 0 rfl) ?_
    refine clX7_30 F hw hl ⟨Nat.le_of_ble_eq_true rfl, Nat.le_of_ble_eq_true rfl⟩ (Nat.le_of_ble_eq_true rfl) dX7_copy_14 hf (fun t5 M4 H1 o2 hw hn3 hf => ?_)
    exact r_iret_w F hw (vp_nar_int _) dX7_copy_17 hf
  · refine lv_iload_n F.1 F.2.1 dX7_copy_4 rfl (lv_at hl 2 rfl) ?_
    refine b_if_lt F dX7_copy_5 (tgt := 13) (by decide) hf (fun hc23 hf => ?_) (fun hc23 hf => ?_)
    · refine lv_aload_n F.1 F.2.1 dX7_copy_13 rfl (lv_at hl 0 rfl) ?_
      refine clX7_30 F hw hl ⟨Nat.le_of_ble_eq_true rfl, Nat.le_of_ble_eq_true rfl⟩ (Nat.le_of_ble_eq_true rfl) dX7_copy_14 hf (fun t10 M9 H6 o7 hw hn8 hf => ?_)
      exact r_iret_w F hw (vp_nar_int _) dX7_copy_17 hf
    · refine lv_iload_n F.1 F.2.1 dX7_copy_8 rfl (lv_at hl 2 rfl) ?_
      refine k_iconst_2 F dX7_copy_9 ?_
      refine b_icmp_le F dX7_copy_10 (tgt := 18) (by decide) hf (fun hc22 hf => ?_) (fun hc22 hf => ?_)
      · refine lv_iload_n F.1 F.2.1 dX7_copy_18 rfl (lv_at hl 1 rfl) ?_
        refine lv_aload_n F.1 F.2.1 dX7_copy_19 rfl (lv_at hl 0 rfl) ?_
        refine gX7_12 F hw rfl dX7_copy_20 ?_
        refine gX7_150 F hw rfl dX7_copy_23 ?_
        refine gX7_154 F hw rfl dX7_copy_26 ?_
        refine b_icmp_lt F dX7_copy_29 (tgt := 34) (by decide) hf (fun hc16 hf => ?_) (fun hc16 hf => ?_)
        · refine lv_iload_n F.1 F.2.1 dX7_copy_34 rfl (lv_at hl 2 rfl) ?_
          refine k_iconst_2 F dX7_copy_35 ?_
          refine b_icmp_ne F dX7_copy_36 (tgt := 60) (by decide) hf (fun hc15 hf => ?_) (fun hc15 hf => ?_)
          · refine lv_aload_n F.1 F.2.1 dX7_copy_39 rfl (lv_at hl 0 rfl) ?_
            refine gX7_12 F hw rfl dX7_copy_40 ?_
            refine gX7_150 F hw rfl dX7_copy_43 ?_
            refine gX7_157 F hw rfl dX7_copy_46 ?_
            refine lv_iload_n F.1 F.2.1 dX7_copy_49 rfl (lv_at hl 1 rfl) ?_
            refine r_iald F hw (n := 60) rfl dX7_copy_50 hf (fun hi14 hf => ?_)
            refine lv_aload_n F.1 F.2.1 dX7_copy_51 rfl (lv_at hl 0 rfl) ?_
            refine gX7_12 F hw rfl dX7_copy_52 ?_
            refine gX7_145 F hw rfl dX7_copy_55 ?_
            refine lv_isub F.1 F.2.1 dX7_copy_58 ?_
            exact r_iret_w F hw (vp_nar_int _) dX7_copy_59 hf
          · refine lv_iload_n F.1 F.2.1 dX7_copy_60 rfl (lv_at hl 2 rfl) ?_
            refine b_if_ne F dX7_copy_61 (tgt := 79) (by decide) hf (fun hc13 hf => ?_) (fun hc13 hf => ?_)
            · refine lv_aload_n F.1 F.2.1 dX7_copy_64 rfl (lv_at hl 0 rfl) ?_
              refine gX7_12 F hw rfl dX7_copy_65 ?_
              refine gX7_150 F hw rfl dX7_copy_68 ?_
              refine gX7_160 F hw rfl dX7_copy_71 ?_
              refine lv_iload_n F.1 F.2.1 dX7_copy_74 rfl (lv_at hl 1 rfl) ?_
              refine r_iald F hw (n := 60) rfl dX7_copy_75 hf (fun hi12 hf => ?_)
              refine lv_goto F.1 F.2.1 dX7_copy_76 (tgt := 91) (by decide) ?_
              exact r_iret_w F hw (vp_nar_int _) dX7_copy_91 hf
            · refine lv_aload_n F.1 F.2.1 dX7_copy_79 rfl (lv_at hl 0 rfl) ?_
              refine gX7_12 F hw rfl dX7_copy_80 ?_
              refine gX7_150 F hw rfl dX7_copy_83 ?_
              refine gX7_163 F hw rfl dX7_copy_86 ?_
              refine lv_iload_n F.1 F.2.1 dX7_copy_89 rfl (lv_at hl 1 rfl) ?_
              refine r_iald F hw (n := 60) rfl dX7_copy_90 hf (fun hi11 hf => ?_)
              exact r_iret_w F hw (vp_nar_int _) dX7_copy_91 hf
        · refine k_iconst_m1 F dX7_copy_32 ?_
          exact r_iret_w F hw (vp_nar_int _) dX7_copy_33 hf
      · refine lv_aload_n F.1 F.2.1 dX7_copy_13 rfl (lv_at hl 0 rfl) ?_
        refine clX7_30 F hw hl ⟨Nat.le_of_ble_eq_true rfl, Nat.le_of_ble_eq_true rfl⟩ (Nat.le_of_ble_eq_true rfl) dX7_copy_14 hf (fun t21 M20 H17 o18 hw hn19 hf => ?_)
        exact r_iret_w F hw (vp_nar_int _) dX7_copy_17 hf
def fX7_type (v1 : Int32) (M : Mem) : Option (Int32 × Mem) :=
  if v1 < 0 then
    bnd2 (fX7_refuseBad M) fun t5 M4 =>
    some (t5, M4)
  else
    if v1 ≤ (127 : Int32) then
      if (M 2 1) < (120 : Int32) then
        ix (M 2 1) 120 <| wr M 40 (M 2 1).toNatClampNeg v1 fun M7 =>
        wr M7 2 1 ((M7 2 1) + (1 : Int32)) fun M10 =>
        some ((M10 2 1), M10)
      else
        bnd2 (fX7_refuseFull M) fun t17 M16 =>
        some (t17, M16)
    else
      bnd2 (fX7_refuseBad M) fun t23 M22 =>
      some (t23, M22)
set_option maxHeartbeats 4000000 in
set_option maxRecDepth 100000 in
theorem cX7_type_ok (l : Launch) (D : va_G) (cA : Nat → ClassId) (ad : Nat → Nat) (M : Mem) (v1 : Int32) (r : Int32) (M' : Mem) (hf : fX7_type v1 M = some (r, M')) : Ctg l yX7_type cX7_type 2 (some .int) 1 20 shC D cA ad [.ref (ad 0), .int v1] M (Qzi shC D cA ad .int r M') := by
  refine ct_in (by decide) (Nat.le_of_ble_eq_true rfl) ?_
  intro p e s m below meth c ls F hl hw
  have hl : lv_has ls 2 [(0, .ref (ad 0)), (1, .int v1)] := hl
  unfold fX7_type at hf
  refine lv_iload_n F.1 F.2.1 dX7_type_0 rfl (lv_at hl 1 rfl) ?_
  refine b_if_lt F dX7_type_1 (tgt := 10) (by decide) hf (fun hc25 hf => ?_) (fun hc25 hf => ?_)
  · refine lv_aload_n F.1 F.2.1 dX7_type_10 rfl (lv_at hl 0 rfl) ?_
    refine clX7_30 F hw hl ⟨Nat.le_of_ble_eq_true rfl, Nat.le_of_ble_eq_true rfl⟩ (Nat.le_of_ble_eq_true rfl) dX7_type_11 hf (fun t5 M4 H1 o2 hw hn3 hf => ?_)
    exact r_iret_w F hw (vp_nar_int _) dX7_type_14 hf
  · refine lv_iload_n F.1 F.2.1 dX7_type_4 rfl (lv_at hl 1 rfl) ?_
    refine k_bipush_127 F dX7_type_5 ?_
    refine b_icmp_le F dX7_type_7 (tgt := 15) (by decide) hf (fun hc24 hf => ?_) (fun hc24 hf => ?_)
    · refine lv_aload_n F.1 F.2.1 dX7_type_15 rfl (lv_at hl 0 rfl) ?_
      refine gX7_19 F hw rfl dX7_type_16 ?_
      refine gX7_166 F hw rfl dX7_type_19 ?_
      refine k_bipush_120 F dX7_type_22 ?_
      refine b_icmp_lt F dX7_type_24 (tgt := 32) (by decide) hf (fun hc18 hf => ?_) (fun hc18 hf => ?_)
      · refine lv_aload_n F.1 F.2.1 dX7_type_32 rfl (lv_at hl 0 rfl) ?_
        refine gX7_19 F hw rfl dX7_type_33 ?_
        refine gX7_169 F hw rfl dX7_type_36 ?_
        refine lv_aload_n F.1 F.2.1 dX7_type_39 rfl (lv_at hl 0 rfl) ?_
        refine gX7_19 F hw rfl dX7_type_40 ?_
        refine gX7_166 F hw rfl dX7_type_43 ?_
        refine lv_iload_n F.1 F.2.1 dX7_type_46 rfl (lv_at hl 1 rfl) ?_
        refine r_iast F hw (n := 120) rfl dX7_type_47 hf (fun hi6 M7 H8 o9 hw hf => ?_)
        refine lv_aload_n F.1 F.2.1 dX7_type_48 rfl (lv_at hl 0 rfl) ?_
        refine gX7_19 F hw rfl dX7_type_49 ?_
        refine lv_dup F.1 F.2.1 dX7_type_52 rfl ?_
        refine gX7_166 F hw rfl dX7_type_53 ?_
        refine k_iconst_1 F dX7_type_56 ?_
        refine lv_iadd F.1 F.2.1 dX7_type_57 ?_
        refine qX7_166 F hw rfl dX7_type_58 hf (fun M10 H11 o12 hw hf => ?_)
        refine lv_aload_n F.1 F.2.1 dX7_type_61 rfl (lv_at hl 0 rfl) ?_
        refine gX7_19 F hw rfl dX7_type_62 ?_
        refine gX7_166 F hw rfl dX7_type_65 ?_
        exact r_iret_w F hw (vp_nar_int _) dX7_type_68 hf
      · refine lv_aload_n F.1 F.2.1 dX7_type_27 rfl (lv_at hl 0 rfl) ?_
        refine clX7_91 F hw hl ⟨Nat.le_of_ble_eq_true rfl, Nat.le_of_ble_eq_true rfl⟩ (Nat.le_of_ble_eq_true rfl) dX7_type_28 hf (fun t17 M16 H13 o14 hw hn15 hf => ?_)
        exact r_iret_w F hw (vp_nar_int _) dX7_type_31 hf
    · refine lv_aload_n F.1 F.2.1 dX7_type_10 rfl (lv_at hl 0 rfl) ?_
      refine clX7_30 F hw hl ⟨Nat.le_of_ble_eq_true rfl, Nat.le_of_ble_eq_true rfl⟩ (Nat.le_of_ble_eq_true rfl) dX7_type_11 hf (fun t23 M22 H19 o20 hw hn21 hf => ?_)
      exact r_iret_w F hw (vp_nar_int _) dX7_type_14 hf
def fX7_clear (M : Mem) : Option (Int32 × Mem) :=
  wr M 2 1 (0 : Int32) fun M2 =>
  some ((M 2 1), M2)
set_option maxHeartbeats 4000000 in
set_option maxRecDepth 100000 in
theorem cX7_clear_ok (l : Launch) (D : va_G) (cA : Nat → ClassId) (ad : Nat → Nat) (M : Mem)  (r : Int32) (M' : Mem) (hf : fX7_clear M = some (r, M')) : Ctg l yX7_clear cX7_clear 2 (some .int) 0 0 shC D cA ad [.ref (ad 0)] M (Qzi shC D cA ad .int r M') := by
  refine ct_in (by decide) (Nat.le_of_ble_eq_true rfl) ?_
  intro p e s m below meth c ls F hl hw
  have hl : lv_has ls 2 [(0, .ref (ad 0))] := hl
  unfold fX7_clear at hf
  refine lv_aload_n F.1 F.2.1 dX7_clear_0 rfl (lv_at hl 0 rfl) ?_
  refine gX7_19 F hw rfl dX7_clear_1 ?_
  refine gX7_166 F hw rfl dX7_clear_4 ?_
  refine lv_istore_n F.1 F.2.1 dX7_clear_7 rfl hl (lv' := [(1, .int (M 2 1)), (0, .ref (ad 0))]) (Nat.le_of_ble_eq_true rfl) rfl (fun ls1 hl => ?_)
  refine lv_aload_n F.1 F.2.1 dX7_clear_8 rfl (lv_at hl 1 rfl) ?_
  refine gX7_19 F hw rfl dX7_clear_9 ?_
  refine k_iconst_0 F dX7_clear_12 ?_
  refine qX7_166 F hw rfl dX7_clear_13 hf (fun M2 H3 o4 hw hf => ?_)
  refine lv_iload_n F.1 F.2.1 dX7_clear_16 rfl (lv_at hl 0 rfl) ?_
  exact r_iret_w F hw (vp_nar_int _) dX7_clear_17 hf
def fX7_carryOut (v1 : Int32) (M : Mem) : Option (Int32 × Mem) :=
  ix v1 40 <|
  if (M 41 v1.toNatClampNeg) = (43 : Int32) then
    bnd2 (fX2_passTicks (M 44 v1.toNatClampNeg) M) fun t10 M9 =>
    some (t10, M9)
  else if (M 41 v1.toNatClampNeg) = (98 : Int32) then
    ix (M 43 v1.toNatClampNeg) 4 <|
    wr M (24 + (M 43 v1.toNatClampNeg).toNatClampNeg) 1 (M 44 v1.toNatClampNeg) fun M13 =>
    some ((0 : Int32), M13)
  else if (M 41 v1.toNatClampNeg) = (103 : Int32) then
    ix (M 42 v1.toNatClampNeg) 6 <|
    ix (M 43 v1.toNatClampNeg) 4 <| wr M (4 + (M 42 v1.toNatClampNeg).toNatClampNeg) (M 43 v1.toNatClampNeg).toNatClampNeg (M 44 v1.toNatClampNeg) fun M19 =>
    some ((0 : Int32), M19)
  else if (M 41 v1.toNatClampNeg) = (108 : Int32) then
    ix (M 43 v1.toNatClampNeg) 4 <|
    wr M (24 + (M 43 v1.toNatClampNeg).toNatClampNeg) 0 (M 44 v1.toNatClampNeg) fun M24 =>
    some ((0 : Int32), M24)
  else if (M 41 v1.toNatClampNeg) = (114 : Int32) then
    ix (M 42 v1.toNatClampNeg) 6 <|
    if (fX3_hasSent (11 + (M 42 v1.toNatClampNeg).toNatClampNeg) M) = 0 then
      some ((0 : Int32), M)
    else
      if (fX2_isFull M) = 0 then
        bnd2 (fX2_sendLastAgain (M 42 v1.toNatClampNeg) M) fun t39 M38 =>
        some ((0 : Int32), M38)
      else
        some ((0 : Int32), M)
  else if (M 41 v1.toNatClampNeg) = (115 : Int32) then
    if (fX2_isFull M) = 0 then
      bnd2 (fX2_sendNext (M 42 v1.toNatClampNeg) M) fun t50 M49 =>
      some ((0 : Int32), M49)
    else
      some ((0 : Int32), M)
  else 
    ix (M 42 v1.toNatClampNeg) 6 <|
    bnd1 (fX3_becomeNew (11 + (M 42 v1.toNatClampNeg).toNatClampNeg) M) fun M56 =>
    some ((0 : Int32), M56)
set_option maxHeartbeats 4000000 in
set_option maxRecDepth 100000 in
theorem cX7_carryOut_ok (l : Launch) (D : va_G) (cA : Nat → ClassId) (ad : Nat → Nat) (M : Mem) (v1 : Int32) (r : Int32) (M' : Mem) (hf : fX7_carryOut v1 M = some (r, M')) : Ctg l yX7_carryOut cX7_carryOut 5 (some .int) 6 135 shC D cA ad [.ref (ad 0), .int v1] M (Qzi shC D cA ad .int r M') := by
  refine ct_in (by decide) (Nat.le_of_ble_eq_true rfl) ?_
  intro p e s m below meth c ls F hl hw
  have hl : lv_has ls 5 [(0, .ref (ad 0)), (1, .int v1)] := hl
  unfold fX7_carryOut at hf
  refine lv_aload_n F.1 F.2.1 dX7_carryOut_0 rfl (lv_at hl 0 rfl) ?_
  refine gX7_19 F hw rfl dX7_carryOut_1 ?_
  refine gX7_203 F hw rfl dX7_carryOut_4 ?_
  refine lv_iload_n F.1 F.2.1 dX7_carryOut_7 rfl (lv_at hl 1 rfl) ?_
  refine r_iald F hw (n := 40) rfl dX7_carryOut_8 hf (fun hi1 hf => ?_)
  refine lv_istore_n F.1 F.2.1 dX7_carryOut_9 rfl hl (lv' := [(2, .int (M 42 v1.toNatClampNeg)), (0, .ref (ad 0)), (1, .int v1)]) (Nat.le_of_ble_eq_true rfl) rfl (fun ls2 hl => ?_)
  refine lv_aload_n F.1 F.2.1 dX7_carryOut_10 rfl (lv_at hl 1 rfl) ?_
  refine gX7_19 F hw rfl dX7_carryOut_11 ?_
  refine gX7_206 F hw rfl dX7_carryOut_14 ?_
  refine lv_iload_n F.1 F.2.1 dX7_carryOut_17 rfl (lv_at hl 2 rfl) ?_
  refine r_iald0 F hw (n := 40) rfl dX7_carryOut_18 hi1 ?_
  refine lv_istore_n F.1 F.2.1 dX7_carryOut_19 rfl hl (lv' := [(3, .int (M 43 v1.toNatClampNeg)), (2, .int (M 42 v1.toNatClampNeg)), (0, .ref (ad 0)), (1, .int v1)]) (Nat.le_of_ble_eq_true rfl) rfl (fun ls3 hl => ?_)
  refine lv_aload_n F.1 F.2.1 dX7_carryOut_20 rfl (lv_at hl 2 rfl) ?_
  refine gX7_19 F hw rfl dX7_carryOut_21 ?_
  refine gX7_209 F hw rfl dX7_carryOut_24 ?_
  refine lv_iload_n F.1 F.2.1 dX7_carryOut_27 rfl (lv_at hl 3 rfl) ?_
  refine r_iald0 F hw (n := 40) rfl dX7_carryOut_28 hi1 ?_
  refine lv_istore F.1 F.2.1 dX7_carryOut_29 hl (lv' := [(4, .int (M 44 v1.toNatClampNeg)), (3, .int (M 43 v1.toNatClampNeg)), (2, .int (M 42 v1.toNatClampNeg)), (0, .ref (ad 0)), (1, .int v1)]) (Nat.le_of_ble_eq_true rfl) rfl (fun ls4 hl => ?_)
  refine lv_aload_n F.1 F.2.1 dX7_carryOut_31 rfl (lv_at hl 3 rfl) ?_
  refine gX7_19 F hw rfl dX7_carryOut_32 ?_
  refine gX7_212 F hw rfl dX7_carryOut_35 ?_
  refine lv_iload_n F.1 F.2.1 dX7_carryOut_38 rfl (lv_at hl 4 rfl) ?_
  refine r_iald0 F hw (n := 40) rfl dX7_carryOut_39 hi1 ?_
  by_cases hc5 : (M 41 v1.toNatClampNeg) = (43 : Int32)
  · rw [if_pos hc5] at hf
    refine lv_lookup F.1 F.2.1 dX7_carryOut_40 (tgt := 157) (off := 117) (by decide) (by rw [hc5]; decide) (by decide) ?_
    refine lv_aload_n F.1 F.2.1 dX7_carryOut_157 rfl (lv_at hl 3 rfl) ?_
    refine gX7_12 F hw rfl dX7_carryOut_158 ?_
    refine lv_iload F.1 F.2.1 dX7_carryOut_161 (lv_at hl 0 rfl) ?_
    refine clX7_106 F hw hl ⟨Nat.le_of_ble_eq_true rfl, Nat.le_of_ble_eq_true rfl⟩ (Nat.le_of_ble_eq_true rfl) dX7_carryOut_163 hf (fun t10 M9 H6 o7 hw hn8 hf => ?_)
    exact r_iret_w F hw (vp_nar_int _) dX7_carryOut_166 hf
  · rw [if_neg hc5] at hf
    by_cases hc11 : (M 41 v1.toNatClampNeg) = (98 : Int32)
    · rw [if_pos hc11] at hf
      refine lv_lookup F.1 F.2.1 dX7_carryOut_40 (tgt := 182) (off := 142) (by decide) (by rw [hc11]; decide) (by decide) ?_
      refine lv_aload_n F.1 F.2.1 dX7_carryOut_182 rfl (lv_at hl 3 rfl) ?_
      refine gX7_12 F hw rfl dX7_carryOut_183 ?_
      refine gX7_51 F hw rfl dX7_carryOut_186 ?_
      refine lv_iload_n F.1 F.2.1 dX7_carryOut_189 rfl (lv_at hl 1 rfl) ?_
      refine r_aald F hw (t := 3) (b := 24) (n := 4) rfl rfl rfl dX7_carryOut_190 hf (fun hi12 hf => ?_)
      refine lv_iload F.1 F.2.1 dX7_carryOut_191 (lv_at hl 0 rfl) ?_
      refine qX7_60 F hw (sh_in24 hi12) dX7_carryOut_193 hf (fun M13 H14 o15 hw hf => ?_)
      refine k_iconst_0 F dX7_carryOut_196 ?_
      exact r_iret_w F hw (vp_nar_int _) dX7_carryOut_197 hf
    · rw [if_neg hc11] at hf
      by_cases hc16 : (M 41 v1.toNatClampNeg) = (103 : Int32)
      · rw [if_pos hc16] at hf
        refine lv_lookup F.1 F.2.1 dX7_carryOut_40 (tgt := 167) (off := 127) (by decide) (by rw [hc16]; decide) (by decide) ?_
        refine lv_aload_n F.1 F.2.1 dX7_carryOut_167 rfl (lv_at hl 3 rfl) ?_
        refine gX7_12 F hw rfl dX7_carryOut_168 ?_
        refine gX7_66 F hw rfl dX7_carryOut_171 ?_
        refine lv_iload_n F.1 F.2.1 dX7_carryOut_174 rfl (lv_at hl 2 rfl) ?_
        refine r_aald F hw (t := 1) (b := 4) (n := 6) rfl rfl rfl dX7_carryOut_175 hf (fun hi17 hf => ?_)
        refine lv_iload_n F.1 F.2.1 dX7_carryOut_176 rfl (lv_at hl 1 rfl) ?_
        refine lv_iload F.1 F.2.1 dX7_carryOut_177 (lv_at hl 0 rfl) ?_
        refine r_iast F hw (n := 4) (sh_in4 hi17) dX7_carryOut_179 hf (fun hi18 M19 H20 o21 hw hf => ?_)
        refine k_iconst_0 F dX7_carryOut_180 ?_
        exact r_iret_w F hw (vp_nar_int _) dX7_carryOut_181 hf
      · rw [if_neg hc16] at hf
        by_cases hc22 : (M 41 v1.toNatClampNeg) = (108 : Int32)
        · rw [if_pos hc22] at hf
          refine lv_lookup F.1 F.2.1 dX7_carryOut_40 (tgt := 198) (off := 158) (by decide) (by rw [hc22]; decide) (by decide) ?_
          refine lv_aload_n F.1 F.2.1 dX7_carryOut_198 rfl (lv_at hl 3 rfl) ?_
          refine gX7_12 F hw rfl dX7_carryOut_199 ?_
          refine gX7_51 F hw rfl dX7_carryOut_202 ?_
          refine lv_iload_n F.1 F.2.1 dX7_carryOut_205 rfl (lv_at hl 1 rfl) ?_
          refine r_aald F hw (t := 3) (b := 24) (n := 4) rfl rfl rfl dX7_carryOut_206 hf (fun hi23 hf => ?_)
          refine lv_iload F.1 F.2.1 dX7_carryOut_207 (lv_at hl 0 rfl) ?_
          refine qX7_55 F hw (sh_in24 hi23) dX7_carryOut_209 hf (fun M24 H25 o26 hw hf => ?_)
          refine k_iconst_0 F dX7_carryOut_212 ?_
          exact r_iret_w F hw (vp_nar_int _) dX7_carryOut_213 hf
        · rw [if_neg hc22] at hf
          by_cases hc27 : (M 41 v1.toNatClampNeg) = (114 : Int32)
          · rw [if_pos hc27] at hf
            refine lv_lookup F.1 F.2.1 dX7_carryOut_40 (tgt := 121) (off := 81) (by decide) (by rw [hc27]; decide) (by decide) ?_
            refine lv_aload_n F.1 F.2.1 dX7_carryOut_121 rfl (lv_at hl 3 rfl) ?_
            refine gX7_12 F hw rfl dX7_carryOut_122 ?_
            refine gX7_77 F hw rfl dX7_carryOut_125 ?_
            refine lv_iload_n F.1 F.2.1 dX7_carryOut_128 rfl (lv_at hl 2 rfl) ?_
            refine r_aald F hw (t := 2) (b := 11) (n := 6) rfl rfl rfl dX7_carryOut_129 hf (fun hi28 hf => ?_)
            refine clX7_97 F hw hl (sh_in11 hi28) ⟨Nat.le_of_ble_eq_true rfl, Nat.le_of_ble_eq_true rfl⟩ (Nat.le_of_ble_eq_true rfl) dX7_carryOut_130 (fun H29 o30 hw hn31 => ?_)
            refine b_if_eq F dX7_carryOut_133 (tgt := 155) (by decide) hf (fun hc41 hf => ?_) (fun hc41 hf => ?_)
            · refine k_iconst_0 F dX7_carryOut_155 ?_
              exact r_iret_w F hw (vp_nar_int _) dX7_carryOut_156 hf
            · refine lv_aload_n F.1 F.2.1 dX7_carryOut_136 rfl (lv_at hl 3 rfl) ?_
              refine gX7_12 F hw rfl dX7_carryOut_137 ?_
              refine clX7_87 F hw hl ⟨Nat.le_of_ble_eq_true rfl, Nat.le_of_ble_eq_true rfl⟩ (Nat.le_of_ble_eq_true rfl) dX7_carryOut_140 (fun H32 o33 hw hn34 => ?_)
              refine b_if_ne F dX7_carryOut_143 (tgt := 155) (by decide) hf (fun hc40 hf => ?_) (fun hc40 hf => ?_)
              · refine lv_aload_n F.1 F.2.1 dX7_carryOut_146 rfl (lv_at hl 3 rfl) ?_
                refine gX7_12 F hw rfl dX7_carryOut_147 ?_
                refine lv_iload_n F.1 F.2.1 dX7_carryOut_150 rfl (lv_at hl 2 rfl) ?_
                refine clX7_103 F hw hl ⟨Nat.le_of_ble_eq_true rfl, Nat.le_of_ble_eq_true rfl⟩ (Nat.le_of_ble_eq_true rfl) dX7_carryOut_151 hf (fun t39 M38 H35 o36 hw hn37 hf => ?_)
                refine lv_pop F.1 F.2.1 dX7_carryOut_154 rfl ?_
                refine k_iconst_0 F dX7_carryOut_155 ?_
                exact r_iret_w F hw (vp_nar_int _) dX7_carryOut_156 hf
              · refine k_iconst_0 F dX7_carryOut_155 ?_
                exact r_iret_w F hw (vp_nar_int _) dX7_carryOut_156 hf
          · rw [if_neg hc27] at hf
            by_cases hc42 : (M 41 v1.toNatClampNeg) = (115 : Int32)
            · rw [if_pos hc42] at hf
              refine lv_lookup F.1 F.2.1 dX7_carryOut_40 (tgt := 100) (off := 60) (by decide) (by rw [hc42]; decide) (by decide) ?_
              refine lv_aload_n F.1 F.2.1 dX7_carryOut_100 rfl (lv_at hl 3 rfl) ?_
              refine gX7_12 F hw rfl dX7_carryOut_101 ?_
              refine clX7_87 F hw hl ⟨Nat.le_of_ble_eq_true rfl, Nat.le_of_ble_eq_true rfl⟩ (Nat.le_of_ble_eq_true rfl) dX7_carryOut_104 (fun H43 o44 hw hn45 => ?_)
              refine b_if_ne F dX7_carryOut_107 (tgt := 119) (by decide) hf (fun hc51 hf => ?_) (fun hc51 hf => ?_)
              · refine lv_aload_n F.1 F.2.1 dX7_carryOut_110 rfl (lv_at hl 3 rfl) ?_
                refine gX7_12 F hw rfl dX7_carryOut_111 ?_
                refine lv_iload_n F.1 F.2.1 dX7_carryOut_114 rfl (lv_at hl 2 rfl) ?_
                refine clX7_94 F hw hl ⟨Nat.le_of_ble_eq_true rfl, Nat.le_of_ble_eq_true rfl⟩ (Nat.le_of_ble_eq_true rfl) dX7_carryOut_115 hf (fun t50 M49 H46 o47 hw hn48 hf => ?_)
                refine lv_pop F.1 F.2.1 dX7_carryOut_118 rfl ?_
                refine k_iconst_0 F dX7_carryOut_119 ?_
                exact r_iret_w F hw (vp_nar_int _) dX7_carryOut_120 hf
              · refine k_iconst_0 F dX7_carryOut_119 ?_
                exact r_iret_w F hw (vp_nar_int _) dX7_carryOut_120 hf
            · rw [if_neg hc42] at hf
              refine lv_lookup F.1 F.2.1 dX7_carryOut_40 (tgt := 214) (off := 174) (by decide) ((lv_osw hc5 (by decide)).trans ((lv_osw hc11 (by decide)).trans ((lv_osw hc16 (by decide)).trans ((lv_osw hc22 (by decide)).trans ((lv_osw hc27 (by decide)).trans ((lv_osw hc42 (by decide)).trans rfl)))))) (by decide) ?_
              refine lv_aload_n F.1 F.2.1 dX7_carryOut_214 rfl (lv_at hl 3 rfl) ?_
              refine gX7_12 F hw rfl dX7_carryOut_215 ?_
              refine gX7_77 F hw rfl dX7_carryOut_218 ?_
              refine lv_iload_n F.1 F.2.1 dX7_carryOut_221 rfl (lv_at hl 2 rfl) ?_
              refine r_aald F hw (t := 2) (b := 11) (n := 6) rfl rfl rfl dX7_carryOut_222 hf (fun hi52 hf => ?_)
              refine clX7_112 F hw hl (sh_in11 hi52) ⟨Nat.le_of_ble_eq_true rfl, Nat.le_of_ble_eq_true rfl⟩ (Nat.le_of_ble_eq_true rfl) dX7_carryOut_223 hf (fun M56 H53 o54 hw hf => ?_)
              refine k_iconst_0 F dX7_carryOut_226 ?_
              exact r_iret_w F hw (vp_nar_int _) dX7_carryOut_227 hf
theorem clX7_178 (F : Fx D cA RX7 cc nL ret p s m args meth c) (hw : Wd shC D cA ad H0 M H locs) (hl : lv_has ls nL lv) {v1 : Int32} (hR : 7 ≤ R.frames ∧ 159 ≤ R.locals) (hrm : (rest.map fun v => v.category).sum ≤ 8) (hd : decode cc pc = .ok (.invokevirtual 178, 3)) {α : Type} {K : Int32 → Mem → Option α} {res : α} (hf : bnd2 (fX7_carryOut v1 M) K = some res) (kk : ∀ (t : Int32) (M1 : Mem) (H1 : Heap) (locs1 : List Loc), Wd shC D cA ad H0 M1 H1 locs1 → narrow .int (.int t) = .int t → K t M1 = some res → W p l e R s m args below meth c H1 locs1 0 0 Q (F0 m (pc + 3) ls (.int t :: rest))) : W p l e R s m args below meth c H locs 0 0 Q (F0 m pc ls (.int v1 :: .ref (ad 0) :: rest)) := by
  obtain ⟨t, M1, h1, h2⟩ := bnd2_some hf
  exact r_afti hw (r_runV (As := [.int v1]) F hw hl (cX7_carryOut_ok l D cA ad M v1 t M1 h1) cz7 (show shC[0]? = some (.inr (7, sf7)) from rfl) cwX7_178 hR hrm hd) (fun H1 o1 hw1 hn => kk t M1 H1 o1 hw1 hn h2)
def fX7_does_L36 : Nat → Int32 → Int32 → Mem → Option (Int32 × Mem)
  | 0, _, _, _ => none
  | n + 1, v2, v3, M =>
    if (M 2 6) ≤ v3 then
      some (v2, M)
    else
      if (40 : Int32) ≤ v3 then
        some (v2, M)
      else
        bnd2 (fX7_carryOut v3 M) fun t13 M12 =>
        fX7_does_L36 n (v2 + t13) (v3 + (1 : Int32)) M12
def fX7_does (M : Mem) : Option (Int32 × Mem) :=
  bnd2 (fX4_readOrders (M 1 0) (M 1 1) M) fun t5 M4 =>
  if t5 = (-1 : Int32) then
    bnd2 (fX7_does_L36 FUEL (0 : Int32) (0 : Int32) M4) fun w18 M19 =>
    some (w18, M19)
  else
    some (((-10 : Int32) - t5), M4)
set_option maxHeartbeats 4000000 in
set_option maxRecDepth 100000 in
theorem wX7_does_L36 {p : Program} {l : Launch} {e : Env} {s : State} {m : MethodId} {args : Array Value} {below : List Frame} {meth : Method} {c : Code} {D : va_G} {cA : Nat → ClassId} {ad : Nat → Nat} {Q : State → Prop} (F : Fx D cA RX7 cX7_does 4 (some .int) p s m args meth c) : ∀ (n : Nat) (v2 : Int32) (v3 : Int32) (M : Mem) (H : Heap) (o : List Loc) (ls : Array Slot), lv_has ls 4 [(0, .ref (ad 0)), (2, .int v2), (3, .int v3)] → Wd shC D cA ad s.heap M H o → ∀ (u2 : Int32) (M' : Mem), fX7_does_L36 n v2 v3 M = some (u2, M') → (∀ (H1 : Heap) (o1 : List Loc) (ls1 : Array Slot), lv_has ls1 4 [(2, .int u2)] → Wd shC D cA ad s.heap M' H1 o1 → W p l e (rz 7 159) s m args below meth c H1 o1 0 0 Q (F0 m 67 ls1 [])) → W p l e (rz 7 159) s m args below meth c H o 0 0 Q (F0 m 36 ls []) := by
  intro n
  induction n with
  | zero =>
    intro v2 v3 M H o ls hl hw u2 M' hf kk
    cases hf
  | succ n ih =>
    intro v2 v3 M H o ls hl hw u2 M' hf kk
    rw [fX7_does_L36] at hf
    refine lv_iload_n F.1 F.2.1 dX7_does_36 rfl (lv_at hl 2 rfl) ?_
    refine lv_aload_n F.1 F.2.1 dX7_does_37 rfl (lv_at hl 0 rfl) ?_
    refine gX7_19 F hw rfl dX7_does_38 ?_
    refine gX7_175 F hw rfl dX7_does_41 ?_
    refine b_icmp_ge F dX7_does_44 (tgt := 67) (by decide) hf (fun hc17 hf => ?_) (fun hc17 hf => ?_)
    · cases hf
      exact kk _ _ _ (lv_sub hl [1] rfl) hw
    · refine lv_iload_n F.1 F.2.1 dX7_does_47 rfl (lv_at hl 2 rfl) ?_
      refine k_bipush_40 F dX7_does_48 ?_
      refine b_icmp_ge F dX7_does_50 (tgt := 67) (by decide) hf (fun hc16 hf => ?_) (fun hc16 hf => ?_)
      · cases hf
        exact kk _ _ _ (lv_sub hl [1] rfl) hw
      · refine lv_iload_n F.1 F.2.1 dX7_does_53 rfl (lv_at hl 1 rfl) ?_
        refine lv_aload_n F.1 F.2.1 dX7_does_54 rfl (lv_at hl 0 rfl) ?_
        refine lv_iload_n F.1 F.2.1 dX7_does_55 rfl (lv_at hl 2 rfl) ?_
        refine clX7_178 F hw hl ⟨Nat.le_of_ble_eq_true rfl, Nat.le_of_ble_eq_true rfl⟩ (Nat.le_of_ble_eq_true rfl) dX7_does_56 hf (fun t13 M12 H9 o10 hw hn11 hf => ?_)
        refine lv_iadd F.1 F.2.1 dX7_does_59 ?_
        refine lv_istore_n F.1 F.2.1 dX7_does_60 rfl hl (lv' := [(2, .int (v2 + t13)), (0, .ref (ad 0)), (3, .int v3)]) (Nat.le_of_ble_eq_true rfl) rfl (fun ls14 hl => ?_)
        refine lv_iinc F.1 F.2.1 dX7_does_61 hl (k := 2) rfl (ki_1 _) (lv' := [(3, .int (v3 + (1 : Int32))), (2, .int (v2 + t13)), (0, .ref (ad 0))]) (Nat.le_of_ble_eq_true rfl) rfl (fun ls15 hl => ?_)
        refine lv_goto F.1 F.2.1 dX7_does_64 (tgt := 36) (by decide) ?_
        exact ih (v2 + t13) (v3 + (1 : Int32)) M12 _ _ _ (lv_sub hl [2, 1, 0] rfl) hw u2 M' hf kk
set_option maxHeartbeats 4000000 in
set_option maxRecDepth 100000 in
theorem cX7_does_ok (l : Launch) (D : va_G) (cA : Nat → ClassId) (ad : Nat → Nat) (M : Mem)  (r : Int32) (M' : Mem) (hf : fX7_does M = some (r, M')) : Ctg l yX7_does cX7_does 4 (some .int) 7 159 shC D cA ad [.ref (ad 0)] M (Qzi shC D cA ad .int r M') := by
  refine ct_in (by decide) (Nat.le_of_ble_eq_true rfl) ?_
  intro p e s m below meth c ls F hl hw
  have hl : lv_has ls 4 [(0, .ref (ad 0))] := hl
  unfold fX7_does at hf
  refine lv_aload_n F.1 F.2.1 dX7_does_0 rfl (lv_at hl 0 rfl) ?_
  refine gX7_19 F hw rfl dX7_does_1 ?_
  refine lv_aload_n F.1 F.2.1 dX7_does_4 rfl (lv_at hl 0 rfl) ?_
  refine gX7_12 F hw rfl dX7_does_5 ?_
  refine gX7_37 F hw rfl dX7_does_8 ?_
  refine lv_aload_n F.1 F.2.1 dX7_does_11 rfl (lv_at hl 0 rfl) ?_
  refine gX7_12 F hw rfl dX7_does_12 ?_
  refine gX7_41 F hw rfl dX7_does_15 ?_
  refine clX7_172 F hw hl ⟨Nat.le_of_ble_eq_true rfl, Nat.le_of_ble_eq_true rfl⟩ (Nat.le_of_ble_eq_true rfl) dX7_does_18 hf (fun t5 M4 H1 o2 hw hn3 hf => ?_)
  refine lv_istore_n F.1 F.2.1 dX7_does_21 rfl hl (lv' := [(1, .int t5), (0, .ref (ad 0))]) (Nat.le_of_ble_eq_true rfl) rfl (fun ls6 hl => ?_)
  refine lv_iload_n F.1 F.2.1 dX7_does_22 rfl (lv_at hl 0 rfl) ?_
  refine k_iconst_m1 F dX7_does_23 ?_
  refine b_icmp_eq F dX7_does_24 (tgt := 32) (by decide) hf (fun hc24 hf => ?_) (fun hc24 hf => ?_)
  · refine k_iconst_0 F dX7_does_32 ?_
    refine lv_istore_n F.1 F.2.1 dX7_does_33 rfl hl (lv' := [(2, .int (0 : Int32)), (1, .int t5), (0, .ref (ad 0))]) (Nat.le_of_ble_eq_true rfl) rfl (fun ls7 hl => ?_)
    refine k_iconst_0 F dX7_does_34 ?_
    refine lv_istore_n F.1 F.2.1 dX7_does_35 rfl hl (lv' := [(3, .int (0 : Int32)), (2, .int (0 : Int32)), (1, .int t5), (0, .ref (ad 0))]) (Nat.le_of_ble_eq_true rfl) rfl (fun ls8 hl => ?_)
    obtain ⟨w18, M19, hq23, hf⟩ := bnd2_some hf
    refine wX7_does_L36 F FUEL (0 : Int32) (0 : Int32) M4 _ _ _ (lv_sub hl [3, 1, 0] rfl) hw w18 M19 hq23 (fun H20 o21 ls22 hl hw => ?_)
    refine lv_iload_n F.1 F.2.1 dX7_does_67 rfl (lv_at hl 0 rfl) ?_
    exact r_iret_w F hw (vp_nar_int _) dX7_does_68 hf
  · refine k_bipush_m10 F dX7_does_27 ?_
    refine lv_iload_n F.1 F.2.1 dX7_does_29 rfl (lv_at hl 0 rfl) ?_
    refine lv_isub F.1 F.2.1 dX7_does_30 ?_
    exact r_iret_w F hw (vp_nar_int _) dX7_does_31 hf
def fX7_told (v1 : Int32) (M : Mem) : Option (Int32 × Mem) :=
  if v1 < 0 then
    bnd2 (fX7_refuseBad M) fun t5 M4 =>
    some (t5, M4)
  else
    if v1 ≤ (6 : Int32) then
      if v1 = (0 : Int32) then
        some ((M 0 2), M)
      else if v1 = (1 : Int32) then
        some ((M 0 3), M)
      else if v1 = (2 : Int32) then
        some ((M 0 4), M)
      else if v1 = (3 : Int32) then
        some ((M 2 1), M)
      else 
        some ((fX7_setting (v1 - (4 : Int32)) M), M)
    else
      bnd2 (fX7_refuseBad M) fun t17 M16 =>
      some (t17, M16)
set_option maxHeartbeats 4000000 in
set_option maxRecDepth 100000 in
theorem cX7_told_ok (l : Launch) (D : va_G) (cA : Nat → ClassId) (ad : Nat → Nat) (M : Mem) (v1 : Int32) (r : Int32) (M' : Mem) (hf : fX7_told v1 M = some (r, M')) : Ctg l yX7_told cX7_told 2 (some .int) 1 21 shC D cA ad [.ref (ad 0), .int v1] M (Qzi shC D cA ad .int r M') := by
  refine ct_in (by decide) (Nat.le_of_ble_eq_true rfl) ?_
  intro p e s m below meth c ls F hl hw
  have hl : lv_has ls 2 [(0, .ref (ad 0)), (1, .int v1)] := hl
  unfold fX7_told at hf
  refine lv_iload_n F.1 F.2.1 dX7_told_0 rfl (lv_at hl 1 rfl) ?_
  refine b_if_lt F dX7_told_1 (tgt := 10) (by decide) hf (fun hc19 hf => ?_) (fun hc19 hf => ?_)
  · refine lv_aload_n F.1 F.2.1 dX7_told_10 rfl (lv_at hl 0 rfl) ?_
    refine clX7_30 F hw hl ⟨Nat.le_of_ble_eq_true rfl, Nat.le_of_ble_eq_true rfl⟩ (Nat.le_of_ble_eq_true rfl) dX7_told_11 hf (fun t5 M4 H1 o2 hw hn3 hf => ?_)
    exact r_iret_w F hw (vp_nar_int _) dX7_told_14 hf
  · refine lv_iload_n F.1 F.2.1 dX7_told_4 rfl (lv_at hl 1 rfl) ?_
    refine k_bipush_6 F dX7_told_5 ?_
    refine b_icmp_le F dX7_told_7 (tgt := 15) (by decide) hf (fun hc18 hf => ?_) (fun hc18 hf => ?_)
    · refine lv_iload_n F.1 F.2.1 dX7_told_15 rfl (lv_at hl 1 rfl) ?_
      by_cases hc6 : v1 = (0 : Int32)
      · rw [if_pos hc6] at hf
        refine lv_tableIn F.1 F.2.1 dX7_told_16 (tgt := 48) (off := 32) (by rw [hc6]; decide) (by rw [hc6]; decide) (by rw [hc6]; decide) (by decide) ?_
        refine lv_aload_n F.1 F.2.1 dX7_told_48 rfl (lv_at hl 0 rfl) ?_
        refine gX7_125 F hw rfl dX7_told_49 ?_
        exact r_iret_w F hw (vp_nar_int _) dX7_told_52 hf
      · rw [if_neg hc6] at hf
        by_cases hc7 : v1 = (1 : Int32)
        · rw [if_pos hc7] at hf
          refine lv_tableIn F.1 F.2.1 dX7_told_16 (tgt := 53) (off := 37) (by rw [hc7]; decide) (by rw [hc7]; decide) (by rw [hc7]; decide) (by decide) ?_
          refine lv_aload_n F.1 F.2.1 dX7_told_53 rfl (lv_at hl 0 rfl) ?_
          refine gX7_181 F hw rfl dX7_told_54 ?_
          exact r_iret_w F hw (vp_nar_int _) dX7_told_57 hf
        · rw [if_neg hc7] at hf
          by_cases hc8 : v1 = (2 : Int32)
          · rw [if_pos hc8] at hf
            refine lv_tableIn F.1 F.2.1 dX7_told_16 (tgt := 58) (off := 42) (by rw [hc8]; decide) (by rw [hc8]; decide) (by rw [hc8]; decide) (by decide) ?_
            refine lv_aload_n F.1 F.2.1 dX7_told_58 rfl (lv_at hl 0 rfl) ?_
            refine gX7_184 F hw rfl dX7_told_59 ?_
            exact r_iret_w F hw (vp_nar_int _) dX7_told_62 hf
          · rw [if_neg hc8] at hf
            by_cases hc9 : v1 = (3 : Int32)
            · rw [if_pos hc9] at hf
              refine lv_tableIn F.1 F.2.1 dX7_told_16 (tgt := 63) (off := 47) (by rw [hc9]; decide) (by rw [hc9]; decide) (by rw [hc9]; decide) (by decide) ?_
              refine lv_aload_n F.1 F.2.1 dX7_told_63 rfl (lv_at hl 0 rfl) ?_
              refine gX7_19 F hw rfl dX7_told_64 ?_
              refine gX7_166 F hw rfl dX7_told_67 ?_
              exact r_iret_w F hw (vp_nar_int _) dX7_told_70 hf
            · rw [if_neg hc9] at hf
              refine lv_tableOut F.1 F.2.1 dX7_told_16 (tgt := 71) (by have hc6t := lv_neT (a := 0) hc6 (by decide); have hc7t := lv_neT (a := 1) hc7 (by decide); have hc8t := lv_neT (a := 2) hc8 (by decide); have hc9t := lv_neT (a := 3) hc9 (by decide); omega) (by decide) ?_
              refine lv_aload_n F.1 F.2.1 dX7_told_71 rfl (lv_at hl 0 rfl) ?_
              refine lv_iload_n F.1 F.2.1 dX7_told_72 rfl (lv_at hl 1 rfl) ?_
              refine k_iconst_4 F dX7_told_73 ?_
              refine lv_isub F.1 F.2.1 dX7_told_74 ?_
              refine clX7_34 F hw hl ⟨Nat.le_of_ble_eq_true rfl, Nat.le_of_ble_eq_true rfl⟩ (Nat.le_of_ble_eq_true rfl) dX7_told_75 (fun H10 o11 hw hn12 => ?_)
              exact r_iret_w F hw (vp_nar_int _) dX7_told_78 hf
    · refine lv_aload_n F.1 F.2.1 dX7_told_10 rfl (lv_at hl 0 rfl) ?_
      refine clX7_30 F hw hl ⟨Nat.le_of_ble_eq_true rfl, Nat.le_of_ble_eq_true rfl⟩ (Nat.le_of_ble_eq_true rfl) dX7_told_11 hf (fun t17 M16 H13 o14 hw hn15 hf => ?_)
      exact r_iret_w F hw (vp_nar_int _) dX7_told_14 hf
theorem clX7_191 (F : Fx D cA RX7 cc nL ret p s m args meth c) (hw : Wd shC D cA ad H0 M H locs) (hl : lv_has ls nL lv) {v1 : Int32} (hR : 2 ≤ R.frames ∧ 42 ≤ R.locals) (hrm : (rest.map fun v => v.category).sum ≤ 8) (hd : decode cc pc = .ok (.invokevirtual 191, 3)) {α : Type} {K : Int32 → Mem → Option α} {res : α} (hf : bnd2 (fX7_told v1 M) K = some res) (kk : ∀ (t : Int32) (M1 : Mem) (H1 : Heap) (locs1 : List Loc), Wd shC D cA ad H0 M1 H1 locs1 → narrow .int (.int t) = .int t → K t M1 = some res → W p l e R s m args below meth c H1 locs1 0 0 Q (F0 m (pc + 3) ls (.int t :: rest))) : W p l e R s m args below meth c H locs 0 0 Q (F0 m pc ls (.int v1 :: .ref (ad 0) :: rest)) := by
  obtain ⟨t, M1, h1, h2⟩ := bnd2_some hf
  exact r_afti hw (r_runV (As := [.int v1]) F hw hl (cX7_told_ok l D cA ad M v1 t M1 h1) cz7 (show shC[0]? = some (.inr (7, sf7)) from rfl) cwX7_191 hR hrm hd) (fun H1 o1 hw1 hn => kk t M1 H1 o1 hw1 hn h2)
def fX7_digest_L6 : Nat → Int64 → Int32 → Mem → Option (Int64 × Mem)
  | 0, _, _, _ => none
  | n + 1, v1, v3, M =>
    if (6 : Int32) < v3 then
      some (v1, M)
    else
      bnd2 (fX7_told v3 M) fun t7 M6 =>
      fX7_digest_L6 n (((31 : Int64) * v1) + t7.toInt64) (v3 + (1 : Int32)) M6
def fX7_digest_L47 : Nat → Int64 → Int32 → Int32 → Mem → Option (Int64 × Mem)
  | 0, _, _, _, _ => none
  | n + 1, v1, v3, v4, M =>
    if (7 : Int32) < v4 then
      some (v1, M)
    else
      bnd2 (fX7_of v3 v4 M) fun t22 M21 =>
      fX7_digest_L47 n (((31 : Int64) * v1) + t22.toInt64) v3 (v4 + (1 : Int32)) M21
def fX7_digest_L33 : Nat → Int64 → Int32 → Mem → Option (Int64 × Mem)
  | 0, _, _, _ => none
  | n + 1, v1, v3, M =>
    if (M 1 0) ≤ v3 then
      some (v1, M)
    else
      bnd2 (fX7_digest_L47 FUEL v1 v3 (0 : Int32) M) fun w26 M27 =>
      fX7_digest_L33 n w26 (v3 + (1 : Int32)) M27
def fX7_digest_L97 : Nat → Int64 → Int32 → Int32 → Mem → Option (Int64 × Mem)
  | 0, _, _, _, _ => none
  | n + 1, v1, v3, v4, M =>
    if (3 : Int32) < v4 then
      some (v1, M)
    else
      bnd2 (fX7_at v3 v4 M) fun t45 M44 =>
      fX7_digest_L97 n (((31 : Int64) * v1) + t45.toInt64) v3 (v4 + (1 : Int32)) M44
def fX7_digest_L83 : Nat → Int64 → Int32 → Mem → Option (Int64 × Mem)
  | 0, _, _, _ => none
  | n + 1, v1, v3, M =>
    if (M 1 1) ≤ v3 then
      some (v1, M)
    else
      bnd2 (fX7_digest_L97 FUEL v1 v3 (0 : Int32) M) fun w49 M50 =>
      fX7_digest_L83 n w49 (v3 + (1 : Int32)) M50
def fX7_digest_L132 : Nat → Int64 → Int32 → Mem → Option (Int64 × Mem)
  | 0, _, _, _ => none
  | n + 1, v1, v3, M =>
    if (8 : Int32) < v3 then
      some (v1, M)
    else
      bnd2 (fX7_all v3 M) fun t67 M66 =>
      fX7_digest_L132 n (((31 : Int64) * v1) + t67.toInt64) (v3 + (1 : Int32)) M66
def fX7_digest (M : Mem) : Option (Int64 × Mem) :=
  bnd2 (fX7_digest_L6 FUEL (2131 : Int64) (0 : Int32) M) fun w11 M12 =>
  bnd2 (fX7_digest_L33 FUEL w11 (0 : Int32) M12) fun w34 M35 =>
  bnd2 (fX7_digest_L83 FUEL w34 (0 : Int32) M35) fun w57 M58 =>
  bnd2 (fX7_digest_L132 FUEL w57 (0 : Int32) M58) fun w71 M72 =>
  some (w71, M72)
set_option maxHeartbeats 4000000 in
set_option maxRecDepth 100000 in
theorem wX7_digest_L6 {p : Program} {l : Launch} {e : Env} {s : State} {m : MethodId} {args : Array Value} {below : List Frame} {meth : Method} {c : Code} {D : va_G} {cA : Nat → ClassId} {ad : Nat → Nat} {Q : State → Prop} (F : Fx D cA RX7 cX7_digest 5 (some .long) p s m args meth c) : ∀ (n : Nat) (v1 : Int64) (v3 : Int32) (M : Mem) (H : Heap) (o : List Loc) (ls : Array Slot), lv_has ls 5 [(0, .ref (ad 0)), (1, .long v1), (3, .int v3)] → Wd shC D cA ad s.heap M H o → ∀ (u1 : Int64) (M' : Mem), fX7_digest_L6 n v1 v3 M = some (u1, M') → (∀ (H1 : Heap) (o1 : List Loc) (ls1 : Array Slot), lv_has ls1 5 [(1, .long u1), (0, .ref (ad 0))] → Wd shC D cA ad s.heap M' H1 o1 → W p l e (rz 3 63) s m args below meth c H1 o1 0 0 Q (F0 m 31 ls1 [])) → W p l e (rz 3 63) s m args below meth c H o 0 0 Q (F0 m 6 ls []) := by
  intro n
  induction n with
  | zero =>
    intro v1 v3 M H o ls hl hw u1 M' hf kk
    cases hf
  | succ n ih =>
    intro v1 v3 M H o ls hl hw u1 M' hf kk
    rw [fX7_digest_L6] at hf
    refine lv_iload_n F.1 F.2.1 dX7_digest_6 rfl (lv_at hl 2 rfl) ?_
    refine k_bipush_6 F dX7_digest_7 ?_
    refine b_icmp_gt F dX7_digest_9 (tgt := 31) (by decide) hf (fun hc10 hf => ?_) (fun hc10 hf => ?_)
    · cases hf
      exact kk _ _ _ (lv_sub hl [1, 0] rfl) hw
    · refine lv_ldc2 F.1 F.2.1 F.2.2.2.1 (F.2.2.2.2.1 _ kw_711) dX7_digest_12 ?_
      refine lv_lload_n F.1 F.2.1 dX7_digest_15 rfl (lv_at hl 1 rfl) ?_
      refine lv_lmul F.1 F.2.1 dX7_digest_16 ?_
      refine lv_aload_n F.1 F.2.1 dX7_digest_17 rfl (lv_at hl 0 rfl) ?_
      refine lv_iload_n F.1 F.2.1 dX7_digest_18 rfl (lv_at hl 2 rfl) ?_
      refine clX7_191 F hw hl ⟨Nat.le_of_ble_eq_true rfl, Nat.le_of_ble_eq_true rfl⟩ (Nat.le_of_ble_eq_true rfl) dX7_digest_19 hf (fun t7 M6 H3 o4 hw hn5 hf => ?_)
      refine lv_i2l F.1 F.2.1 dX7_digest_22 rfl ?_
      refine lv_ladd F.1 F.2.1 dX7_digest_23 ?_
      refine lv_lstore_n F.1 F.2.1 dX7_digest_24 rfl hl (lv' := [(1, .long (((31 : Int64) * v1) + t7.toInt64)), (0, .ref (ad 0)), (3, .int v3)]) (Nat.le_of_ble_eq_true rfl) rfl (fun ls8 hl => ?_)
      refine lv_iinc F.1 F.2.1 dX7_digest_25 hl (k := 2) rfl (ki_1 _) (lv' := [(3, .int (v3 + (1 : Int32))), (1, .long (((31 : Int64) * v1) + t7.toInt64)), (0, .ref (ad 0))]) (Nat.le_of_ble_eq_true rfl) rfl (fun ls9 hl => ?_)
      refine lv_goto F.1 F.2.1 dX7_digest_28 (tgt := 6) (by decide) ?_
      exact ih (((31 : Int64) * v1) + t7.toInt64) (v3 + (1 : Int32)) M6 _ _ _ (lv_sub hl [2, 1, 0] rfl) hw u1 M' hf kk
set_option maxHeartbeats 4000000 in
set_option maxRecDepth 100000 in
theorem wX7_digest_L47 {p : Program} {l : Launch} {e : Env} {s : State} {m : MethodId} {args : Array Value} {below : List Frame} {meth : Method} {c : Code} {D : va_G} {cA : Nat → ClassId} {ad : Nat → Nat} {Q : State → Prop} (F : Fx D cA RX7 cX7_digest 5 (some .long) p s m args meth c) : ∀ (n : Nat) (v1 : Int64) (v3 : Int32) (v4 : Int32) (M : Mem) (H : Heap) (o : List Loc) (ls : Array Slot), lv_has ls 5 [(0, .ref (ad 0)), (1, .long v1), (3, .int v3), (4, .int v4)] → Wd shC D cA ad s.heap M H o → ∀ (u1 : Int64) (M' : Mem), fX7_digest_L47 n v1 v3 v4 M = some (u1, M') → (∀ (H1 : Heap) (o1 : List Loc) (ls1 : Array Slot), lv_has ls1 5 [(1, .long u1), (0, .ref (ad 0)), (3, .int v3)] → Wd shC D cA ad s.heap M' H1 o1 → W p l e (rz 3 63) s m args below meth c H1 o1 0 0 Q (F0 m 75 ls1 [])) → W p l e (rz 3 63) s m args below meth c H o 0 0 Q (F0 m 47 ls []) := by
  intro n
  induction n with
  | zero =>
    intro v1 v3 v4 M H o ls hl hw u1 M' hf kk
    cases hf
  | succ n ih =>
    intro v1 v3 v4 M H o ls hl hw u1 M' hf kk
    rw [fX7_digest_L47] at hf
    refine lv_iload F.1 F.2.1 dX7_digest_47 (lv_at hl 3 rfl) ?_
    refine k_bipush_7 F dX7_digest_49 ?_
    refine b_icmp_gt F dX7_digest_51 (tgt := 75) (by decide) hf (fun hc25 hf => ?_) (fun hc25 hf => ?_)
    · cases hf
      exact kk _ _ _ (lv_sub hl [1, 0, 2] rfl) hw
    · refine lv_ldc2 F.1 F.2.1 F.2.2.2.1 (F.2.2.2.2.1 _ kw_711) dX7_digest_54 ?_
      refine lv_lload_n F.1 F.2.1 dX7_digest_57 rfl (lv_at hl 1 rfl) ?_
      refine lv_lmul F.1 F.2.1 dX7_digest_58 ?_
      refine lv_aload_n F.1 F.2.1 dX7_digest_59 rfl (lv_at hl 0 rfl) ?_
      refine lv_iload_n F.1 F.2.1 dX7_digest_60 rfl (lv_at hl 2 rfl) ?_
      refine lv_iload F.1 F.2.1 dX7_digest_61 (lv_at hl 3 rfl) ?_
      refine clX7_194 F hw hl ⟨Nat.le_of_ble_eq_true rfl, Nat.le_of_ble_eq_true rfl⟩ (Nat.le_of_ble_eq_true rfl) dX7_digest_63 hf (fun t22 M21 H18 o19 hw hn20 hf => ?_)
      refine lv_i2l F.1 F.2.1 dX7_digest_66 rfl ?_
      refine lv_ladd F.1 F.2.1 dX7_digest_67 ?_
      refine lv_lstore_n F.1 F.2.1 dX7_digest_68 rfl hl (lv' := [(1, .long (((31 : Int64) * v1) + t22.toInt64)), (0, .ref (ad 0)), (3, .int v3), (4, .int v4)]) (Nat.le_of_ble_eq_true rfl) rfl (fun ls23 hl => ?_)
      refine lv_iinc F.1 F.2.1 dX7_digest_69 hl (k := 3) rfl (ki_1 _) (lv' := [(4, .int (v4 + (1 : Int32))), (1, .long (((31 : Int64) * v1) + t22.toInt64)), (0, .ref (ad 0)), (3, .int v3)]) (Nat.le_of_ble_eq_true rfl) rfl (fun ls24 hl => ?_)
      refine lv_goto F.1 F.2.1 dX7_digest_72 (tgt := 47) (by decide) ?_
      exact ih (((31 : Int64) * v1) + t22.toInt64) v3 (v4 + (1 : Int32)) M21 _ _ _ (lv_sub hl [2, 1, 3, 0] rfl) hw u1 M' hf kk
set_option maxHeartbeats 4000000 in
set_option maxRecDepth 100000 in
theorem wX7_digest_L33 {p : Program} {l : Launch} {e : Env} {s : State} {m : MethodId} {args : Array Value} {below : List Frame} {meth : Method} {c : Code} {D : va_G} {cA : Nat → ClassId} {ad : Nat → Nat} {Q : State → Prop} (F : Fx D cA RX7 cX7_digest 5 (some .long) p s m args meth c) : ∀ (n : Nat) (v1 : Int64) (v3 : Int32) (M : Mem) (H : Heap) (o : List Loc) (ls : Array Slot), lv_has ls 5 [(0, .ref (ad 0)), (1, .long v1), (3, .int v3)] → Wd shC D cA ad s.heap M H o → ∀ (u1 : Int64) (M' : Mem), fX7_digest_L33 n v1 v3 M = some (u1, M') → (∀ (H1 : Heap) (o1 : List Loc) (ls1 : Array Slot), lv_has ls1 5 [(1, .long u1), (0, .ref (ad 0))] → Wd shC D cA ad s.heap M' H1 o1 → W p l e (rz 3 63) s m args below meth c H1 o1 0 0 Q (F0 m 81 ls1 [])) → W p l e (rz 3 63) s m args below meth c H o 0 0 Q (F0 m 33 ls []) := by
  intro n
  induction n with
  | zero =>
    intro v1 v3 M H o ls hl hw u1 M' hf kk
    cases hf
  | succ n ih =>
    intro v1 v3 M H o ls hl hw u1 M' hf kk
    rw [fX7_digest_L33] at hf
    refine lv_iload_n F.1 F.2.1 dX7_digest_33 rfl (lv_at hl 2 rfl) ?_
    refine lv_aload_n F.1 F.2.1 dX7_digest_34 rfl (lv_at hl 0 rfl) ?_
    refine gX7_12 F hw rfl dX7_digest_35 ?_
    refine gX7_37 F hw rfl dX7_digest_38 ?_
    refine b_icmp_ge F dX7_digest_41 (tgt := 81) (by decide) hf (fun hc33 hf => ?_) (fun hc33 hf => ?_)
    · cases hf
      exact kk _ _ _ (lv_sub hl [1, 0] rfl) hw
    · refine k_iconst_0 F dX7_digest_44 ?_
      refine lv_istore F.1 F.2.1 dX7_digest_45 hl (lv' := [(4, .int (0 : Int32)), (0, .ref (ad 0)), (1, .long v1), (3, .int v3)]) (Nat.le_of_ble_eq_true rfl) rfl (fun ls17 hl => ?_)
      obtain ⟨w26, M27, hq32, hf⟩ := bnd2_some hf
      refine wX7_digest_L47 F FUEL v1 v3 (0 : Int32) M _ _ _ (lv_sub hl [1, 2, 3, 0] rfl) hw w26 M27 hq32 (fun H28 o29 ls30 hl hw => ?_)
      refine lv_iinc F.1 F.2.1 dX7_digest_75 hl (k := 2) rfl (ki_1 _) (lv' := [(3, .int (v3 + (1 : Int32))), (1, .long w26), (0, .ref (ad 0))]) (Nat.le_of_ble_eq_true rfl) rfl (fun ls31 hl => ?_)
      refine lv_goto F.1 F.2.1 dX7_digest_78 (tgt := 33) (by decide) ?_
      exact ih w26 (v3 + (1 : Int32)) M27 _ _ _ (lv_sub hl [2, 1, 0] rfl) hw u1 M' hf kk
set_option maxHeartbeats 4000000 in
set_option maxRecDepth 100000 in
theorem wX7_digest_L97 {p : Program} {l : Launch} {e : Env} {s : State} {m : MethodId} {args : Array Value} {below : List Frame} {meth : Method} {c : Code} {D : va_G} {cA : Nat → ClassId} {ad : Nat → Nat} {Q : State → Prop} (F : Fx D cA RX7 cX7_digest 5 (some .long) p s m args meth c) : ∀ (n : Nat) (v1 : Int64) (v3 : Int32) (v4 : Int32) (M : Mem) (H : Heap) (o : List Loc) (ls : Array Slot), lv_has ls 5 [(0, .ref (ad 0)), (1, .long v1), (3, .int v3), (4, .int v4)] → Wd shC D cA ad s.heap M H o → ∀ (u1 : Int64) (M' : Mem), fX7_digest_L97 n v1 v3 v4 M = some (u1, M') → (∀ (H1 : Heap) (o1 : List Loc) (ls1 : Array Slot), lv_has ls1 5 [(1, .long u1), (0, .ref (ad 0)), (3, .int v3)] → Wd shC D cA ad s.heap M' H1 o1 → W p l e (rz 3 63) s m args below meth c H1 o1 0 0 Q (F0 m 124 ls1 [])) → W p l e (rz 3 63) s m args below meth c H o 0 0 Q (F0 m 97 ls []) := by
  intro n
  induction n with
  | zero =>
    intro v1 v3 v4 M H o ls hl hw u1 M' hf kk
    cases hf
  | succ n ih =>
    intro v1 v3 v4 M H o ls hl hw u1 M' hf kk
    rw [fX7_digest_L97] at hf
    refine lv_iload F.1 F.2.1 dX7_digest_97 (lv_at hl 3 rfl) ?_
    refine k_iconst_3 F dX7_digest_99 ?_
    refine b_icmp_gt F dX7_digest_100 (tgt := 124) (by decide) hf (fun hc48 hf => ?_) (fun hc48 hf => ?_)
    · cases hf
      exact kk _ _ _ (lv_sub hl [1, 0, 2] rfl) hw
    · refine lv_ldc2 F.1 F.2.1 F.2.2.2.1 (F.2.2.2.2.1 _ kw_711) dX7_digest_103 ?_
      refine lv_lload_n F.1 F.2.1 dX7_digest_106 rfl (lv_at hl 1 rfl) ?_
      refine lv_lmul F.1 F.2.1 dX7_digest_107 ?_
      refine lv_aload_n F.1 F.2.1 dX7_digest_108 rfl (lv_at hl 0 rfl) ?_
      refine lv_iload_n F.1 F.2.1 dX7_digest_109 rfl (lv_at hl 2 rfl) ?_
      refine lv_iload F.1 F.2.1 dX7_digest_110 (lv_at hl 3 rfl) ?_
      refine clX7_197 F hw hl ⟨Nat.le_of_ble_eq_true rfl, Nat.le_of_ble_eq_true rfl⟩ (Nat.le_of_ble_eq_true rfl) dX7_digest_112 hf (fun t45 M44 H41 o42 hw hn43 hf => ?_)
      refine lv_i2l F.1 F.2.1 dX7_digest_115 rfl ?_
      refine lv_ladd F.1 F.2.1 dX7_digest_116 ?_
      refine lv_lstore_n F.1 F.2.1 dX7_digest_117 rfl hl (lv' := [(1, .long (((31 : Int64) * v1) + t45.toInt64)), (0, .ref (ad 0)), (3, .int v3), (4, .int v4)]) (Nat.le_of_ble_eq_true rfl) rfl (fun ls46 hl => ?_)
      refine lv_iinc F.1 F.2.1 dX7_digest_118 hl (k := 3) rfl (ki_1 _) (lv' := [(4, .int (v4 + (1 : Int32))), (1, .long (((31 : Int64) * v1) + t45.toInt64)), (0, .ref (ad 0)), (3, .int v3)]) (Nat.le_of_ble_eq_true rfl) rfl (fun ls47 hl => ?_)
      refine lv_goto F.1 F.2.1 dX7_digest_121 (tgt := 97) (by decide) ?_
      exact ih (((31 : Int64) * v1) + t45.toInt64) v3 (v4 + (1 : Int32)) M44 _ _ _ (lv_sub hl [2, 1, 3, 0] rfl) hw u1 M' hf kk
set_option maxHeartbeats 4000000 in
set_option maxRecDepth 100000 in
theorem wX7_digest_L83 {p : Program} {l : Launch} {e : Env} {s : State} {m : MethodId} {args : Array Value} {below : List Frame} {meth : Method} {c : Code} {D : va_G} {cA : Nat → ClassId} {ad : Nat → Nat} {Q : State → Prop} (F : Fx D cA RX7 cX7_digest 5 (some .long) p s m args meth c) : ∀ (n : Nat) (v1 : Int64) (v3 : Int32) (M : Mem) (H : Heap) (o : List Loc) (ls : Array Slot), lv_has ls 5 [(0, .ref (ad 0)), (1, .long v1), (3, .int v3)] → Wd shC D cA ad s.heap M H o → ∀ (u1 : Int64) (M' : Mem), fX7_digest_L83 n v1 v3 M = some (u1, M') → (∀ (H1 : Heap) (o1 : List Loc) (ls1 : Array Slot), lv_has ls1 5 [(1, .long u1), (0, .ref (ad 0))] → Wd shC D cA ad s.heap M' H1 o1 → W p l e (rz 3 63) s m args below meth c H1 o1 0 0 Q (F0 m 130 ls1 [])) → W p l e (rz 3 63) s m args below meth c H o 0 0 Q (F0 m 83 ls []) := by
  intro n
  induction n with
  | zero =>
    intro v1 v3 M H o ls hl hw u1 M' hf kk
    cases hf
  | succ n ih =>
    intro v1 v3 M H o ls hl hw u1 M' hf kk
    rw [fX7_digest_L83] at hf
    refine lv_iload_n F.1 F.2.1 dX7_digest_83 rfl (lv_at hl 2 rfl) ?_
    refine lv_aload_n F.1 F.2.1 dX7_digest_84 rfl (lv_at hl 0 rfl) ?_
    refine gX7_12 F hw rfl dX7_digest_85 ?_
    refine gX7_41 F hw rfl dX7_digest_88 ?_
    refine b_icmp_ge F dX7_digest_91 (tgt := 130) (by decide) hf (fun hc56 hf => ?_) (fun hc56 hf => ?_)
    · cases hf
      exact kk _ _ _ (lv_sub hl [1, 0] rfl) hw
    · refine k_iconst_0 F dX7_digest_94 ?_
      refine lv_istore F.1 F.2.1 dX7_digest_95 hl (lv' := [(4, .int (0 : Int32)), (0, .ref (ad 0)), (1, .long v1), (3, .int v3)]) (Nat.le_of_ble_eq_true rfl) rfl (fun ls40 hl => ?_)
      obtain ⟨w49, M50, hq55, hf⟩ := bnd2_some hf
      refine wX7_digest_L97 F FUEL v1 v3 (0 : Int32) M _ _ _ (lv_sub hl [1, 2, 3, 0] rfl) hw w49 M50 hq55 (fun H51 o52 ls53 hl hw => ?_)
      refine lv_iinc F.1 F.2.1 dX7_digest_124 hl (k := 2) rfl (ki_1 _) (lv' := [(3, .int (v3 + (1 : Int32))), (1, .long w49), (0, .ref (ad 0))]) (Nat.le_of_ble_eq_true rfl) rfl (fun ls54 hl => ?_)
      refine lv_goto F.1 F.2.1 dX7_digest_127 (tgt := 83) (by decide) ?_
      exact ih w49 (v3 + (1 : Int32)) M50 _ _ _ (lv_sub hl [2, 1, 0] rfl) hw u1 M' hf kk
set_option maxHeartbeats 4000000 in
set_option maxRecDepth 100000 in
theorem wX7_digest_L132 {p : Program} {l : Launch} {e : Env} {s : State} {m : MethodId} {args : Array Value} {below : List Frame} {meth : Method} {c : Code} {D : va_G} {cA : Nat → ClassId} {ad : Nat → Nat} {Q : State → Prop} (F : Fx D cA RX7 cX7_digest 5 (some .long) p s m args meth c) : ∀ (n : Nat) (v1 : Int64) (v3 : Int32) (M : Mem) (H : Heap) (o : List Loc) (ls : Array Slot), lv_has ls 5 [(0, .ref (ad 0)), (1, .long v1), (3, .int v3)] → Wd shC D cA ad s.heap M H o → ∀ (u1 : Int64) (M' : Mem), fX7_digest_L132 n v1 v3 M = some (u1, M') → (∀ (H1 : Heap) (o1 : List Loc) (ls1 : Array Slot), lv_has ls1 5 [(1, .long u1)] → Wd shC D cA ad s.heap M' H1 o1 → W p l e (rz 3 63) s m args below meth c H1 o1 0 0 Q (F0 m 157 ls1 [])) → W p l e (rz 3 63) s m args below meth c H o 0 0 Q (F0 m 132 ls []) := by
  intro n
  induction n with
  | zero =>
    intro v1 v3 M H o ls hl hw u1 M' hf kk
    cases hf
  | succ n ih =>
    intro v1 v3 M H o ls hl hw u1 M' hf kk
    rw [fX7_digest_L132] at hf
    refine lv_iload_n F.1 F.2.1 dX7_digest_132 rfl (lv_at hl 2 rfl) ?_
    refine k_bipush_8 F dX7_digest_133 ?_
    refine b_icmp_gt F dX7_digest_135 (tgt := 157) (by decide) hf (fun hc70 hf => ?_) (fun hc70 hf => ?_)
    · cases hf
      exact kk _ _ _ (lv_sub hl [1] rfl) hw
    · refine lv_ldc2 F.1 F.2.1 F.2.2.2.1 (F.2.2.2.2.1 _ kw_711) dX7_digest_138 ?_
      refine lv_lload_n F.1 F.2.1 dX7_digest_141 rfl (lv_at hl 1 rfl) ?_
      refine lv_lmul F.1 F.2.1 dX7_digest_142 ?_
      refine lv_aload_n F.1 F.2.1 dX7_digest_143 rfl (lv_at hl 0 rfl) ?_
      refine lv_iload_n F.1 F.2.1 dX7_digest_144 rfl (lv_at hl 2 rfl) ?_
      refine clX7_200 F hw hl ⟨Nat.le_of_ble_eq_true rfl, Nat.le_of_ble_eq_true rfl⟩ (Nat.le_of_ble_eq_true rfl) dX7_digest_145 hf (fun t67 M66 H63 o64 hw hn65 hf => ?_)
      refine lv_i2l F.1 F.2.1 dX7_digest_148 rfl ?_
      refine lv_ladd F.1 F.2.1 dX7_digest_149 ?_
      refine lv_lstore_n F.1 F.2.1 dX7_digest_150 rfl hl (lv' := [(1, .long (((31 : Int64) * v1) + t67.toInt64)), (0, .ref (ad 0)), (3, .int v3)]) (Nat.le_of_ble_eq_true rfl) rfl (fun ls68 hl => ?_)
      refine lv_iinc F.1 F.2.1 dX7_digest_151 hl (k := 2) rfl (ki_1 _) (lv' := [(3, .int (v3 + (1 : Int32))), (1, .long (((31 : Int64) * v1) + t67.toInt64)), (0, .ref (ad 0))]) (Nat.le_of_ble_eq_true rfl) rfl (fun ls69 hl => ?_)
      refine lv_goto F.1 F.2.1 dX7_digest_154 (tgt := 132) (by decide) ?_
      exact ih (((31 : Int64) * v1) + t67.toInt64) (v3 + (1 : Int32)) M66 _ _ _ (lv_sub hl [2, 1, 0] rfl) hw u1 M' hf kk
set_option maxHeartbeats 4000000 in
set_option maxRecDepth 100000 in
theorem cX7_digest_ok (l : Launch) (D : va_G) (cA : Nat → ClassId) (ad : Nat → Nat) (M : Mem)  (r : Int64) (M' : Mem) (hf : fX7_digest M = some (r, M')) : Ctg l yX7_digest cX7_digest 5 (some .long) 3 63 shC D cA ad [.ref (ad 0)] M (Qzl shC D cA ad r M') := by
  refine ct_in (by decide) (Nat.le_of_ble_eq_true rfl) ?_
  intro p e s m below meth c ls F hl hw
  have hl : lv_has ls 5 [(0, .ref (ad 0))] := hl
  unfold fX7_digest at hf
  refine lv_ldc2 F.1 F.2.1 F.2.2.2.1 (F.2.2.2.2.1 _ kw_710) dX7_digest_0 ?_
  refine lv_lstore_n F.1 F.2.1 dX7_digest_3 rfl hl (lv' := [(1, .long (2131 : Int64)), (0, .ref (ad 0))]) (Nat.le_of_ble_eq_true rfl) rfl (fun ls1 hl => ?_)
  refine k_iconst_0 F dX7_digest_4 ?_
  refine lv_istore_n F.1 F.2.1 dX7_digest_5 rfl hl (lv' := [(3, .int (0 : Int32)), (1, .long (2131 : Int64)), (0, .ref (ad 0))]) (Nat.le_of_ble_eq_true rfl) rfl (fun ls2 hl => ?_)
  obtain ⟨w11, M12, hq79, hf⟩ := bnd2_some hf
  refine wX7_digest_L6 F FUEL (2131 : Int64) (0 : Int32) M _ _ _ (lv_sub hl [2, 1, 0] rfl) hw w11 M12 hq79 (fun H13 o14 ls15 hl hw => ?_)
  refine k_iconst_0 F dX7_digest_31 ?_
  refine lv_istore_n F.1 F.2.1 dX7_digest_32 rfl hl (lv' := [(3, .int (0 : Int32)), (1, .long w11), (0, .ref (ad 0))]) (Nat.le_of_ble_eq_true rfl) rfl (fun ls16 hl => ?_)
  obtain ⟨w34, M35, hq78, hf⟩ := bnd2_some hf
  refine wX7_digest_L33 F FUEL w11 (0 : Int32) M12 _ _ _ (lv_sub hl [2, 1, 0] rfl) hw w34 M35 hq78 (fun H36 o37 ls38 hl hw => ?_)
  refine k_iconst_0 F dX7_digest_81 ?_
  refine lv_istore_n F.1 F.2.1 dX7_digest_82 rfl hl (lv' := [(3, .int (0 : Int32)), (1, .long w34), (0, .ref (ad 0))]) (Nat.le_of_ble_eq_true rfl) rfl (fun ls39 hl => ?_)
  obtain ⟨w57, M58, hq77, hf⟩ := bnd2_some hf
  refine wX7_digest_L83 F FUEL w34 (0 : Int32) M35 _ _ _ (lv_sub hl [2, 1, 0] rfl) hw w57 M58 hq77 (fun H59 o60 ls61 hl hw => ?_)
  refine k_iconst_0 F dX7_digest_130 ?_
  refine lv_istore_n F.1 F.2.1 dX7_digest_131 rfl hl (lv' := [(3, .int (0 : Int32)), (1, .long w57), (0, .ref (ad 0))]) (Nat.le_of_ble_eq_true rfl) rfl (fun ls62 hl => ?_)
  obtain ⟨w71, M72, hq76, hf⟩ := bnd2_some hf
  refine wX7_digest_L132 F FUEL w57 (0 : Int32) M58 _ _ _ (lv_sub hl [2, 1, 0] rfl) hw w71 M72 hq76 (fun H73 o74 ls75 hl hw => ?_)
  refine lv_lload_n F.1 F.2.1 dX7_digest_157 rfl (lv_at hl 0 rfl) ?_
  exact r_lret_w F hw dX7_digest_158 hf
end RW
