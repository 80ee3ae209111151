section RW
variable {p : Program} {l : Launch} {e : Env} {R : Room} {s : State} {m : MethodId} {args : Array Value} {below : List Frame} {meth : Method} {c : Code} {H : Heap} {locs : List Loc} {Q : State → Prop}
variable {sh : List Sh} {D : va_G} {cA : Nat → ClassId} {ad : Nat → Nat} {H0 : Heap} {M : Mem} {cc : ByteArray} {own : String} {nL : Nat} {ret : Option FieldType} {pc : Nat} {ls : Array Slot} {rest : List Value} {lv : List (Nat × Value)}
def fX4_skipBlanks_L0 : Nat → Mem → Option (Mem)
  | 0, _ => none
  | n + 1, M =>
    if (M 2 1) ≤ (M 2 7) then
      some M
    else
      ix (M 2 7) 120 <|
      if (M 40 (M 2 7).toNatClampNeg) = (32 : Int32) then
        wr M 2 7 ((M 2 7) + (1 : Int32)) fun M2 =>
        fX4_skipBlanks_L0 n M2
      else
        some M
def fX4_skipBlanks (M : Mem) : Option Mem :=
  bnd1 (fX4_skipBlanks_L0 FUEL M) fun M7 =>
  some M7
set_option maxHeartbeats 4000000 in
set_option maxRecDepth 100000 in
theorem wX4_skipBlanks_L0 {p : Program} {l : Launch} {e : Env} {s : State} {m : MethodId} {args : Array Value} {below : List Frame} {meth : Method} {c : Code} {D : va_G} {cA : Nat → ClassId} {ad : Nat → Nat} {Q : State → Prop} (F : Fx D cA RX4 cX4_skipBlanks 1 none p s m args meth c) : ∀ (n : Nat) (M : Mem) (H : Heap) (o : List Loc) (ls : Array Slot), lv_has ls 1 [(0, .ref (ad 2))] → Wd shC D cA ad s.heap M H o → ∀ (M' : Mem), fX4_skipBlanks_L0 n M = some M' → (∀ (H1 : Heap) (o1 : List Loc) (ls1 : Array Slot), lv_has ls1 1 [] → Wd shC D cA ad s.heap M' H1 o1 → W p l e (rz 0 0) s m args below meth c H1 o1 0 0 Q (F0 m 38 ls1 [])) → W p l e (rz 0 0) s m args below meth c H o 0 0 Q (F0 m 0 ls []) := by
  intro n
  induction n with
  | zero =>
    intro M H o ls hl hw M' hf kk
    cases hf
  | succ n ih =>
    intro M H o ls hl hw M' hf kk
    rw [fX4_skipBlanks_L0] at hf
    refine lv_aload_n F.1 F.2.1 dX4_skipBlanks_0 rfl (lv_at hl 0 rfl) ?_
    refine gX4_31 F hw rfl dX4_skipBlanks_1 ?_
    refine lv_aload_n F.1 F.2.1 dX4_skipBlanks_4 rfl (lv_at hl 0 rfl) ?_
    refine gX4_37 F hw rfl dX4_skipBlanks_5 ?_
    refine b_icmp_ge F dX4_skipBlanks_8 (tgt := 38) (by decide) hf (fun hc6 hf => ?_) (fun hc6 hf => ?_)
    · cases hf
      exact kk _ _ _ (lv_sub hl [] rfl) hw
    · refine lv_aload_n F.1 F.2.1 dX4_skipBlanks_11 rfl (lv_at hl 0 rfl) ?_
      refine gX4_9 F hw rfl dX4_skipBlanks_12 ?_
      refine lv_aload_n F.1 F.2.1 dX4_skipBlanks_15 rfl (lv_at hl 0 rfl) ?_
      refine gX4_31 F hw rfl dX4_skipBlanks_16 ?_
      refine r_iald F hw (n := 120) rfl dX4_skipBlanks_19 hf (fun hi1 hf => ?_)
      refine k_bipush_32 F dX4_skipBlanks_20 ?_
      refine b_icmp_ne F dX4_skipBlanks_22 (tgt := 38) (by decide) hf (fun hc5 hf => ?_) (fun hc5 hf => ?_)
      · refine lv_aload_n F.1 F.2.1 dX4_skipBlanks_25 rfl (lv_at hl 0 rfl) ?_
        refine lv_dup F.1 F.2.1 dX4_skipBlanks_26 rfl ?_
        refine gX4_31 F hw rfl dX4_skipBlanks_27 ?_
        refine k_iconst_1 F dX4_skipBlanks_30 ?_
        refine lv_iadd F.1 F.2.1 dX4_skipBlanks_31 ?_
        refine qX4_31 F hw rfl dX4_skipBlanks_32 hf (fun M2 H3 o4 hw hf => ?_)
        refine lv_goto F.1 F.2.1 dX4_skipBlanks_35 (tgt := 0) (by decide) ?_
        exact ih M2 _ _ _ hl hw  M' hf kk
      · cases hf
        exact kk _ _ _ (lv_sub hl [] rfl) hw
set_option maxHeartbeats 4000000 in
set_option maxRecDepth 100000 in
theorem cX4_skipBlanks_ok (l : Launch) (D : va_G) (cA : Nat → ClassId) (ad : Nat → Nat) (M : Mem)  (M' : Mem) (hf : fX4_skipBlanks M = some M') : Ctg l yX4_skipBlanks cX4_skipBlanks 1 none 0 0 shC D cA ad [.ref (ad 2)] M (Qzv shC D cA ad M') := by
  refine ct_in (by decide) (Nat.le_of_ble_eq_true rfl) ?_
  intro p e s m below meth c ls F hl hw
  have hl : lv_has ls 1 [(0, .ref (ad 2))] := hl
  unfold fX4_skipBlanks at hf
  obtain ⟨M7, hq11, hf⟩ := bnd1_some hf
  refine wX4_skipBlanks_L0 F FUEL M _ _ _ hl hw M7 hq11 (fun H8 o9 ls10 hl hw => ?_)
  exact r_vret_w F hw dX4_skipBlanks_38 hf
theorem clX4_34 (F : Fx D cA RX4 cc nL ret p s m args meth c) (hw : Wd shC D cA ad H0 M H locs) (hl : lv_has ls nL lv) (hR : 1 ≤ R.frames ∧ 20 ≤ R.locals) (hrm : (rest.map fun v => v.category).sum ≤ 8) (hd : decode cc pc = .ok (.invokevirtual 34, 3)) {α : Type} {K : Mem → Option α} {res : α} (hf : bnd1 (fX4_skipBlanks M) K = some res) (kk : ∀ (M1 : Mem) (H1 : Heap) (locs1 : List Loc), Wd shC D cA ad H0 M1 H1 locs1 → K M1 = some res → W p l e R s m args below meth c H1 locs1 0 0 Q (F0 m (pc + 3) ls rest)) : W p l e R s m args below meth c H locs 0 0 Q (F0 m pc ls (.ref (ad 2) :: rest)) := by
  obtain ⟨M1, h1, h2⟩ := bnd1_some hf
  exact r_aftv hw (r_runV (As := []) F hw hl (cX4_skipBlanks_ok l D cA ad M M1 h1) cz4 (show shC[2]? = some (.inr (4, sf4)) from rfl) cwX4_34 hR hrm hd) (fun H1 o1 hw1 => kk M1 H1 o1 hw1 h2)
def fX4_hasSender (v0 : Int32) : Int32 :=
  if v0 = (115 : Int32) then
    (1 : Int32)
  else
    if v0 = (122 : Int32) then
      (1 : Int32)
    else
      if v0 = (114 : Int32) then
        (1 : Int32)
      else
        if v0 = (103 : Int32) then
          (1 : Int32)
        else
          (0 : Int32)
set_option maxHeartbeats 4000000 in
set_option maxRecDepth 100000 in
theorem cX4_hasSender_ok (l : Launch) (D : va_G) (cA : Nat → ClassId) (ad : Nat → Nat) (M : Mem) (v0 : Int32) (r : Int32) (hf : fX4_hasSender v0 = r) : Ctg l yX4_hasSender cX4_hasSender 1 (some .boolean) 0 0 shC D cA ad [.int v0] M (Qzi shC D cA ad .boolean r M) := by
  refine ct_in (by decide) (Nat.le_of_ble_eq_true rfl) ?_
  intro p e s m below meth c ls F hl hw
  have hl : lv_has ls 1 [(0, .int v0)] := hl
  unfold fX4_hasSender at hf
  refine lv_iload_n F.1 F.2.1 dX4_hasSender_0 rfl (lv_at hl 0 rfl) ?_
  refine k_bipush_115 F dX4_hasSender_1 ?_
  refine b_icmp_eq F dX4_hasSender_3 (tgt := 24) (by decide) hf (fun hc4 hf => ?_) (fun hc4 hf => ?_)
  · refine k_iconst_1 F dX4_hasSender_24 ?_
    refine lv_goto F.1 F.2.1 dX4_hasSender_25 (tgt := 29) (by decide) ?_
    exact r_iret_t F hw rfl dX4_hasSender_29 hf
  · refine lv_iload_n F.1 F.2.1 dX4_hasSender_6 rfl (lv_at hl 0 rfl) ?_
    refine k_bipush_122 F dX4_hasSender_7 ?_
    refine b_icmp_eq F dX4_hasSender_9 (tgt := 24) (by decide) hf (fun hc3 hf => ?_) (fun hc3 hf => ?_)
    · refine k_iconst_1 F dX4_hasSender_24 ?_
      refine lv_goto F.1 F.2.1 dX4_hasSender_25 (tgt := 29) (by decide) ?_
      exact r_iret_t F hw rfl dX4_hasSender_29 hf
    · refine lv_iload_n F.1 F.2.1 dX4_hasSender_12 rfl (lv_at hl 0 rfl) ?_
      refine k_bipush_114 F dX4_hasSender_13 ?_
      refine b_icmp_eq F dX4_hasSender_15 (tgt := 24) (by decide) hf (fun hc2 hf => ?_) (fun hc2 hf => ?_)
      · refine k_iconst_1 F dX4_hasSender_24 ?_
        refine lv_goto F.1 F.2.1 dX4_hasSender_25 (tgt := 29) (by decide) ?_
        exact r_iret_t F hw rfl dX4_hasSender_29 hf
      · refine lv_iload_n F.1 F.2.1 dX4_hasSender_18 rfl (lv_at hl 0 rfl) ?_
        refine k_bipush_103 F dX4_hasSender_19 ?_
        refine b_icmp_ne F dX4_hasSender_21 (tgt := 28) (by decide) hf (fun hc1 hf => ?_) (fun hc1 hf => ?_)
        · refine k_iconst_1 F dX4_hasSender_24 ?_
          refine lv_goto F.1 F.2.1 dX4_hasSender_25 (tgt := 29) (by decide) ?_
          exact r_iret_t F hw rfl dX4_hasSender_29 hf
        · refine k_iconst_0 F dX4_hasSender_28 ?_
          exact r_iret_t F hw rfl dX4_hasSender_29 hf
theorem clX4_48 (F : Fx D cA RX4 cc nL ret p s m args meth c) (hw : Wd shC D cA ad H0 M H locs) (hl : lv_has ls nL lv) {v0 : Int32} (hR : 1 ≤ R.frames ∧ 20 ≤ R.locals) (hrm : (rest.map fun v => v.category).sum ≤ 8) (hd : decode cc pc = .ok (.invokestatic 48, 3)) (kk : ∀ (H1 : Heap) (locs1 : List Loc), Wd shC D cA ad H0 M H1 locs1 → narrow .boolean (.int (fX4_hasSender v0)) = .int (fX4_hasSender v0) → W p l e R s m args below meth c H1 locs1 0 0 Q (F0 m (pc + 3) ls (.int (fX4_hasSender v0) :: rest))) : W p l e R s m args below meth c H locs 0 0 Q (F0 m pc ls (.int v0 :: rest)) :=
  r_afti hw (r_runS (As := [.int v0]) F hw hl (cX4_hasSender_ok l D cA ad M v0 (fX4_hasSender v0) rfl) cwX4_48 hR hrm hd) (fun H1 o1 hw1 hn => kk H1 o1 hw1 hn)
def fX4_hasGate (v0 : Int32) : Int32 :=
  if v0 = (103 : Int32) then
    (1 : Int32)
  else
    if v0 = (98 : Int32) then
      (1 : Int32)
    else
      if v0 = (108 : Int32) then
        (1 : Int32)
      else
        (0 : Int32)
set_option maxHeartbeats 4000000 in
set_option maxRecDepth 100000 in
theorem cX4_hasGate_ok (l : Launch) (D : va_G) (cA : Nat → ClassId) (ad : Nat → Nat) (M : Mem) (v0 : Int32) (r : Int32) (hf : fX4_hasGate v0 = r) : Ctg l yX4_hasGate cX4_hasGate 1 (some .boolean) 0 0 shC D cA ad [.int v0] M (Qzi shC D cA ad .boolean r M) := by
  refine ct_in (by decide) (Nat.le_of_ble_eq_true rfl) ?_
  intro p e s m below meth c ls F hl hw
  have hl : lv_has ls 1 [(0, .int v0)] := hl
  unfold fX4_hasGate at hf
  refine lv_iload_n F.1 F.2.1 dX4_hasGate_0 rfl (lv_at hl 0 rfl) ?_
  refine k_bipush_103 F dX4_hasGate_1 ?_
  refine b_icmp_eq F dX4_hasGate_3 (tgt := 18) (by decide) hf (fun hc3 hf => ?_) (fun hc3 hf => ?_)
  · refine k_iconst_1 F dX4_hasGate_18 ?_
    refine lv_goto F.1 F.2.1 dX4_hasGate_19 (tgt := 23) (by decide) ?_
    exact r_iret_t F hw rfl dX4_hasGate_23 hf
  · refine lv_iload_n F.1 F.2.1 dX4_hasGate_6 rfl (lv_at hl 0 rfl) ?_
    refine k_bipush_98 F dX4_hasGate_7 ?_
    refine b_icmp_eq F dX4_hasGate_9 (tgt := 18) (by decide) hf (fun hc2 hf => ?_) (fun hc2 hf => ?_)
    · refine k_iconst_1 F dX4_hasGate_18 ?_
      refine lv_goto F.1 F.2.1 dX4_hasGate_19 (tgt := 23) (by decide) ?_
      exact r_iret_t F hw rfl dX4_hasGate_23 hf
    · refine lv_iload_n F.1 F.2.1 dX4_hasGate_12 rfl (lv_at hl 0 rfl) ?_
      refine k_bipush_108 F dX4_hasGate_13 ?_
      refine b_icmp_ne F dX4_hasGate_15 (tgt := 22) (by decide) hf (fun hc1 hf => ?_) (fun hc1 hf => ?_)
      · refine k_iconst_1 F dX4_hasGate_18 ?_
        refine lv_goto F.1 F.2.1 dX4_hasGate_19 (tgt := 23) (by decide) ?_
        exact r_iret_t F hw rfl dX4_hasGate_23 hf
      · refine k_iconst_0 F dX4_hasGate_22 ?_
        exact r_iret_t F hw rfl dX4_hasGate_23 hf
theorem clX4_55 (F : Fx D cA RX4 cc nL ret p s m args meth c) (hw : Wd shC D cA ad H0 M H locs) (hl : lv_has ls nL lv) {v0 : Int32} (hR : 1 ≤ R.frames ∧ 20 ≤ R.locals) (hrm : (rest.map fun v => v.category).sum ≤ 8) (hd : decode cc pc = .ok (.invokestatic 55, 3)) (kk : ∀ (H1 : Heap) (locs1 : List Loc), Wd shC D cA ad H0 M H1 locs1 → narrow .boolean (.int (fX4_hasGate v0)) = .int (fX4_hasGate v0) → W p l e R s m args below meth c H1 locs1 0 0 Q (F0 m (pc + 3) ls (.int (fX4_hasGate v0) :: rest))) : W p l e R s m args below meth c H locs 0 0 Q (F0 m pc ls (.int v0 :: rest)) :=
  r_afti hw (r_runS (As := [.int v0]) F hw hl (cX4_hasGate_ok l D cA ad M v0 (fX4_hasGate v0) rfl) cwX4_55 hR hrm hd) (fun H1 o1 hw1 hn => kk H1 o1 hw1 hn)
def fX4_hasNumber (v0 : Int32) : Int32 :=
  if v0 = (43 : Int32) then
    (1 : Int32)
  else
    if (fX4_hasGate v0) = 0 then
      (0 : Int32)
    else
      (1 : Int32)
set_option maxHeartbeats 4000000 in
set_option maxRecDepth 100000 in
theorem cX4_hasNumber_ok (l : Launch) (D : va_G) (cA : Nat → ClassId) (ad : Nat → Nat) (M : Mem) (v0 : Int32) (r : Int32) (hf : fX4_hasNumber v0 = r) : Ctg l yX4_hasNumber cX4_hasNumber 1 (some .boolean) 1 20 shC D cA ad [.int v0] M (Qzi shC D cA ad .boolean r M) := by
  refine ct_in (by decide) (Nat.le_of_ble_eq_true rfl) ?_
  intro p e s m below meth c ls F hl hw
  have hl : lv_has ls 1 [(0, .int v0)] := hl
  unfold fX4_hasNumber at hf
  refine lv_iload_n F.1 F.2.1 dX4_hasNumber_0 rfl (lv_at hl 0 rfl) ?_
  refine k_bipush_43 F dX4_hasNumber_1 ?_
  refine b_icmp_eq F dX4_hasNumber_3 (tgt := 13) (by decide) hf (fun hc5 hf => ?_) (fun hc5 hf => ?_)
  · refine k_iconst_1 F dX4_hasNumber_13 ?_
    refine lv_goto F.1 F.2.1 dX4_hasNumber_14 (tgt := 18) (by decide) ?_
    exact r_iret_t F hw rfl dX4_hasNumber_18 hf
  · refine lv_iload_n F.1 F.2.1 dX4_hasNumber_6 rfl (lv_at hl 0 rfl) ?_
    refine clX4_55 F hw hl ⟨Nat.le_of_ble_eq_true rfl, Nat.le_of_ble_eq_true rfl⟩ (Nat.le_of_ble_eq_true rfl) dX4_hasNumber_7 (fun H1 o2 hw hn3 => ?_)
    refine b_if_eq F dX4_hasNumber_10 (tgt := 17) (by decide) hf (fun hc4 hf => ?_) (fun hc4 hf => ?_)
    · refine k_iconst_0 F dX4_hasNumber_17 ?_
      exact r_iret_t F hw rfl dX4_hasNumber_18 hf
    · refine k_iconst_1 F dX4_hasNumber_13 ?_
      refine lv_goto F.1 F.2.1 dX4_hasNumber_14 (tgt := 18) (by decide) ?_
      exact r_iret_t F hw rfl dX4_hasNumber_18 hf
theorem clX4_58 (F : Fx D cA RX4 cc nL ret p s m args meth c) (hw : Wd shC D cA ad H0 M H locs) (hl : lv_has ls nL lv) {v0 : Int32} (hR : 2 ≤ R.frames ∧ 40 ≤ R.locals) (hrm : (rest.map fun v => v.category).sum ≤ 8) (hd : decode cc pc = .ok (.invokestatic 58, 3)) (kk : ∀ (H1 : Heap) (locs1 : List Loc), Wd shC D cA ad H0 M H1 locs1 → narrow .boolean (.int (fX4_hasNumber v0)) = .int (fX4_hasNumber v0) → W p l e R s m args below meth c H1 locs1 0 0 Q (F0 m (pc + 3) ls (.int (fX4_hasNumber v0) :: rest))) : W p l e R s m args below meth c H locs 0 0 Q (F0 m pc ls (.int v0 :: rest)) :=
  r_afti hw (r_runS (As := [.int v0]) F hw hl (cX4_hasNumber_ok l D cA ad M v0 (fX4_hasNumber v0) rfl) cwX4_58 hR hrm hd) (fun H1 o1 hw1 hn => kk H1 o1 hw1 hn)
def fX4_isKind (v0 : Int32) : Int32 :=
  if (fX4_hasSender v0) = 0 then
    if (fX4_hasGate v0) = 0 then
      if (fX4_hasNumber v0) = 0 then
        (0 : Int32)
      else
        (1 : Int32)
    else
      (1 : Int32)
  else
    (1 : Int32)
set_option maxHeartbeats 4000000 in
set_option maxRecDepth 100000 in
theorem cX4_isKind_ok (l : Launch) (D : va_G) (cA : Nat → ClassId) (ad : Nat → Nat) (M : Mem) (v0 : Int32) (r : Int32) (hf : fX4_isKind v0 = r) : Ctg l yX4_isKind cX4_isKind 1 (some .boolean) 2 40 shC D cA ad [.int v0] M (Qzi shC D cA ad .boolean r M) := by
  refine ct_in (by decide) (Nat.le_of_ble_eq_true rfl) ?_
  intro p e s m below meth c ls F hl hw
  have hl : lv_has ls 1 [(0, .int v0)] := hl
  unfold fX4_isKind at hf
  refine lv_iload_n F.1 F.2.1 dX4_isKind_0 rfl (lv_at hl 0 rfl) ?_
  refine clX4_48 F hw hl ⟨Nat.le_of_ble_eq_true rfl, Nat.le_of_ble_eq_true rfl⟩ (Nat.le_of_ble_eq_true rfl) dX4_isKind_1 (fun H1 o2 hw hn3 => ?_)
  refine b_if_ne F dX4_isKind_4 (tgt := 21) (by decide) hf (fun hc12 hf => ?_) (fun hc12 hf => ?_)
  · refine lv_iload_n F.1 F.2.1 dX4_isKind_7 rfl (lv_at hl 0 rfl) ?_
    refine clX4_55 F hw hl ⟨Nat.le_of_ble_eq_true rfl, Nat.le_of_ble_eq_true rfl⟩ (Nat.le_of_ble_eq_true rfl) dX4_isKind_8 (fun H4 o5 hw hn6 => ?_)
    refine b_if_ne F dX4_isKind_11 (tgt := 21) (by decide) hf (fun hc11 hf => ?_) (fun hc11 hf => ?_)
    · refine lv_iload_n F.1 F.2.1 dX4_isKind_14 rfl (lv_at hl 0 rfl) ?_
      refine clX4_58 F hw hl ⟨Nat.le_of_ble_eq_true rfl, Nat.le_of_ble_eq_true rfl⟩ (Nat.le_of_ble_eq_true rfl) dX4_isKind_15 (fun H7 o8 hw hn9 => ?_)
      refine b_if_eq F dX4_isKind_18 (tgt := 25) (by decide) hf (fun hc10 hf => ?_) (fun hc10 hf => ?_)
      · refine k_iconst_0 F dX4_isKind_25 ?_
        exact r_iret_t F hw rfl dX4_isKind_26 hf
      · refine k_iconst_1 F dX4_isKind_21 ?_
        refine lv_goto F.1 F.2.1 dX4_isKind_22 (tgt := 26) (by decide) ?_
        exact r_iret_t F hw rfl dX4_isKind_26 hf
    · refine k_iconst_1 F dX4_isKind_21 ?_
      refine lv_goto F.1 F.2.1 dX4_isKind_22 (tgt := 26) (by decide) ?_
      exact r_iret_t F hw rfl dX4_isKind_26 hf
  · refine k_iconst_1 F dX4_isKind_21 ?_
    refine lv_goto F.1 F.2.1 dX4_isKind_22 (tgt := 26) (by decide) ?_
    exact r_iret_t F hw rfl dX4_isKind_26 hf
theorem clX4_44 (F : Fx D cA RX4 cc nL ret p s m args meth c) (hw : Wd shC D cA ad H0 M H locs) (hl : lv_has ls nL lv) {v0 : Int32} (hR : 3 ≤ R.frames ∧ 60 ≤ R.locals) (hrm : (rest.map fun v => v.category).sum ≤ 8) (hd : decode cc pc = .ok (.invokestatic 44, 3)) (kk : ∀ (H1 : Heap) (locs1 : List Loc), Wd shC D cA ad H0 M H1 locs1 → narrow .boolean (.int (fX4_isKind v0)) = .int (fX4_isKind v0) → W p l e R s m args below meth c H1 locs1 0 0 Q (F0 m (pc + 3) ls (.int (fX4_isKind v0) :: rest))) : W p l e R s m args below meth c H locs 0 0 Q (F0 m pc ls (.int v0 :: rest)) :=
  r_afti hw (r_runS (As := [.int v0]) F hw hl (cX4_isKind_ok l D cA ad M v0 (fX4_isKind v0) rfl) cwX4_44 hR hrm hd) (fun H1 o1 hw1 hn => kk H1 o1 hw1 hn)
def fX4_isFigureNext (M : Mem) : Option Int32 :=
  if (M 2 1) ≤ (M 2 7) then
    some (0 : Int32)
  else
    ix (M 2 7) 120 <|
    if (M 40 (M 2 7).toNatClampNeg) < (48 : Int32) then
      some (0 : Int32)
    else
      if (57 : Int32) < (M 40 (M 2 7).toNatClampNeg) then
        some (0 : Int32)
      else
        some (1 : Int32)
set_option maxHeartbeats 4000000 in
set_option maxRecDepth 100000 in
theorem cX4_isFigureNext_ok (l : Launch) (D : va_G) (cA : Nat → ClassId) (ad : Nat → Nat) (M : Mem)  (r : Int32) (hf : fX4_isFigureNext M = some r) : Ctg l yX4_isFigureNext cX4_isFigureNext 1 (some .boolean) 0 0 shC D cA ad [.ref (ad 2)] M (Qzi shC D cA ad .boolean r M) := by
  refine ct_in (by decide) (Nat.le_of_ble_eq_true rfl) ?_
  intro p e s m below meth c ls F hl hw
  have hl : lv_has ls 1 [(0, .ref (ad 2))] := hl
  unfold fX4_isFigureNext at hf
  refine lv_aload_n F.1 F.2.1 dX4_isFigureNext_0 rfl (lv_at hl 0 rfl) ?_
  refine gX4_31 F hw rfl dX4_isFigureNext_1 ?_
  refine lv_aload_n F.1 F.2.1 dX4_isFigureNext_4 rfl (lv_at hl 0 rfl) ?_
  refine gX4_37 F hw rfl dX4_isFigureNext_5 ?_
  refine b_icmp_ge F dX4_isFigureNext_8 (tgt := 43) (by decide) hf (fun hc4 hf => ?_) (fun hc4 hf => ?_)
  · refine k_iconst_0 F dX4_isFigureNext_43 ?_
    exact r_iret_o F hw rfl dX4_isFigureNext_44 hf
  · refine lv_aload_n F.1 F.2.1 dX4_isFigureNext_11 rfl (lv_at hl 0 rfl) ?_
    refine gX4_9 F hw rfl dX4_isFigureNext_12 ?_
    refine lv_aload_n F.1 F.2.1 dX4_isFigureNext_15 rfl (lv_at hl 0 rfl) ?_
    refine gX4_31 F hw rfl dX4_isFigureNext_16 ?_
    refine r_iald F hw (n := 120) rfl dX4_isFigureNext_19 hf (fun hi1 hf => ?_)
    refine k_bipush_48 F dX4_isFigureNext_20 ?_
    refine b_icmp_lt F dX4_isFigureNext_22 (tgt := 43) (by decide) hf (fun hc3 hf => ?_) (fun hc3 hf => ?_)
    · refine k_iconst_0 F dX4_isFigureNext_43 ?_
      exact r_iret_o F hw rfl dX4_isFigureNext_44 hf
    · refine lv_aload_n F.1 F.2.1 dX4_isFigureNext_25 rfl (lv_at hl 0 rfl) ?_
      refine gX4_9 F hw rfl dX4_isFigureNext_26 ?_
      refine lv_aload_n F.1 F.2.1 dX4_isFigureNext_29 rfl (lv_at hl 0 rfl) ?_
      refine gX4_31 F hw rfl dX4_isFigureNext_30 ?_
      refine r_iald0 F hw (n := 120) rfl dX4_isFigureNext_33 hi1 ?_
      refine k_bipush_57 F dX4_isFigureNext_34 ?_
      refine b_icmp_gt F dX4_isFigureNext_36 (tgt := 43) (by decide) hf (fun hc2 hf => ?_) (fun hc2 hf => ?_)
      · refine k_iconst_0 F dX4_isFigureNext_43 ?_
        exact r_iret_o F hw rfl dX4_isFigureNext_44 hf
      · refine k_iconst_1 F dX4_isFigureNext_39 ?_
        refine lv_goto F.1 F.2.1 dX4_isFigureNext_40 (tgt := 44) (by decide) ?_
        exact r_iret_o F hw rfl dX4_isFigureNext_44 hf
theorem clX4_71 (F : Fx D cA RX4 cc nL ret p s m args meth c) (hw : Wd shC D cA ad H0 M H locs) (hl : lv_has ls nL lv) (hR : 1 ≤ R.frames ∧ 20 ≤ R.locals) (hrm : (rest.map fun v => v.category).sum ≤ 8) (hd : decode cc pc = .ok (.invokevirtual 71, 3)) {α : Type} {K : Int32 → Option α} {res : α} (hf : bnd1 (fX4_isFigureNext M) K = some res) (kk : ∀ (t : Int32) (H1 : Heap) (locs1 : List Loc), Wd shC D cA ad H0 M H1 locs1 → narrow .boolean (.int t) = .int t → K t = some res → W p l e R s m args below meth c H1 locs1 0 0 Q (F0 m (pc + 3) ls (.int t :: rest))) : W p l e R s m args below meth c H locs 0 0 Q (F0 m pc ls (.ref (ad 2) :: rest)) := by
  obtain ⟨t, h1, h2⟩ := bnd1_some hf
  exact r_afti hw (r_runV (As := []) F hw hl (cX4_isFigureNext_ok l D cA ad M t h1) cz4 (show shC[2]? = some (.inr (4, sf4)) from rfl) cwX4_71 hR hrm hd) (fun H1 o1 hw1 hn => kk t H1 o1 hw1 hn h2)
def fX4_readFigure (v1 : Int32) (M : Mem) : Option (Int32 × Mem) :=
  bnd1 (fX4_skipBlanks M) fun M4 =>
  bnd1 (fX4_isFigureNext M4) fun t8 =>
  if t8 = 0 then
    some ((-1 : Int32), M4)
  else
    ix (M4 2 7) 120 <|
    if ((M4 40 (M4 2 7).toNatClampNeg) - (48 : Int32)) < v1 then
      wr M4 2 7 ((M4 2 7) + (1 : Int32)) fun M11 =>
      some (((M4 40 (M4 2 7).toNatClampNeg) - (48 : Int32)), M11)
    else
      some ((-1 : Int32), M4)
set_option maxHeartbeats 4000000 in
set_option maxRecDepth 100000 in
theorem cX4_readFigure_ok (l : Launch) (D : va_G) (cA : Nat → ClassId) (ad : Nat → Nat) (M : Mem) (v1 : Int32) (r : Int32) (M' : Mem) (hf : fX4_readFigure v1 M = some (r, M')) : Ctg l yX4_readFigure cX4_readFigure 3 (some .int) 1 20 shC D cA ad [.ref (ad 2), .int v1] M (Qzi shC D cA ad .int r M') := by
  refine ct_in (by decide) (Nat.le_of_ble_eq_true rfl) ?_
  intro p e s m below meth c ls F hl hw
  have hl : lv_has ls 3 [(0, .ref (ad 2)), (1, .int v1)] := hl
  unfold fX4_readFigure at hf
  refine lv_aload_n F.1 F.2.1 dX4_readFigure_0 rfl (lv_at hl 0 rfl) ?_
  refine clX4_34 F hw hl ⟨Nat.le_of_ble_eq_true rfl, Nat.le_of_ble_eq_true rfl⟩ (Nat.le_of_ble_eq_true rfl) dX4_readFigure_1 hf (fun M4 H1 o2 hw hf => ?_)
  refine lv_aload_n F.1 F.2.1 dX4_readFigure_4 rfl (lv_at hl 0 rfl) ?_
  refine clX4_71 F hw hl ⟨Nat.le_of_ble_eq_true rfl, Nat.le_of_ble_eq_true rfl⟩ (Nat.le_of_ble_eq_true rfl) dX4_readFigure_5 hf (fun t8 H5 o6 hw hn7 hf => ?_)
  refine b_if_eq F dX4_readFigure_8 (tgt := 27) (by decide) hf (fun hc15 hf => ?_) (fun hc15 hf => ?_)
  · refine k_iconst_m1 F dX4_readFigure_27 ?_
    exact r_iret_w F hw (vp_nar_int _) dX4_readFigure_28 hf
  · refine lv_aload_n F.1 F.2.1 dX4_readFigure_11 rfl (lv_at hl 0 rfl) ?_
    refine gX4_9 F hw rfl dX4_readFigure_12 ?_
    refine lv_aload_n F.1 F.2.1 dX4_readFigure_15 rfl (lv_at hl 0 rfl) ?_
    refine gX4_31 F hw rfl dX4_readFigure_16 ?_
    refine r_iald F hw (n := 120) rfl dX4_readFigure_19 hf (fun hi9 hf => ?_)
    refine k_bipush_48 F dX4_readFigure_20 ?_
    refine lv_isub F.1 F.2.1 dX4_readFigure_22 ?_
    refine lv_iload_n F.1 F.2.1 dX4_readFigure_23 rfl (lv_at hl 1 rfl) ?_
    refine b_icmp_lt F dX4_readFigure_24 (tgt := 29) (by decide) hf (fun hc14 hf => ?_) (fun hc14 hf => ?_)
    · refine lv_aload_n F.1 F.2.1 dX4_readFigure_29 rfl (lv_at hl 0 rfl) ?_
      refine gX4_9 F hw rfl dX4_readFigure_30 ?_
      refine lv_aload_n F.1 F.2.1 dX4_readFigure_33 rfl (lv_at hl 0 rfl) ?_
      refine gX4_31 F hw rfl dX4_readFigure_34 ?_
      refine r_iald0 F hw (n := 120) rfl dX4_readFigure_37 hi9 ?_
      refine k_bipush_48 F dX4_readFigure_38 ?_
      refine lv_isub F.1 F.2.1 dX4_readFigure_40 ?_
      refine lv_istore_n F.1 F.2.1 dX4_readFigure_41 rfl hl (lv' := [(2, .int ((M4 40 (M4 2 7).toNatClampNeg) - (48 : Int32))), (0, .ref (ad 2)), (1, .int v1)]) (Nat.le_of_ble_eq_true rfl) rfl (fun ls10 hl => ?_)
      refine lv_aload_n F.1 F.2.1 dX4_readFigure_42 rfl (lv_at hl 1 rfl) ?_
      refine lv_dup F.1 F.2.1 dX4_readFigure_43 rfl ?_
      refine gX4_31 F hw rfl dX4_readFigure_44 ?_
      refine k_iconst_1 F dX4_readFigure_47 ?_
      refine lv_iadd F.1 F.2.1 dX4_readFigure_48 ?_
      refine qX4_31 F hw rfl dX4_readFigure_49 hf (fun M11 H12 o13 hw hf => ?_)
      refine lv_iload_n F.1 F.2.1 dX4_readFigure_52 rfl (lv_at hl 0 rfl) ?_
      exact r_iret_w F hw (vp_nar_int _) dX4_readFigure_53 hf
    · refine k_iconst_m1 F dX4_readFigure_27 ?_
      exact r_iret_w F hw (vp_nar_int _) dX4_readFigure_28 hf
theorem clX4_51 (F : Fx D cA RX4 cc nL ret p s m args meth c) (hw : Wd shC D cA ad H0 M H locs) (hl : lv_has ls nL lv) {v1 : Int32} (hR : 2 ≤ R.frames ∧ 42 ≤ R.locals) (hrm : (rest.map fun v => v.category).sum ≤ 8) (hd : decode cc pc = .ok (.invokevirtual 51, 3)) {α : Type} {K : Int32 → Mem → Option α} {res : α} (hf : bnd2 (fX4_readFigure v1 M) K = some res) (kk : ∀ (t : Int32) (M1 : Mem) (H1 : Heap) (locs1 : List Loc), Wd shC D cA ad H0 M1 H1 locs1 → narrow .int (.int t) = .int t → K t M1 = some res → W p l e R s m args below meth c H1 locs1 0 0 Q (F0 m (pc + 3) ls (.int t :: rest))) : W p l e R s m args below meth c H locs 0 0 Q (F0 m pc ls (.int v1 :: .ref (ad 2) :: rest)) := by
  obtain ⟨t, M1, h1, h2⟩ := bnd2_some hf
  exact r_afti hw (r_runV (As := [.int v1]) F hw hl (cX4_readFigure_ok l D cA ad M v1 t M1 h1) cz4 (show shC[2]? = some (.inr (4, sf4)) from rfl) cwX4_51 hR hrm hd) (fun H1 o1 hw1 hn => kk t M1 H1 o1 hw1 hn h2)
def fX4_mostOfNumber (v0 : Int32) : Int32 :=
  if v0 = (98 : Int32) then
    (40 : Int32)
  else if v0 = (103 : Int32) then
    (60 : Int32)
  else if v0 = (108 : Int32) then
    (5 : Int32)
  else 
    (99 : Int32)
set_option maxHeartbeats 4000000 in
set_option maxRecDepth 100000 in
theorem cX4_mostOfNumber_ok (l : Launch) (D : va_G) (cA : Nat → ClassId) (ad : Nat → Nat) (M : Mem) (v0 : Int32) (r : Int32) (hf : fX4_mostOfNumber v0 = r) : Ctg l yX4_mostOfNumber cX4_mostOfNumber 1 (some .int) 0 0 shC D cA ad [.int v0] M (Qzi shC D cA ad .int r M) := by
  refine ct_in (by decide) (Nat.le_of_ble_eq_true rfl) ?_
  intro p e s m below meth c ls F hl hw
  have hl : lv_has ls 1 [(0, .int v0)] := hl
  unfold fX4_mostOfNumber at hf
  refine lv_iload_n F.1 F.2.1 dX4_mostOfNumber_0 rfl (lv_at hl 0 rfl) ?_
  by_cases hc1 : v0 = (98 : Int32)
  · rw [if_pos hc1] at hf
    refine lv_lookup F.1 F.2.1 dX4_mostOfNumber_1 (tgt := 39) (off := 38) (by decide) (by rw [hc1]; decide) (by decide) ?_
    refine k_bipush_40 F dX4_mostOfNumber_39 ?_
    exact r_iret_t F hw (vp_nar_int _) dX4_mostOfNumber_41 hf
  · rw [if_neg hc1] at hf
    by_cases hc2 : v0 = (103 : Int32)
    · rw [if_pos hc2] at hf
      refine lv_lookup F.1 F.2.1 dX4_mostOfNumber_1 (tgt := 36) (off := 35) (by decide) (by rw [hc2]; decide) (by decide) ?_
      refine k_bipush_60 F dX4_mostOfNumber_36 ?_
      exact r_iret_t F hw (vp_nar_int _) dX4_mostOfNumber_38 hf
    · rw [if_neg hc2] at hf
      by_cases hc3 : v0 = (108 : Int32)
      · rw [if_pos hc3] at hf
        refine lv_lookup F.1 F.2.1 dX4_mostOfNumber_1 (tgt := 42) (off := 41) (by decide) (by rw [hc3]; decide) (by decide) ?_
        refine k_iconst_5 F dX4_mostOfNumber_42 ?_
        exact r_iret_t F hw (vp_nar_int _) dX4_mostOfNumber_43 hf
      · rw [if_neg hc3] at hf
        refine lv_lookup F.1 F.2.1 dX4_mostOfNumber_1 (tgt := 44) (off := 43) (by decide) ((lv_osw hc1 (by decide)).trans ((lv_osw hc2 (by decide)).trans ((lv_osw hc3 (by decide)).trans rfl))) (by decide) ?_
        refine k_bipush_99 F dX4_mostOfNumber_44 ?_
        exact r_iret_t F hw (vp_nar_int _) dX4_mostOfNumber_46 hf
theorem clX4_61 (F : Fx D cA RX4 cc nL ret p s m args meth c) (hw : Wd shC D cA ad H0 M H locs) (hl : lv_has ls nL lv) {v0 : Int32} (hR : 1 ≤ R.frames ∧ 20 ≤ R.locals) (hrm : (rest.map fun v => v.category).sum ≤ 8) (hd : decode cc pc = .ok (.invokestatic 61, 3)) (kk : ∀ (H1 : Heap) (locs1 : List Loc), Wd shC D cA ad H0 M H1 locs1 → narrow .int (.int (fX4_mostOfNumber v0)) = .int (fX4_mostOfNumber v0) → W p l e R s m args below meth c H1 locs1 0 0 Q (F0 m (pc + 3) ls (.int (fX4_mostOfNumber v0) :: rest))) : W p l e R s m args below meth c H locs 0 0 Q (F0 m pc ls (.int v0 :: rest)) :=
  r_afti hw (r_runS (As := [.int v0]) F hw hl (cX4_mostOfNumber_ok l D cA ad M v0 (fX4_mostOfNumber v0) rfl) cwX4_61 hR hrm hd) (fun H1 o1 hw1 hn => kk H1 o1 hw1 hn)
def fX4_readNumber_L11 : Nat → Int32 → Int32 → Int32 → Mem → Option (Int32 × Mem)
  | 0, _, _, _, _ => none
  | n + 1, v1, v2, v3, M =>
    bnd1 (fX4_isFigureNext M) fun t10 =>
    if t10 = 0 then
      some (v3, M)
    else
      if (v2 + (3 : Int32)) ≤ (M 2 7) then
        some (v3, M)
      else
        ix (M 2 7) 120 <|
        wr M 2 7 ((M 2 7) + (1 : Int32)) fun M13 =>
        fX4_readNumber_L11 n v1 v2 (((v3 * (10 : Int32)) + (M 40 (M 2 7).toNatClampNeg)) - (48 : Int32)) M13
def fX4_readNumber (v1 : Int32) (M : Mem) : Option (Int32 × Mem) :=
  bnd1 (fX4_skipBlanks M) fun M4 =>
  bnd2 (fX4_readNumber_L11 FUEL v1 (M4 2 7) (0 : Int32) M4) fun w18 M19 =>
  if ((M19 2 7) - (M4 2 7)) = 0 then
    wr M19 2 7 (M4 2 7) fun M24 =>
    some ((-1 : Int32), M24)
  else
    if (2 : Int32) < ((M19 2 7) - (M4 2 7)) then
      wr M19 2 7 (M4 2 7) fun M27 =>
      some ((-1 : Int32), M27)
    else
      if w18 ≤ v1 then
        some (w18, M19)
      else
        wr M19 2 7 (M4 2 7) fun M30 =>
        some ((-1 : Int32), M30)
set_option maxHeartbeats 4000000 in
set_option maxRecDepth 100000 in
theorem wX4_readNumber_L11 {p : Program} {l : Launch} {e : Env} {s : State} {m : MethodId} {args : Array Value} {below : List Frame} {meth : Method} {c : Code} {D : va_G} {cA : Nat → ClassId} {ad : Nat → Nat} {Q : State → Prop} (F : Fx D cA RX4 cX4_readNumber 5 (some .int) p s m args meth c) : ∀ (n : Nat) (v1 : Int32) (v2 : Int32) (v3 : Int32) (M : Mem) (H : Heap) (o : List Loc) (ls : Array Slot), lv_has ls 5 [(0, .ref (ad 2)), (1, .int v1), (2, .int v2), (3, .int v3)] → Wd shC D cA ad s.heap M H o → ∀ (u3 : Int32) (M' : Mem), fX4_readNumber_L11 n v1 v2 v3 M = some (u3, M') → (∀ (H1 : Heap) (o1 : List Loc) (ls1 : Array Slot), lv_has ls1 5 [(3, .int u3), (0, .ref (ad 2)), (1, .int v1), (2, .int v2)] → Wd shC D cA ad s.heap M' H1 o1 → W p l e (rz 1 20) s m args below meth c H1 o1 0 0 Q (F0 m 59 ls1 [])) → W p l e (rz 1 20) s m args below meth c H o 0 0 Q (F0 m 11 ls []) := by
  intro n
  induction n with
  | zero =>
    intro v1 v2 v3 M H o ls hl hw u3 M' hf kk
    cases hf
  | succ n ih =>
    intro v1 v2 v3 M H o ls hl hw u3 M' hf kk
    rw [fX4_readNumber_L11] at hf
    refine lv_aload_n F.1 F.2.1 dX4_readNumber_11 rfl (lv_at hl 0 rfl) ?_
    refine clX4_71 F hw hl ⟨Nat.le_of_ble_eq_true rfl, Nat.le_of_ble_eq_true rfl⟩ (Nat.le_of_ble_eq_true rfl) dX4_readNumber_12 hf (fun t10 H7 o8 hw hn9 hf => ?_)
    refine b_if_eq F dX4_readNumber_15 (tgt := 59) (by decide) hf (fun hc17 hf => ?_) (fun hc17 hf => ?_)
    · cases hf
      exact kk _ _ _ (lv_sub hl [3, 0, 1, 2] rfl) hw
    · refine lv_aload_n F.1 F.2.1 dX4_readNumber_18 rfl (lv_at hl 0 rfl) ?_
      refine gX4_31 F hw rfl dX4_readNumber_19 ?_
      refine lv_iload_n F.1 F.2.1 dX4_readNumber_22 rfl (lv_at hl 2 rfl) ?_
      refine k_iconst_3 F dX4_readNumber_23 ?_
      refine lv_iadd F.1 F.2.1 dX4_readNumber_24 ?_
      refine b_icmp_ge F dX4_readNumber_25 (tgt := 59) (by decide) hf (fun hc16 hf => ?_) (fun hc16 hf => ?_)
      · cases hf
        exact kk _ _ _ (lv_sub hl [3, 0, 1, 2] rfl) hw
      · refine lv_iload_n F.1 F.2.1 dX4_readNumber_28 rfl (lv_at hl 3 rfl) ?_
        refine k_bipush_10 F dX4_readNumber_29 ?_
        refine lv_imul F.1 F.2.1 dX4_readNumber_31 ?_
        refine lv_aload_n F.1 F.2.1 dX4_readNumber_32 rfl (lv_at hl 0 rfl) ?_
        refine gX4_9 F hw rfl dX4_readNumber_33 ?_
        refine lv_aload_n F.1 F.2.1 dX4_readNumber_36 rfl (lv_at hl 0 rfl) ?_
        refine gX4_31 F hw rfl dX4_readNumber_37 ?_
        refine r_iald F hw (n := 120) rfl dX4_readNumber_40 hf (fun hi11 hf => ?_)
        refine lv_iadd F.1 F.2.1 dX4_readNumber_41 ?_
        refine k_bipush_48 F dX4_readNumber_42 ?_
        refine lv_isub F.1 F.2.1 dX4_readNumber_44 ?_
        refine lv_istore_n F.1 F.2.1 dX4_readNumber_45 rfl hl (lv' := [(3, .int (((v3 * (10 : Int32)) + (M 40 (M 2 7).toNatClampNeg)) - (48 : Int32))), (0, .ref (ad 2)), (1, .int v1), (2, .int v2)]) (Nat.le_of_ble_eq_true rfl) rfl (fun ls12 hl => ?_)
        refine lv_aload_n F.1 F.2.1 dX4_readNumber_46 rfl (lv_at hl 1 rfl) ?_
        refine lv_dup F.1 F.2.1 dX4_readNumber_47 rfl ?_
        refine gX4_31 F hw rfl dX4_readNumber_48 ?_
        refine k_iconst_1 F dX4_readNumber_51 ?_
        refine lv_iadd F.1 F.2.1 dX4_readNumber_52 ?_
        refine qX4_31 F hw rfl dX4_readNumber_53 hf (fun M13 H14 o15 hw hf => ?_)
        refine lv_goto F.1 F.2.1 dX4_readNumber_56 (tgt := 11) (by decide) ?_
        exact ih v1 v2 (((v3 * (10 : Int32)) + (M 40 (M 2 7).toNatClampNeg)) - (48 : Int32)) M13 _ _ _ (lv_sub hl [1, 2, 3, 0] rfl) hw u3 M' hf kk
set_option maxHeartbeats 4000000 in
set_option maxRecDepth 100000 in
theorem cX4_readNumber_ok (l : Launch) (D : va_G) (cA : Nat → ClassId) (ad : Nat → Nat) (M : Mem) (v1 : Int32) (r : Int32) (M' : Mem) (hf : fX4_readNumber v1 M = some (r, M')) : Ctg l yX4_readNumber cX4_readNumber 5 (some .int) 1 20 shC D cA ad [.ref (ad 2), .int v1] M (Qzi shC D cA ad .int r M') := by
  refine ct_in (by decide) (Nat.le_of_ble_eq_true rfl) ?_
  intro p e s m below meth c ls F hl hw
  have hl : lv_has ls 5 [(0, .ref (ad 2)), (1, .int v1)] := hl
  unfold fX4_readNumber at hf
  refine lv_aload_n F.1 F.2.1 dX4_readNumber_0 rfl (lv_at hl 0 rfl) ?_
  refine clX4_34 F hw hl ⟨Nat.le_of_ble_eq_true rfl, Nat.le_of_ble_eq_true rfl⟩ (Nat.le_of_ble_eq_true rfl) dX4_readNumber_1 hf (fun M4 H1 o2 hw hf => ?_)
  refine lv_aload_n F.1 F.2.1 dX4_readNumber_4 rfl (lv_at hl 0 rfl) ?_
  refine gX4_31 F hw rfl dX4_readNumber_5 ?_
  refine lv_istore_n F.1 F.2.1 dX4_readNumber_8 rfl hl (lv' := [(2, .int (M4 2 7)), (0, .ref (ad 2)), (1, .int v1)]) (Nat.le_of_ble_eq_true rfl) rfl (fun ls5 hl => ?_)
  refine k_iconst_0 F dX4_readNumber_9 ?_
  refine lv_istore_n F.1 F.2.1 dX4_readNumber_10 rfl hl (lv' := [(3, .int (0 : Int32)), (2, .int (M4 2 7)), (0, .ref (ad 2)), (1, .int v1)]) (Nat.le_of_ble_eq_true rfl) rfl (fun ls6 hl => ?_)
  obtain ⟨w18, M19, hq36, hf⟩ := bnd2_some hf
  refine wX4_readNumber_L11 F FUEL v1 (M4 2 7) (0 : Int32) M4 _ _ _ (lv_sub hl [2, 3, 1, 0] rfl) hw w18 M19 hq36 (fun H20 o21 ls22 hl hw => ?_)
  refine lv_aload_n F.1 F.2.1 dX4_readNumber_59 rfl (lv_at hl 1 rfl) ?_
  refine gX4_31 F hw rfl dX4_readNumber_60 ?_
  refine lv_iload_n F.1 F.2.1 dX4_readNumber_63 rfl (lv_at hl 3 rfl) ?_
  refine lv_isub F.1 F.2.1 dX4_readNumber_64 ?_
  refine lv_istore F.1 F.2.1 dX4_readNumber_65 hl (lv' := [(4, .int ((M19 2 7) - (M4 2 7))), (3, .int w18), (0, .ref (ad 2)), (1, .int v1), (2, .int (M4 2 7))]) (Nat.le_of_ble_eq_true rfl) rfl (fun ls23 hl => ?_)
  refine lv_iload F.1 F.2.1 dX4_readNumber_67 (lv_at hl 0 rfl) ?_
  refine b_if_eq F dX4_readNumber_69 (tgt := 83) (by decide) hf (fun hc35 hf => ?_) (fun hc35 hf => ?_)
  · refine lv_aload_n F.1 F.2.1 dX4_readNumber_83 rfl (lv_at hl 2 rfl) ?_
    refine lv_iload_n F.1 F.2.1 dX4_readNumber_84 rfl (lv_at hl 4 rfl) ?_
    refine qX4_31 F hw rfl dX4_readNumber_85 hf (fun M24 H25 o26 hw hf => ?_)
    refine k_iconst_m1 F dX4_readNumber_88 ?_
    exact r_iret_w F hw (vp_nar_int _) dX4_readNumber_89 hf
  · refine lv_iload F.1 F.2.1 dX4_readNumber_72 (lv_at hl 0 rfl) ?_
    refine k_iconst_2 F dX4_readNumber_74 ?_
    refine b_icmp_gt F dX4_readNumber_75 (tgt := 83) (by decide) hf (fun hc34 hf => ?_) (fun hc34 hf => ?_)
    · refine lv_aload_n F.1 F.2.1 dX4_readNumber_83 rfl (lv_at hl 2 rfl) ?_
      refine lv_iload_n F.1 F.2.1 dX4_readNumber_84 rfl (lv_at hl 4 rfl) ?_
      refine qX4_31 F hw rfl dX4_readNumber_85 hf (fun M27 H28 o29 hw hf => ?_)
      refine k_iconst_m1 F dX4_readNumber_88 ?_
      exact r_iret_w F hw (vp_nar_int _) dX4_readNumber_89 hf
    · refine lv_iload_n F.1 F.2.1 dX4_readNumber_78 rfl (lv_at hl 1 rfl) ?_
      refine lv_iload_n F.1 F.2.1 dX4_readNumber_79 rfl (lv_at hl 3 rfl) ?_
      refine b_icmp_le F dX4_readNumber_80 (tgt := 90) (by decide) hf (fun hc33 hf => ?_) (fun hc33 hf => ?_)
      · refine lv_iload_n F.1 F.2.1 dX4_readNumber_90 rfl (lv_at hl 1 rfl) ?_
        exact r_iret_w F hw (vp_nar_int _) dX4_readNumber_91 hf
      · refine lv_aload_n F.1 F.2.1 dX4_readNumber_83 rfl (lv_at hl 2 rfl) ?_
        refine lv_iload_n F.1 F.2.1 dX4_readNumber_84 rfl (lv_at hl 4 rfl) ?_
        refine qX4_31 F hw rfl dX4_readNumber_85 hf (fun M30 H31 o32 hw hf => ?_)
        refine k_iconst_m1 F dX4_readNumber_88 ?_
        exact r_iret_w F hw (vp_nar_int _) dX4_readNumber_89 hf
theorem clX4_64 (F : Fx D cA RX4 cc nL ret p s m args meth c) (hw : Wd shC D cA ad H0 M H locs) (hl : lv_has ls nL lv) {v1 : Int32} (hR : 2 ≤ R.frames ∧ 44 ≤ R.locals) (hrm : (rest.map fun v => v.category).sum ≤ 8) (hd : decode cc pc = .ok (.invokevirtual 64, 3)) {α : Type} {K : Int32 → Mem → Option α} {res : α} (hf : bnd2 (fX4_readNumber v1 M) K = some res) (kk : ∀ (t : Int32) (M1 : Mem) (H1 : Heap) (locs1 : List Loc), Wd shC D cA ad H0 M1 H1 locs1 → narrow .int (.int t) = .int t → K t M1 = some res → W p l e R s m args below meth c H1 locs1 0 0 Q (F0 m (pc + 3) ls (.int t :: rest))) : W p l e R s m args below meth c H locs 0 0 Q (F0 m pc ls (.int v1 :: .ref (ad 2) :: rest)) := by
  obtain ⟨t, M1, h1, h2⟩ := bnd2_some hf
  exact r_afti hw (r_runV (As := [.int v1]) F hw hl (cX4_readNumber_ok l D cA ad M v1 t M1 h1) cz4 (show shC[2]? = some (.inr (4, sf4)) from rfl) cwX4_64 hR hrm hd) (fun H1 o1 hw1 hn => kk t M1 H1 o1 hw1 hn h2)
def fX4_readEnd (M : Mem) : Option (Int32 × Mem) :=
  bnd1 (fX4_skipBlanks M) fun M4 =>
  if (M4 2 1) ≤ (M4 2 7) then
    some ((0 : Int32), M4)
  else
    ix (M4 2 7) 120 <|
    if (M4 40 (M4 2 7).toNatClampNeg) = (59 : Int32) then
      wr M4 2 7 ((M4 2 7) + (1 : Int32)) fun M6 =>
      some ((1 : Int32), M6)
    else
      some ((0 : Int32), M4)
set_option maxHeartbeats 4000000 in
set_option maxRecDepth 100000 in
theorem cX4_readEnd_ok (l : Launch) (D : va_G) (cA : Nat → ClassId) (ad : Nat → Nat) (M : Mem)  (r : Int32) (M' : Mem) (hf : fX4_readEnd M = some (r, M')) : Ctg l yX4_readEnd cX4_readEnd 1 (some .boolean) 1 20 shC D cA ad [.ref (ad 2)] M (Qzi shC D cA ad .boolean r M') := by
  refine ct_in (by decide) (Nat.le_of_ble_eq_true rfl) ?_
  intro p e s m below meth c ls F hl hw
  have hl : lv_has ls 1 [(0, .ref (ad 2))] := hl
  unfold fX4_readEnd at hf
  refine lv_aload_n F.1 F.2.1 dX4_readEnd_0 rfl (lv_at hl 0 rfl) ?_
  refine clX4_34 F hw hl ⟨Nat.le_of_ble_eq_true rfl, Nat.le_of_ble_eq_true rfl⟩ (Nat.le_of_ble_eq_true rfl) dX4_readEnd_1 hf (fun M4 H1 o2 hw hf => ?_)
  refine lv_aload_n F.1 F.2.1 dX4_readEnd_4 rfl (lv_at hl 0 rfl) ?_
  refine gX4_31 F hw rfl dX4_readEnd_5 ?_
  refine lv_aload_n F.1 F.2.1 dX4_readEnd_8 rfl (lv_at hl 0 rfl) ?_
  refine gX4_37 F hw rfl dX4_readEnd_9 ?_
  refine b_icmp_ge F dX4_readEnd_12 (tgt := 29) (by decide) hf (fun hc10 hf => ?_) (fun hc10 hf => ?_)
  · refine k_iconst_0 F dX4_readEnd_29 ?_
    exact r_iret_w F hw rfl dX4_readEnd_30 hf
  · refine lv_aload_n F.1 F.2.1 dX4_readEnd_15 rfl (lv_at hl 0 rfl) ?_
    refine gX4_9 F hw rfl dX4_readEnd_16 ?_
    refine lv_aload_n F.1 F.2.1 dX4_readEnd_19 rfl (lv_at hl 0 rfl) ?_
    refine gX4_31 F hw rfl dX4_readEnd_20 ?_
    refine r_iald F hw (n := 120) rfl dX4_readEnd_23 hf (fun hi5 hf => ?_)
    refine k_bipush_59 F dX4_readEnd_24 ?_
    refine b_icmp_eq F dX4_readEnd_26 (tgt := 31) (by decide) hf (fun hc9 hf => ?_) (fun hc9 hf => ?_)
    · refine lv_aload_n F.1 F.2.1 dX4_readEnd_31 rfl (lv_at hl 0 rfl) ?_
      refine lv_dup F.1 F.2.1 dX4_readEnd_32 rfl ?_
      refine gX4_31 F hw rfl dX4_readEnd_33 ?_
      refine k_iconst_1 F dX4_readEnd_36 ?_
      refine lv_iadd F.1 F.2.1 dX4_readEnd_37 ?_
      refine qX4_31 F hw rfl dX4_readEnd_38 hf (fun M6 H7 o8 hw hf => ?_)
      refine k_iconst_1 F dX4_readEnd_41 ?_
      exact r_iret_w F hw rfl dX4_readEnd_42 hf
    · refine k_iconst_0 F dX4_readEnd_29 ?_
      exact r_iret_w F hw rfl dX4_readEnd_30 hf
theorem clX4_67 (F : Fx D cA RX4 cc nL ret p s m args meth c) (hw : Wd shC D cA ad H0 M H locs) (hl : lv_has ls nL lv) (hR : 2 ≤ R.frames ∧ 40 ≤ R.locals) (hrm : (rest.map fun v => v.category).sum ≤ 8) (hd : decode cc pc = .ok (.invokevirtual 67, 3)) {α : Type} {K : Int32 → Mem → Option α} {res : α} (hf : bnd2 (fX4_readEnd M) K = some res) (kk : ∀ (t : Int32) (M1 : Mem) (H1 : Heap) (locs1 : List Loc), Wd shC D cA ad H0 M1 H1 locs1 → narrow .boolean (.int t) = .int t → K t M1 = some res → W p l e R s m args below meth c H1 locs1 0 0 Q (F0 m (pc + 3) ls (.int t :: rest))) : W p l e R s m args below meth c H locs 0 0 Q (F0 m pc ls (.ref (ad 2) :: rest)) := by
  obtain ⟨t, M1, h1, h2⟩ := bnd2_some hf
  exact r_afti hw (r_runV (As := []) F hw hl (cX4_readEnd_ok l D cA ad M t M1 h1) cz4 (show shC[2]? = some (.inr (4, sf4)) from rfl) cwX4_67 hR hrm hd) (fun H1 o1 hw1 hn => kk t M1 H1 o1 hw1 hn h2)
def fX4_readOrder (v1 : Int32) (v2 : Int32) (M : Mem) : Option (Int32 × Mem) :=
  ix (M 2 7) 120 <|
  if (fX4_isKind (M 40 (M 2 7).toNatClampNeg)) = 0 then
    some ((0 : Int32), M)
  else
    wr M 2 7 ((M 2 7) + (1 : Int32)) fun M6 =>
    jn (fun (t12 : Int32) (M13 : Mem) =>
      if t12 = (-1 : Int32) then
        some ((0 : Int32), M13)
      else
        jn (fun (t22 : Int32) (M23 : Mem) =>
          if t22 = (-1 : Int32) then
            some ((0 : Int32), M23)
          else
            jn (fun (t32 : Int32) (M33 : Mem) =>
              if t32 = (-1 : Int32) then
                some ((0 : Int32), M33)
              else
                bnd2 (fX4_readEnd M33) fun t43 M42 =>
                if t43 = 0 then
                  some ((0 : Int32), M42)
                else
                  ix (M42 2 6) 40 <| wr M42 41 (M42 2 6).toNatClampNeg (M 40 (M 2 7).toNatClampNeg) fun M45 =>
                  ix (M45 2 6) 40 <| wr M45 42 (M45 2 6).toNatClampNeg t12 fun M49 =>
                  ix (M49 2 6) 40 <| wr M49 43 (M49 2 6).toNatClampNeg t22 fun M53 =>
                  ix (M53 2 6) 40 <| wr M53 44 (M53 2 6).toNatClampNeg t32 fun M57 =>
                  wr M57 2 6 ((M57 2 6) + (1 : Int32)) fun M60 =>
                  some ((1 : Int32), M60)) fun j37 =>
            if (fX4_hasNumber (M 40 (M 2 7).toNatClampNeg)) = 0 then
              j37 (0 : Int32) M23
            else
              bnd2 (fX4_readNumber (fX4_mostOfNumber (M 40 (M 2 7).toNatClampNeg)) M23) fun t72 M71 =>
              j37 t72 M71) fun j27 =>
        if (fX4_hasGate (M 40 (M 2 7).toNatClampNeg)) = 0 then
          j27 (0 : Int32) M13
        else
          bnd2 (fX4_readFigure v2 M13) fun t79 M78 =>
          j27 t79 M78) fun j17 =>
    if (fX4_hasSender (M 40 (M 2 7).toNatClampNeg)) = 0 then
      j17 (0 : Int32) M6
    else
      bnd2 (fX4_readFigure v1 M6) fun t86 M85 =>
      j17 t86 M85
set_option maxHeartbeats 4000000 in
set_option maxRecDepth 100000 in
theorem cX4_readOrder_ok (l : Launch) (D : va_G) (cA : Nat → ClassId) (ad : Nat → Nat) (M : Mem) (v1 : Int32) (v2 : Int32) (r : Int32) (M' : Mem) (hf : fX4_readOrder v1 v2 M = some (r, M')) : Ctg l yX4_readOrder cX4_readOrder 7 (some .boolean) 3 60 shC D cA ad [.ref (ad 2), .int v1, .int v2] M (Qzi shC D cA ad .boolean r M') := by
  refine ct_in (by decide) (Nat.le_of_ble_eq_true rfl) ?_
  intro p e s m below meth c ls F hl hw
  have hl : lv_has ls 7 [(0, .ref (ad 2)), (1, .int v1), (2, .int v2)] := hl
  unfold fX4_readOrder at hf
  refine lv_aload_n F.1 F.2.1 dX4_readOrder_0 rfl (lv_at hl 0 rfl) ?_
  refine gX4_9 F hw rfl dX4_readOrder_1 ?_
  refine lv_aload_n F.1 F.2.1 dX4_readOrder_4 rfl (lv_at hl 0 rfl) ?_
  refine gX4_31 F hw rfl dX4_readOrder_5 ?_
  refine r_iald F hw (n := 120) rfl dX4_readOrder_8 hf (fun hi1 hf => ?_)
  refine lv_istore_n F.1 F.2.1 dX4_readOrder_9 rfl hl (lv' := [(3, .int (M 40 (M 2 7).toNatClampNeg)), (0, .ref (ad 2)), (1, .int v1), (2, .int v2)]) (Nat.le_of_ble_eq_true rfl) rfl (fun ls2 hl => ?_)
  refine lv_iload_n F.1 F.2.1 dX4_readOrder_10 rfl (lv_at hl 0 rfl) ?_
  refine clX4_44 F hw hl ⟨Nat.le_of_ble_eq_true rfl, Nat.le_of_ble_eq_true rfl⟩ (Nat.le_of_ble_eq_true rfl) dX4_readOrder_11 (fun H3 o4 hw hn5 => ?_)
  refine b_if_ne F dX4_readOrder_14 (tgt := 19) (by decide) hf (fun hc88 hf => ?_) (fun hc88 hf => ?_)
  · refine k_iconst_0 F dX4_readOrder_17 ?_
    exact r_iret_w F hw rfl dX4_readOrder_18 hf
  · refine lv_aload_n F.1 F.2.1 dX4_readOrder_19 rfl (lv_at hl 1 rfl) ?_
    refine lv_dup F.1 F.2.1 dX4_readOrder_20 rfl ?_
    refine gX4_31 F hw rfl dX4_readOrder_21 ?_
    refine k_iconst_1 F dX4_readOrder_24 ?_
    refine lv_iadd F.1 F.2.1 dX4_readOrder_25 ?_
    refine qX4_31 F hw rfl dX4_readOrder_26 hf (fun M6 H7 o8 hw hf => ?_)
    refine lv_iload_n F.1 F.2.1 dX4_readOrder_29 rfl (lv_at hl 0 rfl) ?_
    refine clX4_48 F hw hl ⟨Nat.le_of_ble_eq_true rfl, Nat.le_of_ble_eq_true rfl⟩ (Nat.le_of_ble_eq_true rfl) dX4_readOrder_30 (fun H9 o10 hw hn11 => ?_)
    refine jn_go2 (fun (t12 : Int32) (M13 : Mem) => ∀ (H14 : Heap) (o15 : List Loc) (ls16 : Array Slot), lv_has ls16 7 [(3, .int (M 40 (M 2 7).toNatClampNeg)), (0, .ref (ad 2)), (2, .int v2)] → Wd shC D cA ad s.heap M13 H14 o15 → W p l e (rz 3 60) s m ([.ref (ad 2), .int v1, .int v2] : List Value).toArray below meth c H14 o15 0 0 (MQ below (Qzi shC D cA ad .boolean r M') ([.ref (ad 2), .int v1, .int v2] : List Value).toArray s 0 0 (Az shC ad)) (F0 m 45 ls16 [.int t12])) hf (fun t12 M13 hf H14 o15 ls16 hl hw => ?_) (fun j17 Jj17 hf => ?_)
    · refine lv_istore F.1 F.2.1 dX4_readOrder_45 hl (lv' := [(4, .int t12), (3, .int (M 40 (M 2 7).toNatClampNeg)), (0, .ref (ad 2)), (2, .int v2)]) (Nat.le_of_ble_eq_true rfl) rfl (fun ls18 hl => ?_)
      refine lv_iload F.1 F.2.1 dX4_readOrder_47 (lv_at hl 0 rfl) ?_
      refine k_iconst_m1 F dX4_readOrder_49 ?_
      refine b_icmp_ne F dX4_readOrder_50 (tgt := 55) (by decide) hf (fun hc81 hf => ?_) (fun hc81 hf => ?_)
      · refine k_iconst_0 F dX4_readOrder_53 ?_
        exact r_iret_w F hw rfl dX4_readOrder_54 hf
      · refine lv_iload_n F.1 F.2.1 dX4_readOrder_55 rfl (lv_at hl 1 rfl) ?_
        refine clX4_55 F hw hl ⟨Nat.le_of_ble_eq_true rfl, Nat.le_of_ble_eq_true rfl⟩ (Nat.le_of_ble_eq_true rfl) dX4_readOrder_56 (fun H19 o20 hw hn21 => ?_)
        refine jn_go2 (fun (t22 : Int32) (M23 : Mem) => ∀ (H24 : Heap) (o25 : List Loc) (ls26 : Array Slot), lv_has ls26 7 [(4, .int t12), (3, .int (M 40 (M 2 7).toNatClampNeg)), (0, .ref (ad 2))] → Wd shC D cA ad s.heap M23 H24 o25 → W p l e (rz 3 60) s m ([.ref (ad 2), .int v1, .int v2] : List Value).toArray below meth c H24 o25 0 0 (MQ below (Qzi shC D cA ad .boolean r M') ([.ref (ad 2), .int v1, .int v2] : List Value).toArray s 0 0 (Az shC ad)) (F0 m 71 ls26 [.int t22])) hf (fun t22 M23 hf H24 o25 ls26 hl hw => ?_) (fun j27 Jj27 hf => ?_)
        · refine lv_istore F.1 F.2.1 dX4_readOrder_71 hl (lv' := [(5, .int t22), (4, .int t12), (3, .int (M 40 (M 2 7).toNatClampNeg)), (0, .ref (ad 2))]) (Nat.le_of_ble_eq_true rfl) rfl (fun ls28 hl => ?_)
          refine lv_iload F.1 F.2.1 dX4_readOrder_73 (lv_at hl 0 rfl) ?_
          refine k_iconst_m1 F dX4_readOrder_75 ?_
          refine b_icmp_ne F dX4_readOrder_76 (tgt := 81) (by decide) hf (fun hc74 hf => ?_) (fun hc74 hf => ?_)
          · refine k_iconst_0 F dX4_readOrder_79 ?_
            exact r_iret_w F hw rfl dX4_readOrder_80 hf
          · refine lv_iload_n F.1 F.2.1 dX4_readOrder_81 rfl (lv_at hl 2 rfl) ?_
            refine clX4_58 F hw hl ⟨Nat.le_of_ble_eq_true rfl, Nat.le_of_ble_eq_true rfl⟩ (Nat.le_of_ble_eq_true rfl) dX4_readOrder_82 (fun H29 o30 hw hn31 => ?_)
            refine jn_go2 (fun (t32 : Int32) (M33 : Mem) => ∀ (H34 : Heap) (o35 : List Loc) (ls36 : Array Slot), lv_has ls36 7 [(5, .int t22), (4, .int t12), (3, .int (M 40 (M 2 7).toNatClampNeg)), (0, .ref (ad 2))] → Wd shC D cA ad s.heap M33 H34 o35 → W p l e (rz 3 60) s m ([.ref (ad 2), .int v1, .int v2] : List Value).toArray below meth c H34 o35 0 0 (MQ below (Qzi shC D cA ad .boolean r M') ([.ref (ad 2), .int v1, .int v2] : List Value).toArray s 0 0 (Az shC ad)) (F0 m 100 ls36 [.int t32])) hf (fun t32 M33 hf H34 o35 ls36 hl hw => ?_) (fun j37 Jj37 hf => ?_)
            · refine lv_istore F.1 F.2.1 dX4_readOrder_100 hl (lv' := [(6, .int t32), (5, .int t22), (4, .int t12), (3, .int (M 40 (M 2 7).toNatClampNeg)), (0, .ref (ad 2))]) (Nat.le_of_ble_eq_true rfl) rfl (fun ls38 hl => ?_)
              refine lv_iload F.1 F.2.1 dX4_readOrder_102 (lv_at hl 0 rfl) ?_
              refine k_iconst_m1 F dX4_readOrder_104 ?_
              refine b_icmp_eq F dX4_readOrder_105 (tgt := 115) (by decide) hf (fun hc64 hf => ?_) (fun hc64 hf => ?_)
              · refine k_iconst_0 F dX4_readOrder_115 ?_
                exact r_iret_w F hw rfl dX4_readOrder_116 hf
              · refine lv_aload_n F.1 F.2.1 dX4_readOrder_108 rfl (lv_at hl 4 rfl) ?_
                refine clX4_67 F hw hl ⟨Nat.le_of_ble_eq_true rfl, Nat.le_of_ble_eq_true rfl⟩ (Nat.le_of_ble_eq_true rfl) dX4_readOrder_109 hf (fun t43 M42 H39 o40 hw hn41 hf => ?_)
                refine b_if_ne F dX4_readOrder_112 (tgt := 117) (by decide) hf (fun hc63 hf => ?_) (fun hc63 hf => ?_)
                · refine k_iconst_0 F dX4_readOrder_115 ?_
                  exact r_iret_w F hw rfl dX4_readOrder_116 hf
                · refine lv_aload_n F.1 F.2.1 dX4_readOrder_117 rfl (lv_at hl 4 rfl) ?_
                  refine gX4_15 F hw rfl dX4_readOrder_118 ?_
                  refine lv_aload_n F.1 F.2.1 dX4_readOrder_121 rfl (lv_at hl 4 rfl) ?_
                  refine gX4_27 F hw rfl dX4_readOrder_122 ?_
                  refine lv_iload_n F.1 F.2.1 dX4_readOrder_125 rfl (lv_at hl 3 rfl) ?_
                  refine r_iast F hw (n := 40) rfl dX4_readOrder_126 hf (fun hi44 M45 H46 o47 hw hf => ?_)
                  refine lv_aload_n F.1 F.2.1 dX4_readOrder_127 rfl (lv_at hl 4 rfl) ?_
                  refine gX4_18 F hw rfl dX4_readOrder_128 ?_
                  refine lv_aload_n F.1 F.2.1 dX4_readOrder_131 rfl (lv_at hl 4 rfl) ?_
                  refine gX4_27 F hw rfl dX4_readOrder_132 ?_
                  refine lv_iload F.1 F.2.1 dX4_readOrder_135 (lv_at hl 2 rfl) ?_
                  refine r_iast F hw (n := 40) rfl dX4_readOrder_137 hf (fun hi48 M49 H50 o51 hw hf => ?_)
                  refine lv_aload_n F.1 F.2.1 dX4_readOrder_138 rfl (lv_at hl 4 rfl) ?_
                  refine gX4_21 F hw rfl dX4_readOrder_139 ?_
                  refine lv_aload_n F.1 F.2.1 dX4_readOrder_142 rfl (lv_at hl 4 rfl) ?_
                  refine gX4_27 F hw rfl dX4_readOrder_143 ?_
                  refine lv_iload F.1 F.2.1 dX4_readOrder_146 (lv_at hl 1 rfl) ?_
                  refine r_iast F hw (n := 40) rfl dX4_readOrder_148 hf (fun hi52 M53 H54 o55 hw hf => ?_)
                  refine lv_aload_n F.1 F.2.1 dX4_readOrder_149 rfl (lv_at hl 4 rfl) ?_
                  refine gX4_24 F hw rfl dX4_readOrder_150 ?_
                  refine lv_aload_n F.1 F.2.1 dX4_readOrder_153 rfl (lv_at hl 4 rfl) ?_
                  refine gX4_27 F hw rfl dX4_readOrder_154 ?_
                  refine lv_iload F.1 F.2.1 dX4_readOrder_157 (lv_at hl 0 rfl) ?_
                  refine r_iast F hw (n := 40) rfl dX4_readOrder_159 hf (fun hi56 M57 H58 o59 hw hf => ?_)
                  refine lv_aload_n F.1 F.2.1 dX4_readOrder_160 rfl (lv_at hl 4 rfl) ?_
                  refine lv_dup F.1 F.2.1 dX4_readOrder_161 rfl ?_
                  refine gX4_27 F hw rfl dX4_readOrder_162 ?_
                  refine k_iconst_1 F dX4_readOrder_165 ?_
                  refine lv_iadd F.1 F.2.1 dX4_readOrder_166 ?_
                  refine qX4_27 F hw rfl dX4_readOrder_167 hf (fun M60 H61 o62 hw hf => ?_)
                  refine k_iconst_1 F dX4_readOrder_170 ?_
                  exact r_iret_w F hw rfl dX4_readOrder_171 hf
            · refine b_if_eq F dX4_readOrder_85 (tgt := 99) (by decide) hf (fun hc73 hf => ?_) (fun hc73 hf => ?_)
              · refine k_iconst_0 F dX4_readOrder_99 ?_
                exact Jj37 (0 : Int32) M23 hf _ _ _ hl hw
              · refine lv_aload_n F.1 F.2.1 dX4_readOrder_88 rfl (lv_at hl 3 rfl) ?_
                refine lv_iload_n F.1 F.2.1 dX4_readOrder_89 rfl (lv_at hl 2 rfl) ?_
                refine clX4_61 F hw hl ⟨Nat.le_of_ble_eq_true rfl, Nat.le_of_ble_eq_true rfl⟩ (Nat.le_of_ble_eq_true rfl) dX4_readOrder_90 (fun H65 o66 hw hn67 => ?_)
                refine clX4_64 F hw hl ⟨Nat.le_of_ble_eq_true rfl, Nat.le_of_ble_eq_true rfl⟩ (Nat.le_of_ble_eq_true rfl) dX4_readOrder_93 hf (fun t72 M71 H68 o69 hw hn70 hf => ?_)
                refine lv_goto F.1 F.2.1 dX4_readOrder_96 (tgt := 100) (by decide) ?_
                exact Jj37 t72 M71 hf _ _ _ hl hw
        · refine b_if_eq F dX4_readOrder_59 (tgt := 70) (by decide) hf (fun hc80 hf => ?_) (fun hc80 hf => ?_)
          · refine k_iconst_0 F dX4_readOrder_70 ?_
            exact Jj27 (0 : Int32) M13 hf _ _ _ (lv_sub hl [0, 1, 2] rfl) hw
          · refine lv_aload_n F.1 F.2.1 dX4_readOrder_62 rfl (lv_at hl 2 rfl) ?_
            refine lv_iload_n F.1 F.2.1 dX4_readOrder_63 rfl (lv_at hl 3 rfl) ?_
            refine clX4_51 F hw hl ⟨Nat.le_of_ble_eq_true rfl, Nat.le_of_ble_eq_true rfl⟩ (Nat.le_of_ble_eq_true rfl) dX4_readOrder_64 hf (fun t79 M78 H75 o76 hw hn77 hf => ?_)
            refine lv_goto F.1 F.2.1 dX4_readOrder_67 (tgt := 71) (by decide) ?_
            exact Jj27 t79 M78 hf _ _ _ (lv_sub hl [0, 1, 2] rfl) hw
    · refine b_if_eq F dX4_readOrder_33 (tgt := 44) (by decide) hf (fun hc87 hf => ?_) (fun hc87 hf => ?_)
      · refine k_iconst_0 F dX4_readOrder_44 ?_
        exact Jj17 (0 : Int32) M6 hf _ _ _ (lv_sub hl [0, 1, 3] rfl) hw
      · refine lv_aload_n F.1 F.2.1 dX4_readOrder_36 rfl (lv_at hl 1 rfl) ?_
        refine lv_iload_n F.1 F.2.1 dX4_readOrder_37 rfl (lv_at hl 2 rfl) ?_
        refine clX4_51 F hw hl ⟨Nat.le_of_ble_eq_true rfl, Nat.le_of_ble_eq_true rfl⟩ (Nat.le_of_ble_eq_true rfl) dX4_readOrder_38 hf (fun t86 M85 H82 o83 hw hn84 hf => ?_)
        refine lv_goto F.1 F.2.1 dX4_readOrder_41 (tgt := 45) (by decide) ?_
        exact Jj17 t86 M85 hf _ _ _ (lv_sub hl [0, 1, 3] rfl) hw
theorem clX4_40 (F : Fx D cA RX4 cc nL ret p s m args meth c) (hw : Wd shC D cA ad H0 M H locs) (hl : lv_has ls nL lv) {v1 : Int32} {v2 : Int32} (hR : 4 ≤ R.frames ∧ 86 ≤ R.locals) (hrm : (rest.map fun v => v.category).sum ≤ 8) (hd : decode cc pc = .ok (.invokevirtual 40, 3)) {α : Type} {K : Int32 → Mem → Option α} {res : α} (hf : bnd2 (fX4_readOrder v1 v2 M) K = some res) (kk : ∀ (t : Int32) (M1 : Mem) (H1 : Heap) (locs1 : List Loc), Wd shC D cA ad H0 M1 H1 locs1 → narrow .boolean (.int t) = .int t → K t M1 = some res → W p l e R s m args below meth c H1 locs1 0 0 Q (F0 m (pc + 3) ls (.int t :: rest))) : W p l e R s m args below meth c H locs 0 0 Q (F0 m pc ls (.int v2 :: .int v1 :: .ref (ad 2) :: rest)) := by
  obtain ⟨t, M1, h1, h2⟩ := bnd2_some hf
  exact r_afti hw (r_runV (As := [.int v1, .int v2]) F hw hl (cX4_readOrder_ok l D cA ad M v1 v2 t M1 h1) cz4 (show shC[2]? = some (.inr (4, sf4)) from rfl) cwX4_40 hR hrm hd) (fun H1 o1 hw1 hn => kk t M1 H1 o1 hw1 hn h2)
def fX4_readOrders_L32 : Nat → Int32 → Int32 → Int32 → Mem → Option (Int32 × Mem)
  | 0, _, _, _, _ => none
  | n + 1, v1, v2, v3, M =>
    if (40 : Int32) ≤ v3 then
      some ((-1 : Int32), M)
    else
      if (M 2 1) ≤ (M 2 7) then
        some ((-1 : Int32), M)
      else
        bnd2 (fX4_readOrder v1 v2 M) fun t16 M15 =>
        if t16 = 0 then
          some ((M15 2 7), M15)
        else
          bnd1 (fX4_skipBlanks M15) fun M20 =>
          fX4_readOrders_L32 n v1 v2 (v3 + (1 : Int32)) M20
def fX4_readOrders (v1 : Int32) (v2 : Int32) (M : Mem) : Option (Int32 × Mem) :=
  wr M 2 6 (0 : Int32) fun M1 =>
  wr M1 2 7 (0 : Int32) fun M4 =>
  bnd1 (fX4_skipBlanks M4) fun M10 =>
  if (M10 2 7) < (M10 2 1) then
    fX4_readOrders_L32 FUEL v1 v2 (0 : Int32) M10
  else
    some ((M10 2 1), M10)
set_option maxHeartbeats 4000000 in
set_option maxRecDepth 100000 in
theorem wX4_readOrders_L32 {p : Program} {l : Launch} {e : Env} {s : State} {m : MethodId} {args : Array Value} {below : List Frame} {meth : Method} {c : Code} {D : va_G} {cA : Nat → ClassId} {ad : Nat → Nat} {r : Int32} {M' : Mem} (F : Fx D cA RX4 cX4_readOrders 4 (some .int) p s m args meth c) : ∀ (n : Nat) (v1 : Int32) (v2 : Int32) (v3 : Int32) (M : Mem) (H : Heap) (o : List Loc) (ls : Array Slot), lv_has ls 4 [(0, .ref (ad 2)), (1, .int v1), (2, .int v2), (3, .int v3)] → Wd shC D cA ad s.heap M H o → fX4_readOrders_L32 n v1 v2 v3 M = some (r, M') → W p l e (rz 4 86) s m args below meth c H o 0 0 (MQ below (Qzi shC D cA ad .int r M') args s 0 0 (Az shC ad)) (F0 m 32 ls []) := by
  intro n
  induction n with
  | zero =>
    intro v1 v2 v3 M H o ls hl hw hf
    cases hf
  | succ n ih =>
    intro v1 v2 v3 M H o ls hl hw hf
    rw [fX4_readOrders_L32] at hf
    refine lv_iload_n F.1 F.2.1 dX4_readOrders_32 rfl (lv_at hl 3 rfl) ?_
    refine k_bipush_40 F dX4_readOrders_33 ?_
    refine b_icmp_ge F dX4_readOrders_35 (tgt := 73) (by decide) hf (fun hc24 hf => ?_) (fun hc24 hf => ?_)
    · refine k_iconst_m1 F dX4_readOrders_73 ?_
      exact r_iret_w F hw (vp_nar_int _) dX4_readOrders_74 hf
    · refine lv_aload_n F.1 F.2.1 dX4_readOrders_38 rfl (lv_at hl 0 rfl) ?_
      refine gX4_31 F hw rfl dX4_readOrders_39 ?_
      refine lv_aload_n F.1 F.2.1 dX4_readOrders_42 rfl (lv_at hl 0 rfl) ?_
      refine gX4_37 F hw rfl dX4_readOrders_43 ?_
      refine b_icmp_ge F dX4_readOrders_46 (tgt := 73) (by decide) hf (fun hc23 hf => ?_) (fun hc23 hf => ?_)
      · refine k_iconst_m1 F dX4_readOrders_73 ?_
        exact r_iret_w F hw (vp_nar_int _) dX4_readOrders_74 hf
      · refine lv_aload_n F.1 F.2.1 dX4_readOrders_49 rfl (lv_at hl 0 rfl) ?_
        refine lv_iload_n F.1 F.2.1 dX4_readOrders_50 rfl (lv_at hl 1 rfl) ?_
        refine lv_iload_n F.1 F.2.1 dX4_readOrders_51 rfl (lv_at hl 2 rfl) ?_
        refine clX4_40 F hw hl ⟨Nat.le_of_ble_eq_true rfl, Nat.le_of_ble_eq_true rfl⟩ (Nat.le_of_ble_eq_true rfl) dX4_readOrders_52 hf (fun t16 M15 H12 o13 hw hn14 hf => ?_)
        refine b_if_ne F dX4_readOrders_55 (tgt := 63) (by decide) hf (fun hc22 hf => ?_) (fun hc22 hf => ?_)
        · refine lv_aload_n F.1 F.2.1 dX4_readOrders_58 rfl (lv_at hl 0 rfl) ?_
          refine gX4_31 F hw rfl dX4_readOrders_59 ?_
          exact r_iret_w F hw (vp_nar_int _) dX4_readOrders_62 hf
        · refine lv_aload_n F.1 F.2.1 dX4_readOrders_63 rfl (lv_at hl 0 rfl) ?_
          refine clX4_34 F hw hl ⟨Nat.le_of_ble_eq_true rfl, Nat.le_of_ble_eq_true rfl⟩ (Nat.le_of_ble_eq_true rfl) dX4_readOrders_64 hf (fun M20 H17 o18 hw hf => ?_)
          refine lv_iinc F.1 F.2.1 dX4_readOrders_67 hl (k := 3) rfl (ki_1 _) (lv' := [(3, .int (v3 + (1 : Int32))), (0, .ref (ad 2)), (1, .int v1), (2, .int v2)]) (Nat.le_of_ble_eq_true rfl) rfl (fun ls21 hl => ?_)
          refine lv_goto F.1 F.2.1 dX4_readOrders_70 (tgt := 32) (by decide) ?_
          exact ih v1 v2 (v3 + (1 : Int32)) M20 _ _ _ (lv_sub hl [1, 2, 3, 0] rfl) hw hf
set_option maxHeartbeats 4000000 in
set_option maxRecDepth 100000 in
theorem cX4_readOrders_ok (l : Launch) (D : va_G) (cA : Nat → ClassId) (ad : Nat → Nat) (M : Mem) (v1 : Int32) (v2 : Int32) (r : Int32) (M' : Mem) (hf : fX4_readOrders v1 v2 M = some (r, M')) : Ctg l yX4_readOrders cX4_readOrders 4 (some .int) 4 86 shC D cA ad [.ref (ad 2), .int v1, .int v2] M (Qzi shC D cA ad .int r M') := by
  refine ct_in (by decide) (Nat.le_of_ble_eq_true rfl) ?_
  intro p e s m below meth c ls F hl hw
  have hl : lv_has ls 4 [(0, .ref (ad 2)), (1, .int v1), (2, .int v2)] := hl
  unfold fX4_readOrders at hf
  refine lv_aload_n F.1 F.2.1 dX4_readOrders_0 rfl (lv_at hl 0 rfl) ?_
  refine k_iconst_0 F dX4_readOrders_1 ?_
  refine qX4_27 F hw rfl dX4_readOrders_2 hf (fun M1 H2 o3 hw hf => ?_)
  refine lv_aload_n F.1 F.2.1 dX4_readOrders_5 rfl (lv_at hl 0 rfl) ?_
  refine k_iconst_0 F dX4_readOrders_6 ?_
  refine qX4_31 F hw rfl dX4_readOrders_7 hf (fun M4 H5 o6 hw hf => ?_)
  refine lv_aload_n F.1 F.2.1 dX4_readOrders_10 rfl (lv_at hl 0 rfl) ?_
  refine clX4_34 F hw hl ⟨Nat.le_of_ble_eq_true rfl, Nat.le_of_ble_eq_true rfl⟩ (Nat.le_of_ble_eq_true rfl) dX4_readOrders_11 hf (fun M10 H7 o8 hw hf => ?_)
  refine lv_aload_n F.1 F.2.1 dX4_readOrders_14 rfl (lv_at hl 0 rfl) ?_
  refine gX4_31 F hw rfl dX4_readOrders_15 ?_
  refine lv_aload_n F.1 F.2.1 dX4_readOrders_18 rfl (lv_at hl 0 rfl) ?_
  refine gX4_37 F hw rfl dX4_readOrders_19 ?_
  refine b_icmp_lt F dX4_readOrders_22 (tgt := 30) (by decide) hf (fun hc25 hf => ?_) (fun hc25 hf => ?_)
  · refine k_iconst_0 F dX4_readOrders_30 ?_
    refine lv_istore_n F.1 F.2.1 dX4_readOrders_31 rfl hl (lv' := [(3, .int (0 : Int32)), (0, .ref (ad 2)), (1, .int v1), (2, .int v2)]) (Nat.le_of_ble_eq_true rfl) rfl (fun ls11 hl => ?_)
    exact wX4_readOrders_L32 F FUEL v1 v2 (0 : Int32) M10 _ _ _ (lv_sub hl [1, 2, 3, 0] rfl) hw hf
  · refine lv_aload_n F.1 F.2.1 dX4_readOrders_25 rfl (lv_at hl 0 rfl) ?_
    refine gX4_37 F hw rfl dX4_readOrders_26 ?_
    exact r_iret_w F hw (vp_nar_int _) dX4_readOrders_29 hf
theorem clX7_172 (F : Fx D cA RX7 cc nL ret p s m args meth c) (hw : Wd shC D cA ad H0 M H locs) (hl : lv_has ls nL lv) {v1 : Int32} {v2 : Int32} (hR : 5 ≤ R.frames ∧ 109 ≤ R.locals) (hrm : (rest.map fun v => v.category).sum ≤ 8) (hd : decode cc pc = .ok (.invokevirtual 172, 3)) {α : Type} {K : Int32 → Mem → Option α} {res : α} (hf : bnd2 (fX4_readOrders v1 v2 M) K = some res) (kk : ∀ (t : Int32) (M1 : Mem) (H1 : Heap) (locs1 : List Loc), Wd shC D cA ad H0 M1 H1 locs1 → narrow .int (.int t) = .int t → K t M1 = some res → W p l e R s m args below meth c H1 locs1 0 0 Q (F0 m (pc + 3) ls (.int t :: rest))) : W p l e R s m args below meth c H locs 0 0 Q (F0 m pc ls (.int v2 :: .int v1 :: .ref (ad 2) :: rest)) := by
  obtain ⟨t, M1, h1, h2⟩ := bnd2_some hf
  exact r_afti hw (r_runV (As := [.int v1, .int v2]) F hw hl (cX4_readOrders_ok l D cA ad M v1 v2 t M1 h1) cz4 (show shC[2]? = some (.inr (4, sf4)) from rfl) cwX7_172 hR hrm hd) (fun H1 o1 hw1 hn => kk t M1 H1 o1 hw1 hn h2)
end RW
