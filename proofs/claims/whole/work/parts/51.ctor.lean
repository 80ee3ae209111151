/-! the constructors of the small classes -/
theorem dfX0 : ∀ j, j < 6 → defaultValue (tyX0 j) = vp_V [.null, .null, .null, .null, .null, .int 0] j := by
  intro j hj
  rcases (show j = 0 ∨ j = 1 ∨ j = 2 ∨ j = 3 ∨ j = 4 ∨ j = 5 by omega) with rfl | rfl | rfl | rfl | rfl | rfl <;> rfl
theorem dfX1 : ∀ j, j < 6 → defaultValue (tyX1 j) = vp_V [.int 0, .int 0, .int 0, .int 0, .int 0, .int 0] j := by
  intro j hj
  rcases (show j = 0 ∨ j = 1 ∨ j = 2 ∨ j = 3 ∨ j = 4 ∨ j = 5 by omega) with rfl | rfl | rfl | rfl | rfl | rfl <;> rfl
theorem dfX2 : ∀ j, j < 16 → defaultValue (tyX2 j) = vp_V [.int 0, .int 0, .int 0, .int 0, .null, .null, .null, .null, .null, .null, .int 0, .int 0, .int 0, .int 0, .int 0, .int 0] j := by
  intro j hj
  rcases (show j = 0 ∨ j = 1 ∨ j = 2 ∨ j = 3 ∨ j = 4 ∨ j = 5 ∨ j = 6 ∨ j = 7 ∨ j = 8 ∨ j = 9 ∨ j = 10 ∨ j = 11 ∨ j = 12 ∨ j = 13 ∨ j = 14 ∨ j = 15 by omega) with rfl | rfl | rfl | rfl | rfl | rfl | rfl | rfl | rfl | rfl | rfl | rfl | rfl | rfl | rfl | rfl <;> rfl
theorem dfX3 : ∀ j, j < 10 → defaultValue (tyX3 j) = vp_V [.int 0, .int 0, .int 0, .int 0, .int 0, .int 0, .null, .int 0, .int 0, .int 0] j := by
  intro j hj
  rcases (show j = 0 ∨ j = 1 ∨ j = 2 ∨ j = 3 ∨ j = 4 ∨ j = 5 ∨ j = 6 ∨ j = 7 ∨ j = 8 ∨ j = 9 by omega) with rfl | rfl | rfl | rfl | rfl | rfl | rfl | rfl | rfl | rfl <;> rfl
theorem dfX4 : ∀ j, j < 8 → defaultValue (tyX4 j) = vp_V [.null, .int 0, .null, .null, .null, .null, .int 0, .int 0] j := by
  intro j hj
  rcases (show j = 0 ∨ j = 1 ∨ j = 2 ∨ j = 3 ∨ j = 4 ∨ j = 5 ∨ j = 6 ∨ j = 7 by omega) with rfl | rfl | rfl | rfl | rfl | rfl | rfl | rfl <;> rfl
theorem dfX5 : ∀ j, j < 2 → defaultValue (tyX5 j) = vp_V [.int 0, .int 0] j := by
  intro j hj
  rcases (show j = 0 ∨ j = 1 by omega) with rfl | rfl <;> rfl
theorem dfX6 : ∀ j, j < 5 → defaultValue (tyX6 j) = vp_V [.null, .null, .null, .null, .int 0] j := by
  intro j hj
  rcases (show j = 0 ∨ j = 1 ∨ j = 2 ∨ j = 3 ∨ j = 4 by omega) with rfl | rfl | rfl | rfl | rfl <;> rfl
theorem dfX7 : ∀ j, j < 5 → defaultValue (tyX7 j) = vp_V [.null, .null, .int 0, .int 0, .int 0] j := by
  intro j hj
  rcases (show j = 0 ∨ j = 1 ∨ j = 2 ∨ j = 3 ∨ j = 4 by omega) with rfl | rfl | rfl | rfl | rfl <;> rfl
theorem dfX8 : ∀ j, j < 44 → defaultValue (tyX8 j) = vp_V [.null, .int 0, .int 0, .int 0, .int 0, .null, .null, .null, .null, .null, .null, .null, .null, .null, .null, .null, .null, .null, .null, .null, .null, .null, .int 0, .null, .null, .null, .null, .null, .int 0, .null, .null, .null, .null, .null, .null, .int 0, .int 0, .null, .int 0, .int 0, .int 0, .int 0, .int 0, .int 0] j := by
  intro j hj
  rcases (show j = 0 ∨ j = 1 ∨ j = 2 ∨ j = 3 ∨ j = 4 ∨ j = 5 ∨ j = 6 ∨ j = 7 ∨ j = 8 ∨ j = 9 ∨ j = 10 ∨ j = 11 ∨ j = 12 ∨ j = 13 ∨ j = 14 ∨ j = 15 ∨ j = 16 ∨ j = 17 ∨ j = 18 ∨ j = 19 ∨ j = 20 ∨ j = 21 ∨ j = 22 ∨ j = 23 ∨ j = 24 ∨ j = 25 ∨ j = 26 ∨ j = 27 ∨ j = 28 ∨ j = 29 ∨ j = 30 ∨ j = 31 ∨ j = 32 ∨ j = 33 ∨ j = 34 ∨ j = 35 ∨ j = 36 ∨ j = 37 ∨ j = 38 ∨ j = 39 ∨ j = 40 ∨ j = 41 ∨ j = 42 ∨ j = 43 by omega) with rfl | rfl | rfl | rfl | rfl | rfl | rfl | rfl | rfl | rfl | rfl | rfl | rfl | rfl | rfl | rfl | rfl | rfl | rfl | rfl | rfl | rfl | rfl | rfl | rfl | rfl | rfl | rfl | rfl | rfl | rfl | rfl | rfl | rfl | rfl | rfl | rfl | rfl | rfl | rfl | rfl | rfl | rfl | rfl <;> rfl
def layX0 (cA : Nat → ClassId) (h0 : Nat) (u : List Nat) : va_W := [(h0, .inr (0, [.ref (u.getD 0 0), .ref (u.getD 1 0), .ref (u.getD 2 0), .ref (u.getD 3 0), .ref (u.getD 4 0), .int 0])), ((u.getD 0 0), .inl (cA 0, 60, .inl (fun _ => 0))), ((u.getD 1 0), .inl (cA 0, 60, .inl (fun _ => 0))), ((u.getD 2 0), .inl (cA 0, 60, .inl (fun _ => 0))), ((u.getD 3 0), .inl (cA 0, 60, .inl (fun _ => 0))), ((u.getD 4 0), .inl (cA 0, 60, .inl (fun _ => 0)))]
set_option maxHeartbeats 4000000 in
set_option maxRecDepth 100000 in
theorem cX0_init_ok (l : Launch) (D : va_G) (cA : Nat → ClassId) (h0 : Nat) : Kt l yX0_init cX0_init 1 1 20 5 300 D cA h0 0 [.null, .null, .null, .null, .null, .int 0] (layX0 cA h0) := by
  refine kt_in (by decide) rfl (by decide) ?_
  intro p e s m below meth c ls A F hi hX hl hA hP hD hS
  refine lv_aload_n F.1 F.2.1 dX0_init_0 rfl (lv_at hl 0 rfl) ?_
  refine i_obj F hl kw_101 (Nat.le_of_ble_eq_true rfl) ⟨Nat.le_of_ble_eq_true rfl, Nat.le_of_ble_eq_true rfl⟩ dX0_init_1 ?_
  refine lv_aload_n F.1 F.2.1 dX0_init_4 rfl (lv_at hl 0 rfl) ?_
  refine lv_bipush (v := 60) F.1 F.2.1 dX0_init_5 (by decide) ?_
  refine i_newa F hP hD hS hA 60 (by decide) (by decide) ⟨Nat.le_of_ble_eq_true rfl, Nat.le_of_ble_eq_true rfl⟩ dX0_init_7 (fun q7 H hP hD hS => ?_)
  have hP : va_P D cls9 [(h0, .inr (0, [.null, .null, .null, .null, .null, .int 0])), (q7, .inl (cA 0, 60, .inl (fun _ => 0)))] H := hP
  have hD : va_D A [(h0, .inr (0, [.null, .null, .null, .null, .null, .int 0])), (q7, .inl (cA 0, 60, .inl (fun _ => 0)))] := hD
  refine i_putF F hi hP hD hS 0 rfl cz0 0 (by decide) kw_102 rfl rfl (ty := .array .int) (by decide +kernel) rfl rfl (Nat.le_of_ble_eq_true rfl) dX0_init_9 (fun H locs hP hD hS => ?_)
  have hP : va_P D cls9 [(h0, .inr (0, [.ref q7, .null, .null, .null, .null, .int 0])), (q7, .inl (cA 0, 60, .inl (fun _ => 0)))] H := hP
  have hD : va_D A [(h0, .inr (0, [.ref q7, .null, .null, .null, .null, .int 0])), (q7, .inl (cA 0, 60, .inl (fun _ => 0)))] := hD
  refine lv_aload_n F.1 F.2.1 dX0_init_12 rfl (lv_at hl 0 rfl) ?_
  refine lv_bipush (v := 60) F.1 F.2.1 dX0_init_13 (by decide) ?_
  refine i_newa F hP hD hS hA 60 (by decide) (by decide) ⟨Nat.le_of_ble_eq_true rfl, Nat.le_of_ble_eq_true rfl⟩ dX0_init_15 (fun q15 H hP hD hS => ?_)
  have hP : va_P D cls9 [(h0, .inr (0, [.ref q7, .null, .null, .null, .null, .int 0])), (q7, .inl (cA 0, 60, .inl (fun _ => 0))), (q15, .inl (cA 0, 60, .inl (fun _ => 0)))] H := hP
  have hD : va_D A [(h0, .inr (0, [.ref q7, .null, .null, .null, .null, .int 0])), (q7, .inl (cA 0, 60, .inl (fun _ => 0))), (q15, .inl (cA 0, 60, .inl (fun _ => 0)))] := hD
  refine i_putF F hi hP hD hS 0 rfl cz0 1 (by decide) kw_105 rfl rfl (ty := .array .int) (by decide +kernel) rfl rfl (Nat.le_of_ble_eq_true rfl) dX0_init_17 (fun H locs hP hD hS => ?_)
  have hP : va_P D cls9 [(h0, .inr (0, [.ref q7, .ref q15, .null, .null, .null, .int 0])), (q7, .inl (cA 0, 60, .inl (fun _ => 0))), (q15, .inl (cA 0, 60, .inl (fun _ => 0)))] H := hP
  have hD : va_D A [(h0, .inr (0, [.ref q7, .ref q15, .null, .null, .null, .int 0])), (q7, .inl (cA 0, 60, .inl (fun _ => 0))), (q15, .inl (cA 0, 60, .inl (fun _ => 0)))] := hD
  refine lv_aload_n F.1 F.2.1 dX0_init_20 rfl (lv_at hl 0 rfl) ?_
  refine lv_bipush (v := 60) F.1 F.2.1 dX0_init_21 (by decide) ?_
  refine i_newa F hP hD hS hA 60 (by decide) (by decide) ⟨Nat.le_of_ble_eq_true rfl, Nat.le_of_ble_eq_true rfl⟩ dX0_init_23 (fun q23 H hP hD hS => ?_)
  have hP : va_P D cls9 [(h0, .inr (0, [.ref q7, .ref q15, .null, .null, .null, .int 0])), (q7, .inl (cA 0, 60, .inl (fun _ => 0))), (q15, .inl (cA 0, 60, .inl (fun _ => 0))), (q23, .inl (cA 0, 60, .inl (fun _ => 0)))] H := hP
  have hD : va_D A [(h0, .inr (0, [.ref q7, .ref q15, .null, .null, .null, .int 0])), (q7, .inl (cA 0, 60, .inl (fun _ => 0))), (q15, .inl (cA 0, 60, .inl (fun _ => 0))), (q23, .inl (cA 0, 60, .inl (fun _ => 0)))] := hD
  refine i_putF F hi hP hD hS 0 rfl cz0 2 (by decide) kw_107 rfl rfl (ty := .array .int) (by decide +kernel) rfl rfl (Nat.le_of_ble_eq_true rfl) dX0_init_25 (fun H locs hP hD hS => ?_)
  have hP : va_P D cls9 [(h0, .inr (0, [.ref q7, .ref q15, .ref q23, .null, .null, .int 0])), (q7, .inl (cA 0, 60, .inl (fun _ => 0))), (q15, .inl (cA 0, 60, .inl (fun _ => 0))), (q23, .inl (cA 0, 60, .inl (fun _ => 0)))] H := hP
  have hD : va_D A [(h0, .inr (0, [.ref q7, .ref q15, .ref q23, .null, .null, .int 0])), (q7, .inl (cA 0, 60, .inl (fun _ => 0))), (q15, .inl (cA 0, 60, .inl (fun _ => 0))), (q23, .inl (cA 0, 60, .inl (fun _ => 0)))] := hD
  refine lv_aload_n F.1 F.2.1 dX0_init_28 rfl (lv_at hl 0 rfl) ?_
  refine lv_bipush (v := 60) F.1 F.2.1 dX0_init_29 (by decide) ?_
  refine i_newa F hP hD hS hA 60 (by decide) (by decide) ⟨Nat.le_of_ble_eq_true rfl, Nat.le_of_ble_eq_true rfl⟩ dX0_init_31 (fun q31 H hP hD hS => ?_)
  have hP : va_P D cls9 [(h0, .inr (0, [.ref q7, .ref q15, .ref q23, .null, .null, .int 0])), (q7, .inl (cA 0, 60, .inl (fun _ => 0))), (q15, .inl (cA 0, 60, .inl (fun _ => 0))), (q23, .inl (cA 0, 60, .inl (fun _ => 0))), (q31, .inl (cA 0, 60, .inl (fun _ => 0)))] H := hP
  have hD : va_D A [(h0, .inr (0, [.ref q7, .ref q15, .ref q23, .null, .null, .int 0])), (q7, .inl (cA 0, 60, .inl (fun _ => 0))), (q15, .inl (cA 0, 60, .inl (fun _ => 0))), (q23, .inl (cA 0, 60, .inl (fun _ => 0))), (q31, .inl (cA 0, 60, .inl (fun _ => 0)))] := hD
  refine i_putF F hi hP hD hS 0 rfl cz0 3 (by decide) kw_110 rfl rfl (ty := .array .int) (by decide +kernel) rfl rfl (Nat.le_of_ble_eq_true rfl) dX0_init_33 (fun H locs hP hD hS => ?_)
  have hP : va_P D cls9 [(h0, .inr (0, [.ref q7, .ref q15, .ref q23, .ref q31, .null, .int 0])), (q7, .inl (cA 0, 60, .inl (fun _ => 0))), (q15, .inl (cA 0, 60, .inl (fun _ => 0))), (q23, .inl (cA 0, 60, .inl (fun _ => 0))), (q31, .inl (cA 0, 60, .inl (fun _ => 0)))] H := hP
  have hD : va_D A [(h0, .inr (0, [.ref q7, .ref q15, .ref q23, .ref q31, .null, .int 0])), (q7, .inl (cA 0, 60, .inl (fun _ => 0))), (q15, .inl (cA 0, 60, .inl (fun _ => 0))), (q23, .inl (cA 0, 60, .inl (fun _ => 0))), (q31, .inl (cA 0, 60, .inl (fun _ => 0)))] := hD
  refine lv_aload_n F.1 F.2.1 dX0_init_36 rfl (lv_at hl 0 rfl) ?_
  refine lv_bipush (v := 60) F.1 F.2.1 dX0_init_37 (by decide) ?_
  refine i_newa F hP hD hS hA 60 (by decide) (by decide) ⟨Nat.le_of_ble_eq_true rfl, Nat.le_of_ble_eq_true rfl⟩ dX0_init_39 (fun q39 H hP hD hS => ?_)
  have hP : va_P D cls9 [(h0, .inr (0, [.ref q7, .ref q15, .ref q23, .ref q31, .null, .int 0])), (q7, .inl (cA 0, 60, .inl (fun _ => 0))), (q15, .inl (cA 0, 60, .inl (fun _ => 0))), (q23, .inl (cA 0, 60, .inl (fun _ => 0))), (q31, .inl (cA 0, 60, .inl (fun _ => 0))), (q39, .inl (cA 0, 60, .inl (fun _ => 0)))] H := hP
  have hD : va_D A [(h0, .inr (0, [.ref q7, .ref q15, .ref q23, .ref q31, .null, .int 0])), (q7, .inl (cA 0, 60, .inl (fun _ => 0))), (q15, .inl (cA 0, 60, .inl (fun _ => 0))), (q23, .inl (cA 0, 60, .inl (fun _ => 0))), (q31, .inl (cA 0, 60, .inl (fun _ => 0))), (q39, .inl (cA 0, 60, .inl (fun _ => 0)))] := hD
  refine i_putF F hi hP hD hS 0 rfl cz0 4 (by decide) kw_112 rfl rfl (ty := .array .int) (by decide +kernel) rfl rfl (Nat.le_of_ble_eq_true rfl) dX0_init_41 (fun H locs hP hD hS => ?_)
  have hP : va_P D cls9 [(h0, .inr (0, [.ref q7, .ref q15, .ref q23, .ref q31, .ref q39, .int 0])), (q7, .inl (cA 0, 60, .inl (fun _ => 0))), (q15, .inl (cA 0, 60, .inl (fun _ => 0))), (q23, .inl (cA 0, 60, .inl (fun _ => 0))), (q31, .inl (cA 0, 60, .inl (fun _ => 0))), (q39, .inl (cA 0, 60, .inl (fun _ => 0)))] H := hP
  have hD : va_D A [(h0, .inr (0, [.ref q7, .ref q15, .ref q23, .ref q31, .ref q39, .int 0])), (q7, .inl (cA 0, 60, .inl (fun _ => 0))), (q15, .inl (cA 0, 60, .inl (fun _ => 0))), (q23, .inl (cA 0, 60, .inl (fun _ => 0))), (q31, .inl (cA 0, 60, .inl (fun _ => 0))), (q39, .inl (cA 0, 60, .inl (fun _ => 0)))] := hD
  exact i_ret F [q7, q15, q23, q31, q39] hP hD hS ⟨Nat.le_of_ble_eq_true rfl, Nat.le_of_ble_eq_true rfl⟩ dX0_init_44
def layX1 (cA : Nat → ClassId) (h0 : Nat) (u : List Nat) : va_W := [(h0, .inr (1, [.int 0, .int 0, .int 0, .int 0, .int 0, .int 0]))]
set_option maxHeartbeats 4000000 in
set_option maxRecDepth 100000 in
theorem cX1_init_ok (l : Launch) (D : va_G) (cA : Nat → ClassId) (h0 : Nat) : Kt l yX1_init cX1_init 1 1 20 0 0 D cA h0 1 [.int 0, .int 0, .int 0, .int 0, .int 0, .int 0] (layX1 cA h0) := by
  refine kt_in (by decide) rfl (by decide) ?_
  intro p e s m below meth c ls A F hi hX hl hA hP hD hS
  refine lv_aload_n F.1 F.2.1 dX1_init_0 rfl (lv_at hl 0 rfl) ?_
  refine i_obj F hl kw_225 (Nat.le_of_ble_eq_true rfl) ⟨Nat.le_of_ble_eq_true rfl, Nat.le_of_ble_eq_true rfl⟩ dX1_init_1 ?_
  exact i_ret F [] hP hD hS ⟨Nat.le_of_ble_eq_true rfl, Nat.le_of_ble_eq_true rfl⟩ dX1_init_4
def layX3 (cA : Nat → ClassId) (h0 : Nat) (u : List Nat) : va_W := [(h0, .inr (3, [.int 0, .int 0, .int 0, .int 0, .int 0, .int 0, .ref (u.getD 0 0), .int 0, .int 0, .int 0])), ((u.getD 0 0), .inl (cA 0, 4, .inl (fun _ => 0)))]
set_option maxHeartbeats 4000000 in
set_option maxRecDepth 100000 in
theorem cX3_init_ok (l : Launch) (D : va_G) (cA : Nat → ClassId) (h0 : Nat) : Kt l yX3_init cX3_init 1 1 20 1 4 D cA h0 3 [.int 0, .int 0, .int 0, .int 0, .int 0, .int 0, .null, .int 0, .int 0, .int 0] (layX3 cA h0) := by
  refine kt_in (by decide) rfl (by decide) ?_
  intro p e s m below meth c ls A F hi hX hl hA hP hD hS
  refine lv_aload_n F.1 F.2.1 dX3_init_0 rfl (lv_at hl 0 rfl) ?_
  refine i_obj F hl kw_179 (Nat.le_of_ble_eq_true rfl) ⟨Nat.le_of_ble_eq_true rfl, Nat.le_of_ble_eq_true rfl⟩ dX3_init_1 ?_
  refine lv_aload_n F.1 F.2.1 dX3_init_4 rfl (lv_at hl 0 rfl) ?_
  refine lv_iconst (v := 4) F.1 F.2.1 dX3_init_5 (by decide) ?_
  refine i_newa F hP hD hS hA 4 (by decide) (by decide) ⟨Nat.le_of_ble_eq_true rfl, Nat.le_of_ble_eq_true rfl⟩ dX3_init_6 (fun q6 H hP hD hS => ?_)
  have hP : va_P D cls9 [(h0, .inr (3, [.int 0, .int 0, .int 0, .int 0, .int 0, .int 0, .null, .int 0, .int 0, .int 0])), (q6, .inl (cA 0, 4, .inl (fun _ => 0)))] H := hP
  have hD : va_D A [(h0, .inr (3, [.int 0, .int 0, .int 0, .int 0, .int 0, .int 0, .null, .int 0, .int 0, .int 0])), (q6, .inl (cA 0, 4, .inl (fun _ => 0)))] := hD
  refine i_putF F hi hP hD hS 0 rfl cz3 6 (by decide) kw_193 rfl rfl (ty := .array .int) (by decide +kernel) rfl rfl (Nat.le_of_ble_eq_true rfl) dX3_init_8 (fun H locs hP hD hS => ?_)
  have hP : va_P D cls9 [(h0, .inr (3, [.int 0, .int 0, .int 0, .int 0, .int 0, .int 0, .ref q6, .int 0, .int 0, .int 0])), (q6, .inl (cA 0, 4, .inl (fun _ => 0)))] H := hP
  have hD : va_D A [(h0, .inr (3, [.int 0, .int 0, .int 0, .int 0, .int 0, .int 0, .ref q6, .int 0, .int 0, .int 0])), (q6, .inl (cA 0, 4, .inl (fun _ => 0)))] := hD
  exact i_ret F [q6] hP hD hS ⟨Nat.le_of_ble_eq_true rfl, Nat.le_of_ble_eq_true rfl⟩ dX3_init_11
def layX4 (cA : Nat → ClassId) (h0 : Nat) (u : List Nat) : va_W := [(h0, .inr (4, [.ref (u.getD 0 0), .int 0, .ref (u.getD 1 0), .ref (u.getD 2 0), .ref (u.getD 3 0), .ref (u.getD 4 0), .int 0, .int 0])), ((u.getD 0 0), .inl (cA 0, 120, .inl (fun _ => 0))), ((u.getD 1 0), .inl (cA 0, 40, .inl (fun _ => 0))), ((u.getD 2 0), .inl (cA 0, 40, .inl (fun _ => 0))), ((u.getD 3 0), .inl (cA 0, 40, .inl (fun _ => 0))), ((u.getD 4 0), .inl (cA 0, 40, .inl (fun _ => 0)))]
set_option maxHeartbeats 4000000 in
set_option maxRecDepth 100000 in
theorem cX4_init_ok (l : Launch) (D : va_G) (cA : Nat → ClassId) (h0 : Nat) : Kt l yX4_init cX4_init 1 1 20 5 280 D cA h0 4 [.null, .int 0, .null, .null, .null, .null, .int 0, .int 0] (layX4 cA h0) := by
  refine kt_in (by decide) rfl (by decide) ?_
  intro p e s m below meth c ls A F hi hX hl hA hP hD hS
  refine lv_aload_n F.1 F.2.1 dX4_init_0 rfl (lv_at hl 0 rfl) ?_
  refine i_obj F hl kw_315 (Nat.le_of_ble_eq_true rfl) ⟨Nat.le_of_ble_eq_true rfl, Nat.le_of_ble_eq_true rfl⟩ dX4_init_1 ?_
  refine lv_aload_n F.1 F.2.1 dX4_init_4 rfl (lv_at hl 0 rfl) ?_
  refine lv_bipush (v := 120) F.1 F.2.1 dX4_init_5 (by decide) ?_
  refine i_newa F hP hD hS hA 120 (by decide) (by decide) ⟨Nat.le_of_ble_eq_true rfl, Nat.le_of_ble_eq_true rfl⟩ dX4_init_7 (fun q7 H hP hD hS => ?_)
  have hP : va_P D cls9 [(h0, .inr (4, [.null, .int 0, .null, .null, .null, .null, .int 0, .int 0])), (q7, .inl (cA 0, 120, .inl (fun _ => 0)))] H := hP
  have hD : va_D A [(h0, .inr (4, [.null, .int 0, .null, .null, .null, .null, .int 0, .int 0])), (q7, .inl (cA 0, 120, .inl (fun _ => 0)))] := hD
  refine i_putF F hi hP hD hS 0 rfl cz4 0 (by decide) kw_316 rfl rfl (ty := .array .int) (by decide +kernel) rfl rfl (Nat.le_of_ble_eq_true rfl) dX4_init_9 (fun H locs hP hD hS => ?_)
  have hP : va_P D cls9 [(h0, .inr (4, [.ref q7, .int 0, .null, .null, .null, .null, .int 0, .int 0])), (q7, .inl (cA 0, 120, .inl (fun _ => 0)))] H := hP
  have hD : va_D A [(h0, .inr (4, [.ref q7, .int 0, .null, .null, .null, .null, .int 0, .int 0])), (q7, .inl (cA 0, 120, .inl (fun _ => 0)))] := hD
  refine lv_aload_n F.1 F.2.1 dX4_init_12 rfl (lv_at hl 0 rfl) ?_
  refine lv_bipush (v := 40) F.1 F.2.1 dX4_init_13 (by decide) ?_
  refine i_newa F hP hD hS hA 40 (by decide) (by decide) ⟨Nat.le_of_ble_eq_true rfl, Nat.le_of_ble_eq_true rfl⟩ dX4_init_15 (fun q15 H hP hD hS => ?_)
  have hP : va_P D cls9 [(h0, .inr (4, [.ref q7, .int 0, .null, .null, .null, .null, .int 0, .int 0])), (q7, .inl (cA 0, 120, .inl (fun _ => 0))), (q15, .inl (cA 0, 40, .inl (fun _ => 0)))] H := hP
  have hD : va_D A [(h0, .inr (4, [.ref q7, .int 0, .null, .null, .null, .null, .int 0, .int 0])), (q7, .inl (cA 0, 120, .inl (fun _ => 0))), (q15, .inl (cA 0, 40, .inl (fun _ => 0)))] := hD
  refine i_putF F hi hP hD hS 0 rfl cz4 2 (by decide) kw_320 rfl rfl (ty := .array .int) (by decide +kernel) rfl rfl (Nat.le_of_ble_eq_true rfl) dX4_init_17 (fun H locs hP hD hS => ?_)
  have hP : va_P D cls9 [(h0, .inr (4, [.ref q7, .int 0, .ref q15, .null, .null, .null, .int 0, .int 0])), (q7, .inl (cA 0, 120, .inl (fun _ => 0))), (q15, .inl (cA 0, 40, .inl (fun _ => 0)))] H := hP
  have hD : va_D A [(h0, .inr (4, [.ref q7, .int 0, .ref q15, .null, .null, .null, .int 0, .int 0])), (q7, .inl (cA 0, 120, .inl (fun _ => 0))), (q15, .inl (cA 0, 40, .inl (fun _ => 0)))] := hD
  refine lv_aload_n F.1 F.2.1 dX4_init_20 rfl (lv_at hl 0 rfl) ?_
  refine lv_bipush (v := 40) F.1 F.2.1 dX4_init_21 (by decide) ?_
  refine i_newa F hP hD hS hA 40 (by decide) (by decide) ⟨Nat.le_of_ble_eq_true rfl, Nat.le_of_ble_eq_true rfl⟩ dX4_init_23 (fun q23 H hP hD hS => ?_)
  have hP : va_P D cls9 [(h0, .inr (4, [.ref q7, .int 0, .ref q15, .null, .null, .null, .int 0, .int 0])), (q7, .inl (cA 0, 120, .inl (fun _ => 0))), (q15, .inl (cA 0, 40, .inl (fun _ => 0))), (q23, .inl (cA 0, 40, .inl (fun _ => 0)))] H := hP
  have hD : va_D A [(h0, .inr (4, [.ref q7, .int 0, .ref q15, .null, .null, .null, .int 0, .int 0])), (q7, .inl (cA 0, 120, .inl (fun _ => 0))), (q15, .inl (cA 0, 40, .inl (fun _ => 0))), (q23, .inl (cA 0, 40, .inl (fun _ => 0)))] := hD
  refine i_putF F hi hP hD hS 0 rfl cz4 3 (by decide) kw_322 rfl rfl (ty := .array .int) (by decide +kernel) rfl rfl (Nat.le_of_ble_eq_true rfl) dX4_init_25 (fun H locs hP hD hS => ?_)
  have hP : va_P D cls9 [(h0, .inr (4, [.ref q7, .int 0, .ref q15, .ref q23, .null, .null, .int 0, .int 0])), (q7, .inl (cA 0, 120, .inl (fun _ => 0))), (q15, .inl (cA 0, 40, .inl (fun _ => 0))), (q23, .inl (cA 0, 40, .inl (fun _ => 0)))] H := hP
  have hD : va_D A [(h0, .inr (4, [.ref q7, .int 0, .ref q15, .ref q23, .null, .null, .int 0, .int 0])), (q7, .inl (cA 0, 120, .inl (fun _ => 0))), (q15, .inl (cA 0, 40, .inl (fun _ => 0))), (q23, .inl (cA 0, 40, .inl (fun _ => 0)))] := hD
  refine lv_aload_n F.1 F.2.1 dX4_init_28 rfl (lv_at hl 0 rfl) ?_
  refine lv_bipush (v := 40) F.1 F.2.1 dX4_init_29 (by decide) ?_
  refine i_newa F hP hD hS hA 40 (by decide) (by decide) ⟨Nat.le_of_ble_eq_true rfl, Nat.le_of_ble_eq_true rfl⟩ dX4_init_31 (fun q31 H hP hD hS => ?_)
  have hP : va_P D cls9 [(h0, .inr (4, [.ref q7, .int 0, .ref q15, .ref q23, .null, .null, .int 0, .int 0])), (q7, .inl (cA 0, 120, .inl (fun _ => 0))), (q15, .inl (cA 0, 40, .inl (fun _ => 0))), (q23, .inl (cA 0, 40, .inl (fun _ => 0))), (q31, .inl (cA 0, 40, .inl (fun _ => 0)))] H := hP
  have hD : va_D A [(h0, .inr (4, [.ref q7, .int 0, .ref q15, .ref q23, .null, .null, .int 0, .int 0])), (q7, .inl (cA 0, 120, .inl (fun _ => 0))), (q15, .inl (cA 0, 40, .inl (fun _ => 0))), (q23, .inl (cA 0, 40, .inl (fun _ => 0))), (q31, .inl (cA 0, 40, .inl (fun _ => 0)))] := hD
  refine i_putF F hi hP hD hS 0 rfl cz4 4 (by decide) kw_324 rfl rfl (ty := .array .int) (by decide +kernel) rfl rfl (Nat.le_of_ble_eq_true rfl) dX4_init_33 (fun H locs hP hD hS => ?_)
  have hP : va_P D cls9 [(h0, .inr (4, [.ref q7, .int 0, .ref q15, .ref q23, .ref q31, .null, .int 0, .int 0])), (q7, .inl (cA 0, 120, .inl (fun _ => 0))), (q15, .inl (cA 0, 40, .inl (fun _ => 0))), (q23, .inl (cA 0, 40, .inl (fun _ => 0))), (q31, .inl (cA 0, 40, .inl (fun _ => 0)))] H := hP
  have hD : va_D A [(h0, .inr (4, [.ref q7, .int 0, .ref q15, .ref q23, .ref q31, .null, .int 0, .int 0])), (q7, .inl (cA 0, 120, .inl (fun _ => 0))), (q15, .inl (cA 0, 40, .inl (fun _ => 0))), (q23, .inl (cA 0, 40, .inl (fun _ => 0))), (q31, .inl (cA 0, 40, .inl (fun _ => 0)))] := hD
  refine lv_aload_n F.1 F.2.1 dX4_init_36 rfl (lv_at hl 0 rfl) ?_
  refine lv_bipush (v := 40) F.1 F.2.1 dX4_init_37 (by decide) ?_
  refine i_newa F hP hD hS hA 40 (by decide) (by decide) ⟨Nat.le_of_ble_eq_true rfl, Nat.le_of_ble_eq_true rfl⟩ dX4_init_39 (fun q39 H hP hD hS => ?_)
  have hP : va_P D cls9 [(h0, .inr (4, [.ref q7, .int 0, .ref q15, .ref q23, .ref q31, .null, .int 0, .int 0])), (q7, .inl (cA 0, 120, .inl (fun _ => 0))), (q15, .inl (cA 0, 40, .inl (fun _ => 0))), (q23, .inl (cA 0, 40, .inl (fun _ => 0))), (q31, .inl (cA 0, 40, .inl (fun _ => 0))), (q39, .inl (cA 0, 40, .inl (fun _ => 0)))] H := hP
  have hD : va_D A [(h0, .inr (4, [.ref q7, .int 0, .ref q15, .ref q23, .ref q31, .null, .int 0, .int 0])), (q7, .inl (cA 0, 120, .inl (fun _ => 0))), (q15, .inl (cA 0, 40, .inl (fun _ => 0))), (q23, .inl (cA 0, 40, .inl (fun _ => 0))), (q31, .inl (cA 0, 40, .inl (fun _ => 0))), (q39, .inl (cA 0, 40, .inl (fun _ => 0)))] := hD
  refine i_putF F hi hP hD hS 0 rfl cz4 5 (by decide) kw_326 rfl rfl (ty := .array .int) (by decide +kernel) rfl rfl (Nat.le_of_ble_eq_true rfl) dX4_init_41 (fun H locs hP hD hS => ?_)
  have hP : va_P D cls9 [(h0, .inr (4, [.ref q7, .int 0, .ref q15, .ref q23, .ref q31, .ref q39, .int 0, .int 0])), (q7, .inl (cA 0, 120, .inl (fun _ => 0))), (q15, .inl (cA 0, 40, .inl (fun _ => 0))), (q23, .inl (cA 0, 40, .inl (fun _ => 0))), (q31, .inl (cA 0, 40, .inl (fun _ => 0))), (q39, .inl (cA 0, 40, .inl (fun _ => 0)))] H := hP
  have hD : va_D A [(h0, .inr (4, [.ref q7, .int 0, .ref q15, .ref q23, .ref q31, .ref q39, .int 0, .int 0])), (q7, .inl (cA 0, 120, .inl (fun _ => 0))), (q15, .inl (cA 0, 40, .inl (fun _ => 0))), (q23, .inl (cA 0, 40, .inl (fun _ => 0))), (q31, .inl (cA 0, 40, .inl (fun _ => 0))), (q39, .inl (cA 0, 40, .inl (fun _ => 0)))] := hD
  exact i_ret F [q7, q15, q23, q31, q39] hP hD hS ⟨Nat.le_of_ble_eq_true rfl, Nat.le_of_ble_eq_true rfl⟩ dX4_init_44
def layX5 (cA : Nat → ClassId) (h0 : Nat) (u : List Nat) : va_W := [(h0, .inr (5, [.int 0, .int 0]))]
set_option maxHeartbeats 4000000 in
set_option maxRecDepth 100000 in
theorem cX5_init_ok (l : Launch) (D : va_G) (cA : Nat → ClassId) (h0 : Nat) : Kt l yX5_init cX5_init 1 1 20 0 0 D cA h0 5 [.int 0, .int 0] (layX5 cA h0) := by
  refine kt_in (by decide) rfl (by decide) ?_
  intro p e s m below meth c ls A F hi hX hl hA hP hD hS
  refine lv_aload_n F.1 F.2.1 dX5_init_0 rfl (lv_at hl 0 rfl) ?_
  refine i_obj F hl kw_165 (Nat.le_of_ble_eq_true rfl) ⟨Nat.le_of_ble_eq_true rfl, Nat.le_of_ble_eq_true rfl⟩ dX5_init_1 ?_
  exact i_ret F [] hP hD hS ⟨Nat.le_of_ble_eq_true rfl, Nat.le_of_ble_eq_true rfl⟩ dX5_init_4
def layX6 (cA : Nat → ClassId) (h0 : Nat) (u : List Nat) : va_W := [(h0, .inr (6, [.ref (u.getD 0 0), .ref (u.getD 1 0), .ref (u.getD 2 0), .ref (u.getD 3 0), .int 0])), ((u.getD 0 0), .inl (cA 0, 390, .inl (fun _ => 0))), ((u.getD 1 0), .inl (cA 0, 390, .inl (fun _ => 0))), ((u.getD 2 0), .inl (cA 0, 390, .inl (fun _ => 0))), ((u.getD 3 0), .inl (cA 0, 1560, .inl (fun _ => 0)))]
set_option maxHeartbeats 4000000 in
set_option maxRecDepth 100000 in
theorem cX6_init_ok (l : Launch) (D : va_G) (cA : Nat → ClassId) (h0 : Nat) : Kt l yX6_init cX6_init 1 1 20 4 2730 D cA h0 6 [.null, .null, .null, .null, .int 0] (layX6 cA h0) := by
  refine kt_in (by decide) rfl (by decide) ?_
  intro p e s m below meth c ls A F hi hX hl hA hP hD hS
  refine lv_aload_n F.1 F.2.1 dX6_init_0 rfl (lv_at hl 0 rfl) ?_
  refine i_obj F hl kw_137 (Nat.le_of_ble_eq_true rfl) ⟨Nat.le_of_ble_eq_true rfl, Nat.le_of_ble_eq_true rfl⟩ dX6_init_1 ?_
  refine lv_aload_n F.1 F.2.1 dX6_init_4 rfl (lv_at hl 0 rfl) ?_
  refine lv_sipush (v := 390) F.1 F.2.1 dX6_init_5 (by decide) ?_
  refine i_newa F hP hD hS hA 390 (by decide) (by decide) ⟨Nat.le_of_ble_eq_true rfl, Nat.le_of_ble_eq_true rfl⟩ dX6_init_8 (fun q8 H hP hD hS => ?_)
  have hP : va_P D cls9 [(h0, .inr (6, [.null, .null, .null, .null, .int 0])), (q8, .inl (cA 0, 390, .inl (fun _ => 0)))] H := hP
  have hD : va_D A [(h0, .inr (6, [.null, .null, .null, .null, .int 0])), (q8, .inl (cA 0, 390, .inl (fun _ => 0)))] := hD
  refine i_putF F hi hP hD hS 0 rfl cz6 0 (by decide) kw_138 rfl rfl (ty := .array .int) (by decide +kernel) rfl rfl (Nat.le_of_ble_eq_true rfl) dX6_init_10 (fun H locs hP hD hS => ?_)
  have hP : va_P D cls9 [(h0, .inr (6, [.ref q8, .null, .null, .null, .int 0])), (q8, .inl (cA 0, 390, .inl (fun _ => 0)))] H := hP
  have hD : va_D A [(h0, .inr (6, [.ref q8, .null, .null, .null, .int 0])), (q8, .inl (cA 0, 390, .inl (fun _ => 0)))] := hD
  refine lv_aload_n F.1 F.2.1 dX6_init_13 rfl (lv_at hl 0 rfl) ?_
  refine lv_sipush (v := 390) F.1 F.2.1 dX6_init_14 (by decide) ?_
  refine i_newa F hP hD hS hA 390 (by decide) (by decide) ⟨Nat.le_of_ble_eq_true rfl, Nat.le_of_ble_eq_true rfl⟩ dX6_init_17 (fun q17 H hP hD hS => ?_)
  have hP : va_P D cls9 [(h0, .inr (6, [.ref q8, .null, .null, .null, .int 0])), (q8, .inl (cA 0, 390, .inl (fun _ => 0))), (q17, .inl (cA 0, 390, .inl (fun _ => 0)))] H := hP
  have hD : va_D A [(h0, .inr (6, [.ref q8, .null, .null, .null, .int 0])), (q8, .inl (cA 0, 390, .inl (fun _ => 0))), (q17, .inl (cA 0, 390, .inl (fun _ => 0)))] := hD
  refine i_putF F hi hP hD hS 0 rfl cz6 1 (by decide) kw_140 rfl rfl (ty := .array .int) (by decide +kernel) rfl rfl (Nat.le_of_ble_eq_true rfl) dX6_init_19 (fun H locs hP hD hS => ?_)
  have hP : va_P D cls9 [(h0, .inr (6, [.ref q8, .ref q17, .null, .null, .int 0])), (q8, .inl (cA 0, 390, .inl (fun _ => 0))), (q17, .inl (cA 0, 390, .inl (fun _ => 0)))] H := hP
  have hD : va_D A [(h0, .inr (6, [.ref q8, .ref q17, .null, .null, .int 0])), (q8, .inl (cA 0, 390, .inl (fun _ => 0))), (q17, .inl (cA 0, 390, .inl (fun _ => 0)))] := hD
  refine lv_aload_n F.1 F.2.1 dX6_init_22 rfl (lv_at hl 0 rfl) ?_
  refine lv_sipush (v := 390) F.1 F.2.1 dX6_init_23 (by decide) ?_
  refine i_newa F hP hD hS hA 390 (by decide) (by decide) ⟨Nat.le_of_ble_eq_true rfl, Nat.le_of_ble_eq_true rfl⟩ dX6_init_26 (fun q26 H hP hD hS => ?_)
  have hP : va_P D cls9 [(h0, .inr (6, [.ref q8, .ref q17, .null, .null, .int 0])), (q8, .inl (cA 0, 390, .inl (fun _ => 0))), (q17, .inl (cA 0, 390, .inl (fun _ => 0))), (q26, .inl (cA 0, 390, .inl (fun _ => 0)))] H := hP
  have hD : va_D A [(h0, .inr (6, [.ref q8, .ref q17, .null, .null, .int 0])), (q8, .inl (cA 0, 390, .inl (fun _ => 0))), (q17, .inl (cA 0, 390, .inl (fun _ => 0))), (q26, .inl (cA 0, 390, .inl (fun _ => 0)))] := hD
  refine i_putF F hi hP hD hS 0 rfl cz6 2 (by decide) kw_142 rfl rfl (ty := .array .int) (by decide +kernel) rfl rfl (Nat.le_of_ble_eq_true rfl) dX6_init_28 (fun H locs hP hD hS => ?_)
  have hP : va_P D cls9 [(h0, .inr (6, [.ref q8, .ref q17, .ref q26, .null, .int 0])), (q8, .inl (cA 0, 390, .inl (fun _ => 0))), (q17, .inl (cA 0, 390, .inl (fun _ => 0))), (q26, .inl (cA 0, 390, .inl (fun _ => 0)))] H := hP
  have hD : va_D A [(h0, .inr (6, [.ref q8, .ref q17, .ref q26, .null, .int 0])), (q8, .inl (cA 0, 390, .inl (fun _ => 0))), (q17, .inl (cA 0, 390, .inl (fun _ => 0))), (q26, .inl (cA 0, 390, .inl (fun _ => 0)))] := hD
  refine lv_aload_n F.1 F.2.1 dX6_init_31 rfl (lv_at hl 0 rfl) ?_
  refine lv_sipush (v := 1560) F.1 F.2.1 dX6_init_32 (by decide) ?_
  refine i_newa F hP hD hS hA 1560 (by decide) (by decide) ⟨Nat.le_of_ble_eq_true rfl, Nat.le_of_ble_eq_true rfl⟩ dX6_init_35 (fun q35 H hP hD hS => ?_)
  have hP : va_P D cls9 [(h0, .inr (6, [.ref q8, .ref q17, .ref q26, .null, .int 0])), (q8, .inl (cA 0, 390, .inl (fun _ => 0))), (q17, .inl (cA 0, 390, .inl (fun _ => 0))), (q26, .inl (cA 0, 390, .inl (fun _ => 0))), (q35, .inl (cA 0, 1560, .inl (fun _ => 0)))] H := hP
  have hD : va_D A [(h0, .inr (6, [.ref q8, .ref q17, .ref q26, .null, .int 0])), (q8, .inl (cA 0, 390, .inl (fun _ => 0))), (q17, .inl (cA 0, 390, .inl (fun _ => 0))), (q26, .inl (cA 0, 390, .inl (fun _ => 0))), (q35, .inl (cA 0, 1560, .inl (fun _ => 0)))] := hD
  refine i_putF F hi hP hD hS 0 rfl cz6 3 (by decide) kw_145 rfl rfl (ty := .array .int) (by decide +kernel) rfl rfl (Nat.le_of_ble_eq_true rfl) dX6_init_37 (fun H locs hP hD hS => ?_)
  have hP : va_P D cls9 [(h0, .inr (6, [.ref q8, .ref q17, .ref q26, .ref q35, .int 0])), (q8, .inl (cA 0, 390, .inl (fun _ => 0))), (q17, .inl (cA 0, 390, .inl (fun _ => 0))), (q26, .inl (cA 0, 390, .inl (fun _ => 0))), (q35, .inl (cA 0, 1560, .inl (fun _ => 0)))] H := hP
  have hD : va_D A [(h0, .inr (6, [.ref q8, .ref q17, .ref q26, .ref q35, .int 0])), (q8, .inl (cA 0, 390, .inl (fun _ => 0))), (q17, .inl (cA 0, 390, .inl (fun _ => 0))), (q26, .inl (cA 0, 390, .inl (fun _ => 0))), (q35, .inl (cA 0, 1560, .inl (fun _ => 0)))] := hD
  exact i_ret F [q8, q17, q26, q35] hP hD hS ⟨Nat.le_of_ble_eq_true rfl, Nat.le_of_ble_eq_true rfl⟩ dX6_init_40
