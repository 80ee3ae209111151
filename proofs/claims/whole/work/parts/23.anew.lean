/-! all as at first: startAnew beside begins; sets -/
theorem bnd1_s {A1 γ : Type} (a : A1) (K : A1 → Option γ) : bnd1 (some a) K = K a := rfl
theorem bnd2_s {A1 A2 γ : Type} (a : A1) (b : A2) (K : A1 → A2 → Option γ) : bnd2 (some (a, b)) K = K a b := rfl
theorem bnd3_s {A1 A2 A3 γ : Type} (a : A1) (b : A2) (d : A3) (K : A1 → A2 → A3 → Option γ) : bnd3 (some (a, b, d)) K = K a b d := rfl
theorem fuel_gt (n : Nat) (h : n < 4096) : n < FUEL := h
theorem nle_lit {i N : Nat} (h : i < N) (hN : N < 2147483648) : ¬ nI N ≤ nI i := nI_ge h hN
def sR (j : Nat) : Option Int32 := if j = 0 then some 0 else if j = 1 then some 4 else if j = 2 then some 0 else if j = 3 then some 0 else if j = 4 then some (-2) else if j = 5 then some 63 else if j = 7 then some 0 else if j = 8 then some 0 else if j = 9 then some 0 else none
theorem sR_hi {j : Nat} (h : 10 ≤ j) : sR j = none := by
  unfold sR
  rw [if_neg (by omega), if_neg (by omega), if_neg (by omega), if_neg (by omega), if_neg (by omega), if_neg (by omega), if_neg (by omega), if_neg (by omega), if_neg (by omega)]
theorem new_unk (x : Nat) (C : Mem) : ∃ C1 C2, fX3_becomeNew x C = some C1 ∧ fX3_becomeUnknown x C1 = some C2 ∧ ∀ c j, C2 c j = if c = x then (sR j).getD (C c j) else C c j := by
  refine ⟨_, _, rfl, rfl, fun c j => ?_⟩
  by_cases hc : c = x
  · subst hc
    rw [if_pos rfl]
    simp only [up2_if, true_and]
    by_cases h : 10 ≤ j
    · rw [sR_hi h]
      rw [if_neg (by omega), if_neg (by omega), if_neg (by omega), if_neg (by omega), if_neg (by omega), if_neg (by omega), if_neg (by omega), if_neg (by omega), if_neg (by omega)]
      rfl
    · rcases (show j = 0 ∨ j = 1 ∨ j = 2 ∨ j = 3 ∨ j = 4 ∨ j = 5 ∨ j = 6 ∨ j = 7 ∨ j = 8 ∨ j = 9 by omega) with e | e | e | e | e | e | e | e | e | e <;> subst e <;> rfl
  · rw [if_neg hc]
    simp only [up2_if, hc, false_and, if_false]
theorem fill_L (x : Nat) (v : Int32) : ∀ m i C, i + m = 4 → ∀ n, m < n → ∃ C', fJ7_fill_53178_L5 n x v (nI i) (Int32.ofNat 4) C = some C' ∧ ∀ c j, C' c j = if c = x ∧ i ≤ j ∧ j < 4 then v else C c j := by
  intro m
  induction m with
  | zero =>
    intro i C hi n hn
    obtain ⟨n, rfl⟩ : ∃ k, n = k + 1 := ⟨n - 1, by omega⟩
    rw [fJ7_fill_53178_L5, if_pos (show Int32.ofNat 4 ≤ nI i from nI_le (a := 4) (by omega) (by omega))]
    refine ⟨C, rfl, fun c j => ?_⟩
    rw [if_neg (by omega)]
  | succ m ih =>
    intro i C hi n hn
    obtain ⟨n, rfl⟩ : ∃ k, n = k + 1 := ⟨n - 1, by omega⟩
    rw [fJ7_fill_53178_L5, if_neg (show ¬ Int32.ofNat 4 ≤ nI i from nI_ge (b := 4) (by omega) (by omega)), ix_in (vp4 (by omega)), nI_cl (by omega)]
    rw [show (nI i + 1 : Int32) = nI (i + 1) from nI_1 i]
    obtain ⟨C', e, h⟩ := ih (i + 1) (up2 C x i v) (by omega) n (by omega)
    refine ⟨C', e, fun c j => ?_⟩
    rw [h, up2_if]
    by_cases h1 : c = x
    · by_cases h2 : j = i
      · rw [if_neg (by omega), if_pos ⟨h1, h2⟩, if_pos (by omega)]
      · by_cases h3 : i ≤ j ∧ j < 4
        · rw [if_pos (by omega), if_pos (by omega)]
        · rw [if_neg (by omega), if_neg (by omega), if_neg (by omega)]
    · rw [if_neg (by omega), if_neg (by omega), if_neg (by omega)]
theorem fill_ok (x : Nat) (v : Int32) (C : Mem) : ∃ C', fJ7_fill_53178 x v C = some C' ∧ ∀ c j, C' c j = if c = x ∧ j < 4 then v else C c j := by
  obtain ⟨C', e, h⟩ := fill_L x v 4 0 C rfl FUEL (fuel_gt 4 (by decide))
  refine ⟨C', ?_, fun c j => ?_⟩
  · unfold fJ7_fill_53178
    rw [show (0 : Int32) = nI 0 from rfl, e]
    rfl
  · rw [h]
    by_cases q : c = x ∧ j < 4
    · rw [if_pos (by omega), if_pos q]
    · rw [if_neg (by omega), if_neg q]
theorem anew_L53 : ∀ m i C, i + m = 6 → ∀ n, m < n → ∃ C', fX2_startAnew_L53 n (nI i) C = some C' ∧ ∀ c j, C' c j = if 11 + i ≤ c ∧ c < 17 then (sR j).getD (C c j) else if 4 + i ≤ c ∧ c < 10 ∧ j < 4 then 20 else C c j := by
  intro m
  induction m with
  | zero =>
    intro i C hi n hn
    obtain ⟨n, rfl⟩ : ∃ k, n = k + 1 := ⟨n - 1, by omega⟩
    rw [fX2_startAnew_L53, if_pos (show (6 : Int32) ≤ nI i from nI_le (a := 6) (by omega) (by omega))]
    exact ⟨C, rfl, fun c j => by rw [if_neg (by omega), if_neg (by omega)]⟩
  | succ m ih =>
    intro i C hi n hn
    obtain ⟨n, rfl⟩ : ∃ k, n = k + 1 := ⟨n - 1, by omega⟩
    obtain ⟨C1, C2, e1, e2, h2⟩ := new_unk (11 + i) C
    obtain ⟨C3, e3, h3⟩ := fill_ok (4 + i) 20 C2
    obtain ⟨C', e, h⟩ := ih (i + 1) C3 (by omega) n (by omega)
    refine ⟨C', ?_, fun c j => ?_⟩
    · rw [fX2_startAnew_L53, if_neg (show ¬ (6 : Int32) ≤ nI i from nI_ge (b := 6) (by omega) (by omega)), ix_in (vp6 (by omega)), nI_cl (by omega), e1, bnd1_s, e2, bnd1_s, e3, bnd1_s, nI_1 i]
      exact e
    · rw [h, h3, h2]
      by_cases q1 : c = 11 + i
      · rw [if_neg (by omega), if_neg (by omega), if_neg (by omega), if_pos q1, if_pos (by omega)]
      · by_cases q2 : 11 + i ≤ c ∧ c < 17
        · rw [if_pos (by omega), if_neg (by omega), if_neg q1, if_pos q2]
        · rw [if_neg (by omega), if_neg q2]
          by_cases q3 : 4 + i ≤ c ∧ c < 10 ∧ j < 4
          · rw [if_pos q3]
            by_cases q4 : c = 4 + i
            · rw [if_neg (by omega), if_pos (by omega)]
            · rw [if_pos (by omega)]
          · rw [if_neg (by omega), if_neg (by omega), if_neg q1, if_neg q3]
theorem gnew_ok (x : Nat) (C : Mem) : ∃ C1, fX1_becomeNew x C = some C1 ∧ ∀ c j, C1 c j = if c = x ∧ j < 6 then (if j = 1 then 10 else 0) else C c j := by
  refine ⟨_, rfl, fun c j => ?_⟩
  by_cases hc : c = x
  · subst hc
    simp only [up2_if, true_and]
    by_cases h : 6 ≤ j
    · rw [if_neg (by omega), if_neg (by omega), if_neg (by omega), if_neg (by omega), if_neg (by omega), if_neg (by omega), if_neg (by omega)]
    · rcases (show j = 0 ∨ j = 1 ∨ j = 2 ∨ j = 3 ∨ j = 4 ∨ j = 5 by omega) with e | e | e | e | e | e <;> subst e <;> rfl
  · simp only [up2_if, hc, false_and, if_false]
theorem anew_L96 : ∀ m i C, i + m = 4 → ∀ n, m < n → ∃ C', fX2_startAnew_L96 n (nI i) C = some C' ∧ ∀ c j, C' c j = if 24 + i ≤ c ∧ c < 28 ∧ j < 6 then (if j = 1 then 10 else 0) else C c j := by
  intro m
  induction m with
  | zero =>
    intro i C hi n hn
    obtain ⟨n, rfl⟩ : ∃ k, n = k + 1 := ⟨n - 1, by omega⟩
    rw [fX2_startAnew_L96, if_pos (show (4 : Int32) ≤ nI i from nI_le (a := 4) (by omega) (by omega))]
    exact ⟨C, rfl, fun c j => by rw [if_neg (by omega)]⟩
  | succ m ih =>
    intro i C hi n hn
    obtain ⟨n, rfl⟩ : ∃ k, n = k + 1 := ⟨n - 1, by omega⟩
    obtain ⟨C1, e1, h1⟩ := gnew_ok (24 + i) C
    obtain ⟨C', e, h⟩ := ih (i + 1) C1 (by omega) n (by omega)
    refine ⟨C', ?_, fun c j => ?_⟩
    · rw [fX2_startAnew_L96, if_neg (show ¬ (4 : Int32) ≤ nI i from nI_ge (b := 4) (by omega) (by omega)), ix_in (vp4 (by omega)), nI_cl (by omega), e1]
      show fX2_startAnew_L96 n (nI i + 1) C1 = _
      rw [nI_1 i]; exact e
    · rw [h, h1]
      by_cases q1 : 24 + i ≤ c ∧ c < 28 ∧ j < 6
      · rw [if_pos q1]
        by_cases q2 : c = 24 + i
        · rw [if_neg (by omega), if_pos (by omega)]
        · rw [if_pos (by omega)]
      · rw [if_neg (by omega), if_neg (by omega), if_neg q1]
def cRs (c j : Nat) (old : Int32) : Int32 :=
  if 24 ≤ c ∧ c < 28 ∧ j < 6 then (if j = 1 then 10 else 0)
  else if 11 ≤ c ∧ c < 17 then (sR j).getD old
  else if 4 ≤ c ∧ c < 10 ∧ j < 4 then 20
  else if (c = 1 ∧ (j = 3 ∨ (10 ≤ j ∧ j < 16))) ∨ (c = 28 ∧ j = 5) ∨ (c = 34 ∧ j = 4) then 0 else old
theorem anew_ok (C : Mem) : ∃ C', fX2_startAnew C = some C' ∧ ∀ c j, C' c j = cRs c j (C c j) := by
  unfold fX2_startAnew
  dsimp only [wr]
  generalize hC1 : up2 (up2 (up2 (up2 (up2 (up2 (up2 (up2 (up2 C 1 3 0) 28 5 0) 34 4 0) 1 10 0) 1 11 0) 1 12 0) 1 13 0) 1 14 0) 1 15 0 = C1
  have h1 : ∀ c j, C1 c j = if (c = 1 ∧ (j = 3 ∨ (10 ≤ j ∧ j < 16))) ∨ (c = 28 ∧ j = 5) ∨ (c = 34 ∧ j = 4) then 0 else C c j := by
    intro c j
    rw [← hC1]
    simp only [up2_if]
    by_cases q : (c = 1 ∧ (j = 3 ∨ (10 ≤ j ∧ j < 16))) ∨ (c = 28 ∧ j = 5) ∨ (c = 34 ∧ j = 4)
    · rw [if_pos q]
      repeat' split
      all_goals first | rfl | omega
    · rw [if_neg q, if_neg (by omega), if_neg (by omega), if_neg (by omega), if_neg (by omega), if_neg (by omega), if_neg (by omega), if_neg (by omega), if_neg (by omega), if_neg (by omega)]
  obtain ⟨C2, e2, h2⟩ := anew_L53 6 0 C1 rfl FUEL (fuel_gt 6 (by decide))
  obtain ⟨C3, e3, h3⟩ := anew_L96 4 0 C2 rfl FUEL (fuel_gt 4 (by decide))
  rw [show (0 : Int32) = nI 0 from rfl, e2, bnd1_s, e3, bnd1_s]
  refine ⟨C3, rfl, fun c j => ?_⟩
  rw [h3, h2, h1]
  unfold cRs
  by_cases q1 : 24 ≤ c ∧ c < 28 ∧ j < 6
  · rw [if_pos (by omega), if_pos q1]
  · rw [if_neg (by omega), if_neg q1]
    by_cases q2 : 11 ≤ c ∧ c < 17
    · rw [if_pos (by omega), if_pos q2, if_neg (by omega)]
    · rw [if_neg (by omega), if_neg q2]
theorem beg_L17 : ∀ m i D, i + m = 4 → ∀ n, m < n → ∃ D', fX8_begins_L17 n (nI i) D = some D' ∧ ∀ d k, D' d k = if 2 ≤ d ∧ d < 8 ∧ i ≤ k ∧ k < 4 then (if d = 3 then 10 else 0) else D d k := by
  intro m
  induction m with
  | zero =>
    intro i D hi n hn
    obtain ⟨n, rfl⟩ : ∃ k, n = k + 1 := ⟨n - 1, by omega⟩
    rw [fX8_begins_L17, if_pos (show (4 : Int32) ≤ nI i from nI_le (a := 4) (by omega) (by omega))]
    exact ⟨D, rfl, fun c j => by rw [if_neg (by omega)]⟩
  | succ m ih =>
    intro i D hi n hn
    obtain ⟨n, rfl⟩ : ∃ k, n = k + 1 := ⟨n - 1, by omega⟩
    rw [fX8_begins_L17, if_neg (show ¬ (4 : Int32) ≤ nI i from nI_ge (b := 4) (by omega) (by omega)), ix_in (vp4 (by omega)), nI_cl (by omega)]
    dsimp only [wr]
    rw [show (nI i + 1 : Int32) = nI (i + 1) from nI_1 i]
    obtain ⟨D', e, h⟩ := ih (i + 1) _ (by omega) n (by omega)
    refine ⟨D', e, fun d k => ?_⟩
    rw [h]
    simp only [up2_if]
    by_cases q1 : 2 ≤ d ∧ d < 8 ∧ i ≤ k ∧ k < 4
    · rw [if_pos q1]
      by_cases q2 : k = i
      · rw [if_neg (by omega)]
        repeat' split
        all_goals first | rfl | omega
      · rw [if_pos (by omega)]
    · rw [if_neg (by omega), if_neg q1]
      rw [if_neg (by omega), if_neg (by omega), if_neg (by omega), if_neg (by omega), if_neg (by omega), if_neg (by omega)]
theorem beg_L73 : ∀ m i D, i + m = 24 → ∀ n, m < n → ∃ D', fX8_begins_L73 n (nI i) D = some D' ∧ ∀ d k, D' d k = if d = 8 ∧ i ≤ k ∧ k < 24 then 20 else D d k := by
  intro m
  induction m with
  | zero =>
    intro i D hi n hn
    obtain ⟨n, rfl⟩ : ∃ k, n = k + 1 := ⟨n - 1, by omega⟩
    rw [fX8_begins_L73, if_pos (show (24 : Int32) ≤ nI i from nI_le (a := 24) (by omega) (by omega))]
    exact ⟨D, rfl, fun c j => by rw [if_neg (by omega)]⟩
  | succ m ih =>
    intro i D hi n hn
    obtain ⟨n, rfl⟩ : ∃ k, n = k + 1 := ⟨n - 1, by omega⟩
    rw [fX8_begins_L73, if_neg (show ¬ (24 : Int32) ≤ nI i from nI_ge (b := 24) (by omega) (by omega)), ix_in (vp24 (by omega)), nI_cl (by omega)]
    dsimp only [wr]
    rw [show (nI i + 1 : Int32) = nI (i + 1) from nI_1 i]
    obtain ⟨D', e, h⟩ := ih (i + 1) _ (by omega) n (by omega)
    refine ⟨D', e, fun d k => ?_⟩
    rw [h, up2_if]
    by_cases q1 : d = 8 ∧ i ≤ k ∧ k < 24
    · rw [if_pos q1]
      by_cases q2 : k = i
      · rw [if_neg (by omega), if_pos (by omega)]
      · rw [if_pos (by omega)]
    · rw [if_neg (by omega), if_neg (by omega), if_neg q1]
theorem beg_L143 : ∀ m i D, i + m = 6 → ∀ n, m < n → ∃ D', fX8_begins_L143 n (nI i) D = some D' ∧ ∀ d k, D' d k = if d = 29 ∧ i ≤ k ∧ k < 6 then 0 else D d k := by
  intro m
  induction m with
  | zero =>
    intro i D hi n hn
    obtain ⟨n, rfl⟩ : ∃ k, n = k + 1 := ⟨n - 1, by omega⟩
    rw [fX8_begins_L143, if_pos (show (6 : Int32) ≤ nI i from nI_le (a := 6) (by omega) (by omega))]
    exact ⟨D, rfl, fun c j => by rw [if_neg (by omega)]⟩
  | succ m ih =>
    intro i D hi n hn
    obtain ⟨n, rfl⟩ : ∃ k, n = k + 1 := ⟨n - 1, by omega⟩
    rw [fX8_begins_L143, if_neg (show ¬ (6 : Int32) ≤ nI i from nI_ge (b := 6) (by omega) (by omega)), ix_in (vp6 (by omega)), nI_cl (by omega)]
    dsimp only [wr]
    rw [show (nI i + 1 : Int32) = nI (i + 1) from nI_1 i]
    obtain ⟨D', e, h⟩ := ih (i + 1) _ (by omega) n (by omega)
    refine ⟨D', e, fun d k => ?_⟩
    rw [h, up2_if]
    by_cases q1 : d = 29 ∧ i ≤ k ∧ k < 6
    · rw [if_pos q1]
      by_cases q2 : k = i
      · rw [if_neg (by omega), if_pos (by omega)]
      · rw [if_pos (by omega)]
    · rw [if_neg (by omega), if_neg (by omega), if_neg q1]
def mS (d : Nat) : Option Int32 := if d = 9 then some 0 else if d = 10 then some 4 else if d = 11 then some 0 else if d = 12 then some 0 else if d = 13 then some (-2) else if d = 14 then some 63 else if d = 15 then some 0 else if d = 17 then some 0 else if d = 18 then some 0 else none
theorem mS_hi {d : Nat} (h : d < 9 ∨ 19 ≤ d ∨ d = 16) : mS d = none := by
  unfold mS
  rw [if_neg (by omega), if_neg (by omega), if_neg (by omega), if_neg (by omega), if_neg (by omega), if_neg (by omega), if_neg (by omega), if_neg (by omega), if_neg (by omega)]
theorem beg_one (i : Nat) (D : Mem) (hi : i < 6) : ∃ D', fX8_comesNew (nI i) (up2 (up2 (up2 (up2 D 14 i 63) 15 i 0) 17 i 0) 18 i 0) = some D' ∧ ∀ d k, D' d k = if k = i then (mS d).getD (D d k) else D d k := by
  unfold fX8_comesNew
  rw [ix_in (vp6 hi), nI_cl (by omega)]
  refine ⟨_, rfl, fun d k => ?_⟩
  by_cases hc : k = i
  · subst hc
    rw [if_pos rfl]
    simp only [up2_if, and_true]
    by_cases h : d < 9 ∨ 19 ≤ d ∨ d = 16
    · rw [mS_hi h]
      rw [if_neg (by omega), if_neg (by omega), if_neg (by omega), if_neg (by omega), if_neg (by omega), if_neg (by omega), if_neg (by omega), if_neg (by omega), if_neg (by omega)]
      rfl
    · rcases (show d = 9 ∨ d = 10 ∨ d = 11 ∨ d = 12 ∨ d = 13 ∨ d = 14 ∨ d = 15 ∨ d = 17 ∨ d = 18 by omega) with e | e | e | e | e | e | e | e | e <;> subst e <;> rfl
  · rw [if_neg hc]
    simp only [up2_if, hc, and_false, if_false]
theorem beg_L95 : ∀ m i D, i + m = 6 → ∀ n, m < n → ∃ D', fX8_begins_L95 n (nI i) D = some D' ∧ ∀ d k, D' d k = if i ≤ k ∧ k < 6 then (mS d).getD (D d k) else D d k := by
  intro m
  induction m with
  | zero =>
    intro i D hi n hn
    obtain ⟨n, rfl⟩ : ∃ k, n = k + 1 := ⟨n - 1, by omega⟩
    rw [fX8_begins_L95, if_pos (show (6 : Int32) ≤ nI i from nI_le (a := 6) (by omega) (by omega))]
    exact ⟨D, rfl, fun c j => by rw [if_neg (by omega)]⟩
  | succ m ih =>
    intro i D hi n hn
    obtain ⟨n, rfl⟩ : ∃ k, n = k + 1 := ⟨n - 1, by omega⟩
    obtain ⟨D1, e1, h1⟩ := beg_one i D (by omega)
    obtain ⟨D', e, h⟩ := ih (i + 1) D1 (by omega) n (by omega)
    refine ⟨D', ?_, fun d k => ?_⟩
    · rw [fX8_begins_L95, if_neg (show ¬ (6 : Int32) ≤ nI i from nI_ge (b := 6) (by omega) (by omega)), ix_in (vp6 (by omega)), nI_cl (by omega)]
      dsimp only [wr]
      rw [e1]
      show fX8_begins_L95 n (nI i + 1) D1 = _
      rw [nI_1 i]; exact e
    · rw [h, h1]
      by_cases q1 : k = i
      · rw [if_neg (by omega), if_pos q1, if_pos (by omega)]
      · by_cases q2 : i ≤ k ∧ k < 6
        · rw [if_pos (by omega), if_neg q1, if_pos q2]
        · rw [if_neg (by omega), if_neg q1, if_neg q2]
def mRs (d k : Nat) (old : Int32) : Int32 :=
  if d = 29 ∧ k < 6 then 0
  else if 9 ≤ d ∧ d < 19 ∧ k < 6 then (mS d).getD old
  else if d = 8 ∧ k < 24 then 20
  else if 2 ≤ d ∧ d < 8 ∧ k < 4 then (if d = 3 then 10 else 0)
  else if d = 0 ∧ (k = 4 ∨ k = 22 ∨ k = 28) then 0 else old
theorem beg_ok (D : Mem) : ∃ D', fX8_begins D = some D' ∧ ∀ d k, D' d k = mRs d k (D d k) := by
  unfold fX8_begins
  dsimp only [wr]
  generalize hD1 : up2 (up2 (up2 D 0 4 0) 0 22 0) 0 28 0 = D1
  have h1 : ∀ d k, D1 d k = if d = 0 ∧ (k = 4 ∨ k = 22 ∨ k = 28) then 0 else D d k := by
    intro c j
    rw [← hD1]
    simp only [up2_if]
    repeat' split
    all_goals first | rfl | omega
  obtain ⟨D2, e2, h2⟩ := beg_L17 4 0 D1 rfl FUEL (fuel_gt 4 (by decide))
  obtain ⟨D3, e3, h3⟩ := beg_L73 24 0 D2 rfl FUEL (fuel_gt 24 (by decide))
  obtain ⟨D4, e4, h4⟩ := beg_L95 6 0 D3 rfl FUEL (fuel_gt 6 (by decide))
  obtain ⟨D5, e5, h5⟩ := beg_L143 6 0 D4 rfl FUEL (fuel_gt 6 (by decide))
  rw [show (0 : Int32) = nI 0 from rfl, e2, bnd1_s, e3, bnd1_s, e4, bnd1_s, e5, bnd1_s]
  refine ⟨D5, rfl, fun d k => ?_⟩
  rw [h5, h4, h3, h2, h1]
  unfold mRs
  by_cases q1 : d = 29 ∧ k < 6
  · rw [if_pos (by omega), if_pos q1]
  · rw [if_neg (by omega), if_neg q1]
    by_cases q2 : 9 ≤ d ∧ d < 19 ∧ k < 6
    · rw [if_pos (by omega), if_pos q2, if_neg (by omega), if_neg (by omega), if_neg (by omega)]
    · rw [if_neg q2]
      have e9 : (if 0 ≤ k ∧ k < 6 then (mS d).getD (if d = 8 ∧ 0 ≤ k ∧ k < 24 then 20 else if 2 ≤ d ∧ d < 8 ∧ 0 ≤ k ∧ k < 4 then (if d = 3 then 10 else 0) else if d = 0 ∧ (k = 4 ∨ k = 22 ∨ k = 28) then 0 else D d k) else (if d = 8 ∧ 0 ≤ k ∧ k < 24 then 20 else if 2 ≤ d ∧ d < 8 ∧ 0 ≤ k ∧ k < 4 then (if d = 3 then 10 else 0) else if d = 0 ∧ (k = 4 ∨ k = 22 ∨ k = 28) then 0 else D d k)) = (if d = 8 ∧ 0 ≤ k ∧ k < 24 then 20 else if 2 ≤ d ∧ d < 8 ∧ 0 ≤ k ∧ k < 4 then (if d = 3 then 10 else 0) else if d = 0 ∧ (k = 4 ∨ k = 22 ∨ k = 28) then 0 else D d k) := by
        by_cases q : 0 ≤ k ∧ k < 6
        · rw [if_pos q, mS_hi (by omega)]; rfl
        · rw [if_neg q]
      rw [e9]
      simp only [Nat.zero_le, true_and]
theorem Rs_eq {d k c j : Nat} (hp : pos d k = some (c, j)) (v : Int32) : cRs c j v = mRs d k v := by
  have hp0 := hp
  unfold pos at hp
  split at hp
  · subst d
    repeat' split at hp
    all_goals first | (subst k; cases hp; rfl) | cases hp
  · split at hp
    · subst d
      split at hp
      · cases hp
        unfold cRs mRs
        rw [if_neg (by omega), if_neg (by omega), if_neg (by omega), if_neg (by omega), if_neg (by omega), if_neg (by omega), if_neg (by omega), if_neg (by omega), if_neg (by omega)]
      · cases hp
    · split at hp
      · split at hp
        · cases hp
          unfold cRs mRs
          rw [if_pos (by omega)]
          by_cases q : d = 3
          · rw [if_pos (show d - 2 = 1 by omega), if_neg (by omega), if_neg (by omega), if_neg (by omega), if_pos (by omega), if_pos q]
          · rw [if_neg (show ¬ d - 2 = 1 by omega), if_neg (by omega), if_neg (by omega), if_neg (by omega), if_pos (by omega), if_neg q]
        · cases hp
      · split at hp
        · split at hp
          · cases hp
            unfold cRs mRs
            rw [if_neg (by omega), if_neg (by omega), if_pos (by omega), if_neg (by omega), if_neg (by omega), if_pos (by omega)]
          · cases hp
        · split at hp
          · split at hp
            · cases hp
              unfold cRs mRs
              rw [if_neg (by omega), if_neg (by omega), if_neg (by omega), if_neg (by omega), if_neg (by omega)]
              subst d
              by_cases q : k < 6
              · rw [if_pos (by omega)]; rfl
              · rw [if_neg (by omega), if_neg (by omega), if_neg (by omega), if_neg (by omega)]
            · cases hp
          · split at hp
            · split at hp
              · cases hp
                unfold cRs mRs
                rw [if_neg (by omega), if_pos (by omega), if_neg (by omega), if_pos (by omega)]
                rcases (show d = 9 ∨ d = 10 ∨ d = 11 ∨ d = 12 ∨ d = 13 ∨ d = 14 ∨ d = 15 ∨ d = 17 ∨ d = 18 by omega) with e | e | e | e | e | e | e | e | e <;> subst e <;> rfl
              · cases hp
            · split at hp
              · split at hp
                · cases hp
                  have hcc : 29 ≤ ccel d ∧ ccel d ≤ 33 := by
                    unfold ccel
                    repeat' split
                    all_goals omega
                  unfold cRs mRs
                  rw [if_neg (by omega), if_neg (by omega), if_neg (by omega), if_neg (by omega), if_neg (by omega), if_neg (by omega), if_neg (by omega), if_neg (by omega), if_neg (by omega)]
                · cases hp
              · split at hp
                · split at hp
                  · cases hp
                    unfold cRs mRs
                    rw [if_neg (by omega), if_neg (by omega), if_neg (by omega), if_pos (by omega), if_pos (by omega)]
                  · cases hp
                · split at hp
                  · split at hp
                    · cases hp
                      unfold cRs mRs
                      rw [if_neg (by omega), if_neg (by omega), if_neg (by omega), if_neg (by omega), if_neg (by omega), if_neg (by omega), if_neg (by omega), if_neg (by omega), if_neg (by omega)]
                    · cases hp
                  · cases hp
theorem mRs_ok {d k : Nat} {v : Int32} (h : okv d k v) : okv d k (mRs d k v) := by
  unfold mRs
  by_cases q1 : d = 29 ∧ k < 6
  · rw [if_pos q1, q1.1]; simp [okv]
  · rw [if_neg q1]
    by_cases q2 : 9 ≤ d ∧ d < 19 ∧ k < 6
    · rw [if_pos q2]
      rcases (show d = 9 ∨ d = 10 ∨ d = 11 ∨ d = 12 ∨ d = 13 ∨ d = 14 ∨ d = 15 ∨ d = 16 ∨ d = 17 ∨ d = 18 by omega) with e | e | e | e | e | e | e | e | e | e <;> subst e
      · exact ⟨0, by decide, rfl⟩
      · exact ⟨4, by decide, rfl⟩
      · exact ⟨0, by decide, rfl⟩
      · exact ⟨0, by decide, rfl⟩
      · exact Or.inl rfl
      · exact ⟨63, by decide, rfl⟩
      · exact ⟨0, by decide, rfl⟩
      · exact h
      · exact fun q => by cases q
      · exact fun q => by cases q
    · rw [if_neg q2]
      by_cases q3 : d = 8 ∧ k < 24
      · rw [if_pos q3, q3.1]; simp [okv]
      · rw [if_neg q3]
        by_cases q4 : 2 ≤ d ∧ d < 8 ∧ k < 4
        · exact okT (h12 := by omega) (by omega) (by omega) (by omega) (by omega) (by omega) (by omega) (by omega) (by omega) (by omega) (by omega) (by omega) (by omega)
        · rw [if_neg q4]
          by_cases q5 : d = 0 ∧ (k = 4 ∨ k = 22 ∨ k = 28)
          · rw [if_pos q5, q5.1]
            unfold okv
            rw [if_pos rfl]
            intro e; omega
          · rw [if_neg q5]; exact h
/-- behind startAnew and begins, whatever was on its way or open -/
theorem lr_anew {C D : Mem} (hR : Rel C D) (hO : Okv D) {ns g : Nat} (hn : D 0 1 = nI ns ∧ 1 ≤ ns ∧ ns ≤ 6) (hg : D 0 2 = nI g ∧ 1 ≤ g ∧ g ≤ 4) : ∃ C' D', fX2_startAnew C = some C' ∧ fX8_begins D = some D' ∧ Iz ns g 0 0 0 C' D' := by
  obtain ⟨C', e1, h1⟩ := anew_ok C
  obtain ⟨D', e2, h2⟩ := beg_ok D
  refine ⟨C', D', e1, e2, ?_, ?_, ?_, ?_, ?_, ?_⟩
  · intro d k c j hp
    rw [h1, h2, hR d k c j hp]
    exact Rs_eq hp _
  · intro d k
    rw [h2]; exact mRs_ok (hO d k)
  · rw [h2]; exact hn
  · rw [h2]; exact hg
  · refine ⟨by rw [h2]; rfl, by omega, fun k hk => by omega⟩
  · refine ⟨by omega, by omega, by rw [h1]; rfl, by rw [h2]; rfl, fun w hw => by omega, fun w1 w2 h3 h4 => by omega⟩
