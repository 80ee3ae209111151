/-! copies come to the house -/
theorem fb_holes : ∀ (m n : Nat) (f : Nat → Nat), (∀ i, i < n → f i < m) → (∀ i j, i < j → j < n → f i ≠ f j) → n ≤ m := by
  intro m
  induction m with
  | zero =>
    intro n f h1 _
    rcases Nat.eq_zero_or_pos n with h | h
    · omega
    · exact absurd (h1 0 h) (Nat.not_lt_zero _)
  | succ m ih =>
    intro n f h1 h2
    by_cases hx : ∃ i, i < n ∧ f i = m
    · obtain ⟨a, ha, hfa⟩ := hx
      have hg := ih (n - 1) (fun i => if i < a then f i else f (i + 1)) (by
        intro i hi
        by_cases q : i < a
        · simp only [if_pos q]
          have b1 := h1 i (by omega)
          have b2 := h2 i a q ha
          omega
        · simp only [if_neg q]
          have b1 := h1 (i + 1) (by omega)
          have b2 := h2 a (i + 1) (by omega) (by omega)
          omega) (by
        intro i j hij hj
        by_cases q : i < a
        · by_cases r : j < a
          · simp only [if_pos q, if_pos r]
            exact h2 i j hij (by omega)
          · simp only [if_pos q, if_neg r]
            exact h2 i (j + 1) (by omega) (by omega)
        · have r : ¬ j < a := by omega
          simp only [if_neg q, if_neg r]
          exact h2 (i + 1) (j + 1) (by omega) (by omega))
      omega
    · have hg := ih n f (fun i hi => by
        have b1 := h1 i hi
        have b2 : f i ≠ m := fun e => hx ⟨i, hi, e⟩
        omega) h2
      omega
/-- two of them in one place -/
theorem Iz.reWin {ns g cn s W s' W' : Nat} {C D C' D' : Mem} (h : Iz ns g cn s W C D) (hC : ∀ c k, c < 34 ∨ 38 < c → C' c k = C c k) (hD : ∀ d k, (d < 24 ∨ 28 < d) → ¬ (d = 0 ∧ k = 28) → D' d k = D d k) (hw : WinO g s' W' C' D') : Iz ns g cn s' W' C' D' := by
  obtain ⟨h1, h2, h3, h4, h5, h6⟩ := h
  refine ⟨fun d k c j hp => ?_, fun d k => ?_, ?_, ?_, ?_, hw⟩
  · have hn := pos_nd hp
    have hc := (pos_ok hp).2
    rw [hC c j (by omega), hD d k (by omega) (fun e => by rw [e.1, e.2] at hp; cases hp)]
    exact h1 d k c j hp
  · by_cases q : (d < 24 ∨ 28 < d) ∧ ¬ (d = 0 ∧ k = 28)
    · rw [hD d k q.1 q.2]; exact h2 d k
    · by_cases e : d = 0
      · subst e
        have : k = 28 := by omega
        subst this
        exact fun z => by cases z
      · exact okT (h12 := by omega) e (by omega) (by omega) (by omega) (by omega) (by omega) (by omega) (by omega) (by omega) (by omega) (by omega) (by omega)
  · rw [hD 0 1 (by omega) (by omega)]; exact h3
  · rw [hD 0 2 (by omega) (by omega)]; exact h4
  · rw [hD 0 22 (by omega) (by omega)]
    refine ⟨h5.1, h5.2.1, fun k hk => ?_⟩
    rw [hD 20 k (by omega) (by omega)]
    exact h5.2.2 k hk
theorem bit_tst : ∀ b, b < 16 → ∀ j, j < 4 → ((jshr (nI b) (nI j) &&& 1) = 1 ↔ b.testBit j = true) := by decide +kernel
theorem bit_or : ∀ b, b < 16 → ∀ j, j < 4 → nI b ||| jshl 1 (nI j) = nI (b ||| 2 ^ j) := by decide +kernel
theorem bit_set : ∀ b, b < 16 → ∀ j, j < 4 → ∀ k, k < 4 → (b ||| 2 ^ j).testBit k = (b.testBit k || decide (k = j)) := by decide +kernel
theorem bit_lt : ∀ g, g < 5 → ∀ b, b < 16 → b < 2 ^ g → ∀ j, j < g → b ||| 2 ^ j < 2 ^ g ∧ 0 < b ||| 2 ^ j := by decide +kernel
theorem search {ns g cn W : Nat} {C D : Mem} (h : Iz ns g cn 0 W C D) (a b : Int32) : ∀ m w, w + m = W → ∀ n, m < n → ∃ r, fX6_find_L2 n a b (nI w) C = some r ∧ fX8_windowOf_L2 n a b (nI w) D = some r ∧ ((r = -1 ∧ ∀ w', w ≤ w' → w' < W → ¬ (D 24 w' = a ∧ D 25 w' = b)) ∨ ∃ w', w' < W ∧ r = nI w') := by
  have hW := h.win.2.1
  intro m
  induction m with
  | zero =>
    intro w hw n hn
    obtain ⟨n, rfl⟩ : ∃ k, n = k + 1 := ⟨n - 1, by omega⟩
    rw [fX6_find_L2, fX8_windowOf_L2, h.win.2.2.1, h.win.2.2.2.1, if_pos (nI_le (by omega) (by omega)), if_pos (nI_le (by omega) (by omega))]
    exact ⟨-1, rfl, rfl, Or.inl ⟨rfl, fun w' _ _ => by omega⟩⟩
  | succ m ih =>
    intro w hw n hn
    obtain ⟨n, rfl⟩ : ∃ k, n = k + 1 := ⟨n - 1, by omega⟩
    have hwk := h.win.2.2.2.2.1 w (by omega)
    rw [Nat.zero_add] at hwk
    rw [fX6_find_L2, fX8_windowOf_L2, h.win.2.2.1, h.win.2.2.2.1, if_neg (nI_ge (by omega) (by omega)), if_neg (nI_ge (by omega) (by omega)), ix_in (vp390 (by omega)), ix_in (vp390 (by omega)), nI_cl (by omega), hwk.1, hwk.2.1, nI_1]
    obtain ⟨r, e1, e2, e3⟩ := ih (w + 1) (by omega) n (by omega)
    by_cases q1 : D 24 w = a
    · by_cases q2 : D 25 w = b
      · rw [if_pos q1, if_pos q1, if_pos q2, if_pos q2]
        exact ⟨nI w, rfl, rfl, Or.inr ⟨w, by omega, rfl⟩⟩
      · rw [if_pos q1, if_pos q1, if_neg q2, if_neg q2]
        refine ⟨r, e1, e2, e3.imp (fun z => ⟨z.1, fun w' h1 h2 => ?_⟩) id⟩
        by_cases e : w' = w
        · subst e; exact fun z => q2 z.2
        · exact z.2 w' (by omega) h2
    · rw [if_neg q1, if_neg q1]
      refine ⟨r, e1, e2, e3.imp (fun z => ⟨z.1, fun w' h1 h2 => ?_⟩) id⟩
      by_cases e : w' = w
      · subst e; exact fun z => q1 z.1
      · exact z.2 w' (by omega) h2
/-- a copy comes to an open window -/
theorem lr_hear {ns g cn W w j : Nat} {C D : Mem} {t : Int32} (h : Iz ns g cn 0 W C D) (hw : w < W) (hj : j < g) (ht : ¬ t < 0) : ∃ D', fX6_hear (nI w) (nI j) t C = some (up2 C 38 (4 * w + j) (jmax (C 38 (4 * w + j)) t)) ∧ fX8_hearsIn (nI w) (nI j) t D = some D' ∧ Iz ns g cn 0 W (up2 C 38 (4 * w + j) (jmax (C 38 (4 * w + j)) t)) D' := by
  have hW := h.win.2.1
  have hg := h.g1
  have hj4 : j < 4 := by omega
  have hwk := h.win.2.2.2.2.1 w (by omega)
  rw [Nat.zero_add] at hwk
  have hwk0 := hwk
  obtain ⟨w1, w2, w3, w4, w5, b, hb, hb0, eb, hH⟩ := hwk
  have hb16 := pow_le16 hg.2 hb
  have e1 : fX6_hear (nI w) (nI j) t C = some (up2 C 38 (4 * w + j) (jmax (C 38 (4 * w + j)) t)) := by
    unfold fX6_hear
    rw [if_neg (nI_pos (by omega)), h.win.2.2.1, if_neg (nI_ge (by omega) (by omega)), n4', ix_in (vp1560 (by omega)), nI_cl (by omega)]
    rfl
  have eM : ∃ M, M = jmax (C 38 (4 * w + j)) t ∧ ¬ M < 0 ∧ fX8_hearsIn (nI w) (nI j) t D = some (up2 (up2 D 28 (4 * w + j) M) 27 w (nI (b ||| 2 ^ j))) := by
    unfold fX8_hearsIn
    rw [ix_in (vp390 (by omega))]
    dsimp only [jn, wr]
    simp only [n4, ix_in (vp1560 (show 4 * w + j < 1560 by omega)), nI_cl (show w < 2147483648 by omega), nI_cl (show 4 * w + j < 2147483648 by omega), up2_nx (show (27 : Nat) ≠ 28 by decide), eb, bit_or b hb16 j hj4]
    obtain ⟨q1, q2⟩ := hH j hj4
    by_cases q : b.testBit j = true
    · obtain ⟨q3, q4⟩ := q1 q
      rw [if_pos ((bit_tst b hb16 j hj4).mpr q), if_neg (show ¬ (1 : Int32) = 0 by decide), q4]
      unfold jmax
      by_cases q5 : D 28 (4 * w + j) ≤ t
      · rw [if_pos q5]
        by_cases q6 : D 28 (4 * w + j) < t
        · rw [if_pos q6]; exact ⟨t, rfl, ht, rfl⟩
        · have e9 : D 28 (4 * w + j) = t := by
            rw [i_eq]; rw [i_le] at q5; rw [i_lt] at q6; omega
          rw [if_neg q6, e9]; exact ⟨t, rfl, ht, rfl⟩
      · rw [if_neg q5, if_neg (fun z => q5 (by rw [i_lt] at z; rw [i_le]; omega))]
        exact ⟨_, rfl, q3, rfl⟩
    · have q' : b.testBit j = false := by simpa using q
      rw [if_neg (fun z => q ((bit_tst b hb16 j hj4).mp z)), if_pos trivial, q2 q']
      unfold jmax
      rw [if_pos (show (-1 : Int32) < t by rw [i_lt] at ht ⊢; rw [show (-1 : Int32).toInt = -1 by decide]; rw [show (0 : Int32).toInt = 0 by decide] at ht; omega)]
      exact ⟨t, rfl, ht, rfl⟩
  obtain ⟨M, hM, hM0, e2⟩ := eM
  refine ⟨_, e1, e2, ?_⟩
  rw [← hM]
  refine h.reWin (fun c k hc => up2_nx (by omega)) (fun d k hd hk => by rw [up2_nx (by omega), up2_nx (by omega)]) ?_
  obtain ⟨z1, z2, z3, z4, z5, z6⟩ := h.win
  refine ⟨z1, z2, by rw [up2_nx (by decide)]; exact z3, by rw [up2_nx (by decide), up2_nx (by decide)]; exact z4, fun w' hw' => ?_, ?_⟩
  · rw [Nat.zero_add]
    by_cases e : w' = w
    · subst e
      refine ⟨?_, ?_, ?_, ?_, ?_, b ||| 2 ^ j, ?_, ?_, ?_, ?_⟩
      · rw [up2_nx (by decide), up2_nx (by decide), up2_nx (by decide)]; exact w1
      · rw [up2_nx (by decide), up2_nx (by decide), up2_nx (by decide)]; exact w2
      · rw [up2_nx (by decide), up2_nx (by decide), up2_nx (by decide)]; exact w3
      · rw [up2_nx (by decide), up2_nx (by decide)]; exact w4
      · rw [up2_nx (by decide), up2_nx (by decide)]; exact w5
      · exact (bit_lt g (by omega) b hb16 hb j hj).1
      · exact (bit_lt g (by omega) b hb16 hb j hj).2
      · exact up2_at _ _ _ _
      · intro k hk
        rw [up2_nx (show (28 : Nat) ≠ 27 by decide), bit_set b hb16 j hj4 k hk]
        by_cases q : k = j
        · subst q
          rw [up2_at, up2_at]
          exact ⟨fun _ => ⟨hM0, rfl⟩, fun z => by simp at z⟩
        · rw [up2_nk (by omega), up2_nk (by omega), decide_eq_false q, Bool.or_false]
          exact hH k hk
    · have hz := z5 w' hw'
      rw [Nat.zero_add] at hz
      obtain ⟨x1, x2, x3, x4, x5, b', x6, x7, x8, x9⟩ := hz
      refine ⟨?_, ?_, ?_, ?_, ?_, b', x6, x7, ?_, ?_⟩
      · rw [up2_nx (by decide), up2_nx (by decide), up2_nx (by decide)]; exact x1
      · rw [up2_nx (by decide), up2_nx (by decide), up2_nx (by decide)]; exact x2
      · rw [up2_nx (by decide), up2_nx (by decide), up2_nx (by decide)]; exact x3
      · rw [up2_nx (by decide), up2_nx (by decide)]; exact x4
      · rw [up2_nx (by decide), up2_nx (by decide)]; exact x5
      · rw [up2_nk e, up2_nx (by decide)]; exact x8
      · intro k hk
        rw [up2_nx (show (28 : Nat) ≠ 27 by decide), up2_nk (by omega), up2_nk (by omega)]
        exact x9 k hk
  · rw [up2_row (by decide), up2_row (by decide), up2_row (by decide), up2_row (by decide)]; exact z6
theorem far_tab : ∀ a, a < 64 → ∀ b, b < 64 → fJ9_floorMod_7cf53 (nI a - nI b) 64 = jirem (nI a - nI b + 64) 64 := by decide +kernel
theorem far_eq {ns g cn s W i : Nat} {C D : Mem} (h : Iz ns g cn s W C D) (hi : i < 6) {key : Int32} (hk : rng 63 key) : fX8_far (nI i) key D = some (fX3_aheadOfLast (11 + i) key C) := by
  unfold fX8_far fX3_aheadOfLast
  rw [ix_in (vp6 hi), nI_cl (by omega), show C (11 + i) 5 = D 14 i from h.snd (d := 14) (by decide) (by decide) (by decide) hi]
  obtain ⟨a, ha, rfl⟩ := hk
  obtain ⟨b, hb, e⟩ : rng 63 (D 14 i) := h.ok 14 i
  rw [e, far_tab a (by omega) b (by omega)]
theorem due_eq {ns g cn s W i : Nat} {C D : Mem} (h : Iz ns g cn s W C D) (hi : i < 6) {key : Int32} (hk : rng 63 key) : fX8_isOn (nI i) key D = some (fX3_isDue (11 + i) key C) := by
  unfold fX8_isOn
  rw [far_eq h hi hk, bnd1_s]
  rfl
