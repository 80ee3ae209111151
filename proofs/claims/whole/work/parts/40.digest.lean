/-! digest -/
section DG
variable {ns g cn W : Nat} {C D : Mem}
theorem of_c (h : Iz ns g cn 0 W C D) {i k : Nat} (hi : i < ns) (hk : k ≤ 7) : fX7_of (nI i) (nI k) C = some (fX3_value (11 + i) (nI k) C, C) := by
  have hns := h.ns1
  have hs : ¬ fX7_isSender (nI i) C = 0 := by
    unfold fX7_isSender
    rw [h.ns_, h.nsI, if_neg (nI_pos (by omega)), if_neg (nI_ge hi (by omega))]
    decide
  unfold fX7_of
  rw [if_neg hs, if_neg (show ¬ nI k < 0 from nI_pos (by omega)), if_pos (show nI k ≤ 7 from nI_le (b := 7) hk (by decide)), ix_in (vp6 (by omega)), nI_cl (by omega)]
theorem at_c (h : Iz ns g cn 0 W C D) {i k : Nat} (hi : i < g) (hk : k ≤ 3) : fX7_at (nI i) (nI k) C = some (fX1_value (24 + i) (nI k) C, C) := by
  have hns := h.g1
  have hs : ¬ fX7_isGate (nI i) C = 0 := by
    unfold fX7_isGate
    rw [h.g_, h.gI, if_neg (nI_pos (by omega)), if_neg (nI_ge hi (by omega))]
    decide
  unfold fX7_at
  rw [if_neg hs, if_neg (show ¬ nI k < 0 from nI_pos (by omega)), if_pos (show nI k ≤ 3 from nI_le (b := 3) hk (by decide)), ix_in (vp4 (by omega)), nI_cl (by omega)]
theorem dg_told (h : Iz ns g cn 0 W C D) : ∀ m k v, k + m = 7 → ∀ n, m < n → ∃ r, fX7_digest_L6 n v (nI k) C = some (r, C) ∧ fX8_digest_L6 n v (nI k) D = some r := by
  intro m
  induction m with
  | zero =>
    intro k v hk n hn
    obtain ⟨n, rfl⟩ : ∃ k, n = k + 1 := ⟨n - 1, by omega⟩
    have : k = 7 := by omega
    subst this
    exact ⟨v, by rw [fX7_digest_L6, if_pos (by decide)], by rw [fX8_digest_L6, if_pos (by decide)]⟩
  | succ m ih =>
    intro k v hk n hn
    obtain ⟨n, rfl⟩ : ∃ k, n = k + 1 := ⟨n - 1, by omega⟩
    obtain ⟨u, e1, e2⟩ := toldBy_eq h (n := k) (by omega) (nI_le (b := 6) (by omega) (by decide))
    obtain ⟨r, r1, r2⟩ := ih (k + 1) (31 * v + u.toInt64) (by omega) n (by omega)
    refine ⟨r, ?_, ?_⟩
    · rw [fX7_digest_L6, if_neg (show ¬ (6 : Int32) < nI k from nI_nlt (a := 6) (by omega) (by decide)), e2, bnd2_s, nI_1]; exact r1
    · rw [fX8_digest_L6, if_neg (show ¬ (7 : Int32) ≤ nI k from nI_ge (b := 7) (by omega) (by decide)), e1, bnd1_s, nI_1]; exact r2
theorem dg_of (h : Iz ns g cn 0 W C D) {i : Nat} (hi : i < ns) : ∀ m k v, k + m = 8 → ∀ n, m < n → ∃ r, fX7_digest_L47 n v (nI i) (nI k) C = some (r, C) ∧ fX8_digest_L44 n v (nI i) (nI k) D = some r := by
  have hns := h.ns1
  intro m
  induction m with
  | zero =>
    intro k v hk n hn
    obtain ⟨n, rfl⟩ : ∃ k, n = k + 1 := ⟨n - 1, by omega⟩
    have : k = 8 := by omega
    subst this
    exact ⟨v, by rw [fX7_digest_L47, if_pos (by decide)], by rw [fX8_digest_L44, if_pos (by decide)]⟩
  | succ m ih =>
    intro k v hk n hn
    obtain ⟨n, rfl⟩ : ∃ k, n = k + 1 := ⟨n - 1, by omega⟩
    obtain ⟨r, r1, r2⟩ := ih (k + 1) (31 * v + (fX3_value (11 + i) (nI k) C).toInt64) (by omega) n (by omega)
    refine ⟨r, ?_, ?_⟩
    · rw [fX7_digest_L47, if_neg (show ¬ (7 : Int32) < nI k from nI_nlt (a := 7) (by omega) (by decide)), of_c h hi (by omega), bnd2_s, nI_1]; exact r1
    · rw [fX8_digest_L44, if_neg (show ¬ (8 : Int32) ≤ nI k from nI_ge (b := 8) (by omega) (by decide)), ofBy_eq h (by omega), bnd1_s, nI_1]; exact r2
theorem dg_ofs (h : Iz ns g cn 0 W C D) : ∀ m i v, i + m = ns → ∀ n, m < n → ∃ r, fX7_digest_L33 n v (nI i) C = some (r, C) ∧ fX8_digest_L33 n v (nI i) D = some r := by
  have hns := h.ns1
  intro m
  induction m with
  | zero =>
    intro i v hk n hn
    obtain ⟨n, rfl⟩ : ∃ k, n = k + 1 := ⟨n - 1, by omega⟩
    have : i = ns := by omega
    subst this
    exact ⟨v, by rw [fX7_digest_L33, h.ns_, h.nsI, if_pos (nI_le (Nat.le_refl _) (by omega))], by rw [fX8_digest_L33, h.nsI, if_pos (nI_le (Nat.le_refl _) (by omega))]⟩
  | succ m ih =>
    intro i v hk n hn
    obtain ⟨n, rfl⟩ : ∃ k, n = k + 1 := ⟨n - 1, by omega⟩
    obtain ⟨u, e1, e2⟩ := dg_of h (i := i) (by omega) 8 0 v (by omega) FUEL (fuel_gt _ (by decide))
    obtain ⟨r, r1, r2⟩ := ih (i + 1) u (by omega) n (by omega)
    refine ⟨r, ?_, ?_⟩
    · rw [fX7_digest_L33, h.ns_, h.nsI, if_neg (nI_ge (by omega) (by omega)), show (0 : Int32) = nI 0 from rfl, e1, bnd2_s, nI_1]; exact r1
    · rw [fX8_digest_L33, h.nsI, if_neg (nI_ge (by omega) (by omega)), show (0 : Int32) = nI 0 from rfl, e2, bnd1_s, nI_1]; exact r2
theorem dg_at (h : Iz ns g cn 0 W C D) {i : Nat} (hi : i < g) : ∀ m k v, k + m = 4 → ∀ n, m < n → ∃ r, fX7_digest_L97 n v (nI i) (nI k) C = some (r, C) ∧ fX8_digest_L91 n v (nI i) (nI k) D = some r := by
  have hns := h.g1
  intro m
  induction m with
  | zero =>
    intro k v hk n hn
    obtain ⟨n, rfl⟩ : ∃ k, n = k + 1 := ⟨n - 1, by omega⟩
    have : k = 4 := by omega
    subst this
    exact ⟨v, by rw [fX7_digest_L97, if_pos (by decide)], by rw [fX8_digest_L91, if_pos (by decide)]⟩
  | succ m ih =>
    intro k v hk n hn
    obtain ⟨n, rfl⟩ : ∃ k, n = k + 1 := ⟨n - 1, by omega⟩
    obtain ⟨r, r1, r2⟩ := ih (k + 1) (31 * v + (fX1_value (24 + i) (nI k) C).toInt64) (by omega) n (by omega)
    refine ⟨r, ?_, ?_⟩
    · rw [fX7_digest_L97, if_neg (show ¬ (3 : Int32) < nI k from nI_nlt (a := 3) (by omega) (by decide)), at_c h hi (by omega), bnd2_s, nI_1]; exact r1
    · rw [fX8_digest_L91, if_neg (show ¬ (4 : Int32) ≤ nI k from nI_ge (b := 4) (by omega) (by decide)), atBy_eq h (by omega), bnd1_s, nI_1]; exact r2
theorem dg_ats (h : Iz ns g cn 0 W C D) : ∀ m i v, i + m = g → ∀ n, m < n → ∃ r, fX7_digest_L83 n v (nI i) C = some (r, C) ∧ fX8_digest_L80 n v (nI i) D = some r := by
  have hns := h.g1
  intro m
  induction m with
  | zero =>
    intro i v hk n hn
    obtain ⟨n, rfl⟩ : ∃ k, n = k + 1 := ⟨n - 1, by omega⟩
    have : i = g := by omega
    subst this
    exact ⟨v, by rw [fX7_digest_L83, h.g_, h.gI, if_pos (nI_le (Nat.le_refl _) (by omega))], by rw [fX8_digest_L80, h.gI, if_pos (nI_le (Nat.le_refl _) (by omega))]⟩
  | succ m ih =>
    intro i v hk n hn
    obtain ⟨n, rfl⟩ : ∃ k, n = k + 1 := ⟨n - 1, by omega⟩
    obtain ⟨u, e1, e2⟩ := dg_at h (i := i) (by omega) 4 0 v (by omega) FUEL (fuel_gt _ (by decide))
    obtain ⟨r, r1, r2⟩ := ih (i + 1) u (by omega) n (by omega)
    refine ⟨r, ?_, ?_⟩
    · rw [fX7_digest_L83, h.g_, h.gI, if_neg (nI_ge (by omega) (by omega)), show (0 : Int32) = nI 0 from rfl, e1, bnd2_s, nI_1]; exact r1
    · rw [fX8_digest_L80, h.gI, if_neg (nI_ge (by omega) (by omega)), show (0 : Int32) = nI 0 from rfl, e2, bnd1_s, nI_1]; exact r2
theorem dg_all (h : Iz ns g cn 0 W C D) : ∀ m k v, k + m = 9 → ∀ n, m < n → ∃ r, fX7_digest_L132 n v (nI k) C = some (r, C) ∧ fX8_digest_L126 n v (nI k) D = some r := by
  intro m
  induction m with
  | zero =>
    intro k v hk n hn
    obtain ⟨n, rfl⟩ : ∃ k, n = k + 1 := ⟨n - 1, by omega⟩
    have : k = 9 := by omega
    subst this
    exact ⟨v, by rw [fX7_digest_L132, if_pos (by decide)], by rw [fX8_digest_L126, if_pos (by decide)]⟩
  | succ m ih =>
    intro k v hk n hn
    obtain ⟨n, rfl⟩ : ∃ k, n = k + 1 := ⟨n - 1, by omega⟩
    obtain ⟨r, r1, r2⟩ := ih (k + 1) (31 * v + (fX2_value (nI k) C).toInt64) (by omega) n (by omega)
    have ec : fX7_all (nI k) C = some (fX2_value (nI k) C, C) := by
      unfold fX7_all
      rw [if_neg (show ¬ nI k < 0 from nI_pos (by omega)), if_pos (show nI k ≤ 8 from nI_le (b := 8) (by omega) (by decide))]
    refine ⟨r, ?_, ?_⟩
    · rw [fX7_digest_L132, if_neg (show ¬ (8 : Int32) < nI k from nI_nlt (a := 8) (by omega) (by decide)), ec, bnd2_s, nI_1]; exact r1
    · rw [fX8_digest_L126, if_neg (show ¬ (9 : Int32) ≤ nI k from nI_ge (b := 9) (by omega) (by decide)), allBy_eq h (by omega), bnd1_s, nI_1]; exact r2
end DG
theorem lr_digest {C D : Mem} (h : Ix C D) : ∃ r, fX7_digest C = some (r, C) ∧ fX8_digest D = some r := by
  obtain ⟨ns, g, cn, W, h⟩ := h
  have hns := h.ns1
  have hg := h.g1
  obtain ⟨r1, a1, b1⟩ := dg_told h 7 0 2131 (by omega) FUEL (fuel_gt _ (by decide))
  obtain ⟨r2, a2, b2⟩ := dg_ofs h ns 0 r1 (by omega) FUEL (fuel_gt _ (by omega))
  obtain ⟨r3, a3, b3⟩ := dg_ats h g 0 r2 (by omega) FUEL (fuel_gt _ (by omega))
  obtain ⟨r4, a4, b4⟩ := dg_all h 9 0 r3 (by omega) FUEL (fuel_gt _ (by decide))
  refine ⟨r4, ?_, ?_⟩
  · unfold fX7_digest
    rw [show (0 : Int32) = nI 0 from rfl, a1, bnd2_s, a2, bnd2_s, a3, bnd2_s, a4, bnd2_s]
  · unfold fX8_digest
    rw [show (0 : Int32) = nI 0 from rfl, b1, bnd1_s, b2, bnd1_s, b3, bnd1_s, b4, bnd1_s]
