/-! sends, again, window -/
theorem full_iff {ns g cn s W : Nat} {C D : Mem} (h : Iz ns g cn s W C D) : (fX2_isFull C = 0 ↔ ¬ fX8_isRoom D = 0) ∧ (fX2_isFull C = 0 → cn ≤ 56) := by
  unfold fX2_isFull fX8_isRoom
  have hc := h.cn1
  rw [h.cn_, h.cnI]
  by_cases q : cn ≤ 56
  · have q1 : nI cn ≤ (56 : Int32) := nI_le (b := 56) q (by decide)
    rw [if_pos q1, if_neg (Int32.not_lt.mpr q1)]
    exact ⟨⟨fun _ => by decide, fun _ => rfl⟩, fun _ => q⟩
  · have q1 : ¬ nI cn ≤ (56 : Int32) := nI_ge (a := 56) (b := cn) (by omega) (by omega)
    rw [if_neg q1, if_pos (Int32.not_le.mp q1)]
    exact ⟨⟨fun z => absurd z (by decide), fun z => absurd rfl z⟩, fun z => absurd z (by decide)⟩
theorem rem64 {c : Nat} (h : c ≤ 63) : rng 63 (jirem (nI c + 1) 64) := by
  rw [nI_1]
  refine ⟨(c + 1) % 64, by omega, ?_⟩
  exact pk_rem (a := c + 1) (d := 64) (by omega) (by decide) (by decide)
theorem Iz.key {ns g cn s W : Nat} {C D : Mem} (h : Iz ns g cn s W C D) (i : Nat) : D 13 i = -2 ∨ D 13 i = -1 ∨ rng 63 (D 13 i) := h.ok 13 i
theorem lr_next {ns g cn s W i : Nat} {C D : Mem} (h : Iz ns g cn s W C D) (hi : i < 6) (hc : cn ≤ 56) : LR (fX2_sendNext (nI i) C) (fX8_sendsNow (nI i) D) (fun x y => x.1 = y.1 ∧ ∃ cn', Iz ns g cn' s W x.2 y.2) := by
  unfold fX2_sendNext fX8_sendsNow fX3_nextLetter
  rw [ix_in (vp6 hi), ix_in (vp6 hi), nI_cl (by omega)]
  dsimp only [jn, wr]
  obtain ⟨q, hq, e⟩ : rng 1 (D 12 i) := h.ok 12 i
  have eC : C (11 + i) 3 = D 12 i := h.snd (d := 12) (by decide) (by decide) (by decide) hi
  have eK : C (11 + i) 2 = D 11 i := h.snd (d := 11) (by decide) (by decide) (by decide) hi
  rw [eC, eK]
  rcases (show q = 0 ∨ q = 1 by omega) with z | z <;> subst z
  · rw [if_pos (show D 12 i = 0 from e), if_neg (show ¬ D 12 i = 1 by rw [e]; decide), bnd2_s, up2_at]
    rw [if_neg (show ¬ up2 D 13 i (-1) 12 i = 1 by rw [up2_nx (by decide), e]; decide), up2_self]
    have k1 : Iz ns g cn s W (up2 C (11 + i) 4 (-1)) (up2 D 13 i (-1)) := h.wr1 (p_snd (d := 13) (by decide) (by decide) (by decide) hi) (by decide) (by decide) (Or.inr (Or.inl rfl))
    exact LR.b22 (lr_goes k1 hi (Or.inl rfl) hc) (fun x1 x2 y1 y2 r => LR.ret r)
  · rw [if_neg (show ¬ D 12 i = 0 by rw [e]; decide), if_pos (show D 12 i = 1 from e), bnd2_s, up2_nk (show (4 : Nat) ≠ 2 by decide), up2_at]
    rw [if_pos (show up2 D 13 i (D 11 i) 12 i = 1 by rw [up2_nx (by decide), e]; rfl), up2_nx (show (11 : Nat) ≠ 13 by decide), up2_nk (show (2 : Nat) ≠ 4 by decide), eK]
    obtain ⟨c, hc63, ec⟩ : rng 63 (D 11 i) := h.ok 11 i
    have k1 : Iz ns g cn s W (up2 C (11 + i) 4 (D 11 i)) (up2 D 13 i (D 11 i)) := h.wr1 (p_snd (d := 13) (by decide) (by decide) (by decide) hi) (by decide) (by decide) (Or.inr (Or.inr ⟨c, hc63, ec⟩))
    have k2 : Iz ns g cn s W (up2 (up2 C (11 + i) 4 (D 11 i)) (11 + i) 2 (jirem (D 11 i + 1) 64)) (up2 (up2 D 13 i (D 11 i)) 11 i (jirem (D 11 i + 1) 64)) := k1.wr1 (p_snd (d := 11) (by decide) (by decide) (by decide) hi) (by decide) (by decide) (by rw [ec]; exact rem64 hc63)
    exact LR.b22 (lr_goes k2 hi (Or.inr ⟨c, hc63, ec⟩) hc) (fun x1 x2 y1 y2 r => LR.ret r)
theorem ixof {ns g W : Nat} {C D : Mem} (h : ∃ cn', Iz ns g cn' 0 W C D) : Ix C D := by
  obtain ⟨cn', h⟩ := h; exact h.ix
theorem lr_sends {C D : Mem} (h : Ix C D) (v1 : Int32) : LR (fX7_sends v1 C) (fX8_sends v1 D) Rz := by
  have hb := lr_bad h
  have hfu := lr_full h
  obtain ⟨ns, g, cn, W, h⟩ := h
  unfold fX7_sends fX8_sends
  rw [h.isS]
  refine LR.ite Iff.rfl (fun _ => hb) (fun hs => ?_)
  obtain ⟨i, hi, rfl⟩ := h.sIn hs
  have hns := h.ns1
  obtain ⟨f1, f2⟩ := full_iff h
  by_cases q : fX2_isFull C = 0
  · rw [if_pos q, if_neg (f1.mp q)]
    exact LR.b22 (lr_next h (i := i) (by omega) (f2 q)) (fun x1 x2 y1 y2 r => LR.ret (Q := Rz) ⟨r.1, ixof r.2⟩)
  · rw [if_neg q, if_pos (Classical.not_not.mp (fun z => q (f1.mpr z)))]; exact hfu
theorem sent_iff {ns g cn s W i : Nat} {C D : Mem} (h : Iz ns g cn s W C D) (hi : i < 6) : fX3_hasSent (11 + i) C = 0 ↔ D 13 i = -2 := by
  unfold fX3_hasSent
  rw [show C (11 + i) 4 = D 13 i from h.snd (d := 13) (by decide) (by decide) (by decide) hi]
  by_cases q : D 13 i = -2
  · rw [if_pos q]; exact ⟨fun _ => q, fun _ => rfl⟩
  · rw [if_neg q]; exact ⟨fun z => absurd z (by decide), fun z => absurd z q⟩
theorem lr_lastAgain {ns g cn s W i : Nat} {C D : Mem} (h : Iz ns g cn s W C D) (hi : i < 6) (hc : cn ≤ 56) (hs : ¬ D 13 i = -2) : LR (fX2_sendLastAgain (nI i) C) (fX8_goes (nI i) (D 13 i) D) (fun x y => x.1 = y.1 ∧ ∃ cn', Iz ns g cn' s W x.2 y.2) := by
  unfold fX2_sendLastAgain
  rw [ix_in (vp6 hi), nI_cl (by omega), show C (11 + i) 4 = D 13 i from h.snd (d := 13) (by decide) (by decide) (by decide) hi]
  obtain ⟨⟨x1, C1⟩, ⟨y1, D1⟩, e1, e2, r⟩ := lr_goes h hi ((h.key i).resolve_left hs) hc
  rw [e1, e2]
  exact LR.ret r
theorem lr_again {C D : Mem} (h : Ix C D) (v1 : Int32) : LR (fX7_again v1 C) (fX8_again v1 D) Rz := by
  have hb := lr_bad h
  have hno := lr_no h
  have hfu := lr_full h
  obtain ⟨ns, g, cn, W, h⟩ := h
  unfold fX7_again fX8_again
  rw [h.isS]
  refine LR.ite Iff.rfl (fun _ => hb) (fun hs => ?_)
  obtain ⟨i, hi, rfl⟩ := h.sIn hs
  have hns := h.ns1
  rw [ix_in (vp6 (by omega)), ix_in (vp6 (by omega)), nI_cl (by omega)]
  refine LR.ite (sent_iff h (by omega)) (fun _ => hno) (fun hse => ?_)
  obtain ⟨f1, f2⟩ := full_iff h
  by_cases q : fX2_isFull C = 0
  · rw [if_pos q, if_neg (f1.mp q)]
    exact LR.b22 (lr_lastAgain h (i := i) (by omega) (f2 q) (fun z => hse ((sent_iff h (by omega)).mpr z))) (fun x1 x2 y1 y2 r => LR.ret (Q := Rz) ⟨r.1, ixof r.2⟩)
  · rw [if_neg q, if_pos (Classical.not_not.mp (fun z => q (f1.mpr z)))]; exact hfu
/-! window -/
theorem heardAt_ok {w j : Nat} (C : Mem) (hw : w < 390) (hj : j < 4) : fX6_heardAt (nI w) (nI j) C = some (C 38 (4 * w + j)) := by
  unfold fX6_heardAt
  rw [n4', ix_in (vp1560 (by omega)), nI_cl (by omega)]
theorem bits_step : ∀ b, b < 16 → ∀ j, j < 4 → (b.testBit j = true → nI (b % 2 ^ j) ||| jshl 1 (nI j) = nI (b % 2 ^ (j + 1))) ∧ (b.testBit j = false → b % 2 ^ j = b % 2 ^ (j + 1)) := by decide +kernel
theorem m1_neg : (-1 : Int32) < 0 := by decide
theorem pow_le16 {g b : Nat} (hg : g ≤ 4) (hb : b < 2 ^ g) : b < 16 := Nat.lt_of_lt_of_le hb (Nat.pow_le_pow_right (by decide) hg : 2 ^ g ≤ 2 ^ 4)
theorem gateBits_L {C D : Mem} {g a w : Nat} (hg : g ≤ 4) (h : WinAt g a w C D) (ha : a < 390) {b : Nat} (hb : b < 2 ^ g) (hH : ∀ j, j < 4 → (b.testBit j = true → ¬ D 28 (4 * w + j) < 0 ∧ C 38 (4 * a + j) = D 28 (4 * w + j)) ∧ (b.testBit j = false → C 38 (4 * a + j) = -1)) : ∀ m j, j + m = 4 → ∀ n, m < n → fX6_gateBits_L4 n (nI a) (nI (b % 2 ^ j)) (nI j) C = some (nI b) := by
  intro m
  induction m with
  | zero =>
    intro j hj n hn
    obtain ⟨n, rfl⟩ : ∃ k, n = k + 1 := ⟨n - 1, by omega⟩
    have hj4 : j = 4 := by omega
    subst hj4
    rw [fX6_gateBits_L4, if_pos (show (4 : Int32) ≤ nI 4 by decide), Nat.mod_eq_of_lt (show b < 2 ^ 4 from pow_le16 hg hb)]
  | succ m ih =>
    intro j hj n hn
    obtain ⟨n, rfl⟩ : ∃ k, n = k + 1 := ⟨n - 1, by omega⟩
    rw [fX6_gateBits_L4, if_neg (show ¬ (4 : Int32) ≤ nI j from nI_ge (b := 4) (by omega) (by omega)), heardAt_ok C ha (by omega), bnd1_s, nI_1]
    obtain ⟨s1, s2⟩ := bits_step b (pow_le16 hg hb) j (by omega)
    obtain ⟨h1, h2⟩ := hH j (by omega)
    by_cases q : b.testBit j = true
    · obtain ⟨h3, h4⟩ := h1 q
      rw [if_neg (show ¬ C 38 (4 * a + j) = -1 by rw [h4]; intro z; rw [z] at h3; exact h3 m1_neg), s1 q]
      exact ih (j + 1) (by omega) n (by omega)
    · have q' : b.testBit j = false := by simpa using q
      rw [if_pos (h2 q'), s2 q']
      exact ih (j + 1) (by omega) n (by omega)
theorem gateBits_ok {C D : Mem} {g a w : Nat} (hg : g ≤ 4) (h : WinAt g a w C D) (ha : a < 390) : fX6_gateBits (nI a) C = some (D 27 w) := by
  obtain ⟨b, hb, -, e, hH⟩ := h.2.2.2.2.2
  unfold fX6_gateBits
  have := gateBits_L hg h ha hb hH 4 0 rfl FUEL (fuel_gt 4 (by decide))
  rw [show b % 2 ^ 0 = 0 by omega] at this
  rw [show (0 : Int32) = nI 0 from rfl, this, bnd1_s, e]
theorem lr_window {C D : Mem} (h : Ix C D) (v1 v2 : Int32) : LR (fX7_window v1 v2 C) (fX8_window v1 v2 D) Rz := by
  have hb := lr_bad h
  have h0 := h
  obtain ⟨ns, g, cn, W, h⟩ := h
  unfold fX7_window fX8_window
  refine LR.ite Iff.rfl (fun _ => hb) (fun h1 => ?_)
  by_cases h3 : v2 < 0
  · rw [if_pos h3, if_pos (in_pos (Or.inl h3))]; exact hb
  · rw [if_neg h3]
    by_cases h4 : v2 ≤ 3
    · rw [if_pos h4, if_neg (in_neg h3 (Int32.not_lt.mpr h4)), h.win.2.2.1, h.win.2.2.2.1]
      have hW := h.win.2.1
      refine LR.ite Iff.rfl (fun h5 => ?_) (fun _ => LR.ret (Q := Rz) ⟨rfl, h0⟩)
      obtain ⟨k, hk, rfl⟩ := bnd_of (by omega) h1 h5
      obtain ⟨n, hn, rfl⟩ := rng_of (N := 3) (by decide) h3 h4
      have hwk := h.win.2.2.2.2.1 k (by omega)
      rw [Nat.zero_add] at hwk
      unfold fX6_value
      simp only [ix_in (vp390 (show k < 390 by omega)), nI_cl (show k < 2147483648 by omega), gateBits_ok h.g1.2 hwk (show k < 390 by omega), bnd1_s]
      rw [hwk.1, hwk.2.1, hwk.2.2.1, h.tick_, h.wide_]
      rcases (show n = 0 ∨ n = 1 ∨ n = 2 ∨ n = 3 by omega) with e | e | e | e <;> subst e <;> exact LR.ret (Q := Rz) ⟨rfl, h0⟩
    · rw [if_neg h4, if_pos (in_pos (Or.inr (Int32.not_le.mp h4)))]; exact hb
