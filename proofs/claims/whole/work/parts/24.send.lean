/-! sets; draw; what is sent -/
theorem set_tail {C D C1 D1 : Mem} {ns g : Nat} (r : Int32) (hR : Rel C1 D1) (hO : Okv D1) (hn : D1 0 1 = nI ns ∧ 1 ≤ ns ∧ ns ≤ 6) (hg : D1 0 2 = nI g ∧ 1 ≤ g ∧ g ≤ 4) : LR (bnd1 (fX2_startAnew C1) fun M => some (r, M)) (bnd1 (fX8_begins D1) fun M => some (r, M)) Rz := by
  obtain ⟨C', D', e1, e2, h⟩ := lr_anew hR hO hn hg
  rw [e1, e2]
  exact LR.ret (Q := Rz) ⟨rfl, h.ix⟩
theorem lr_sets {C D : Mem} (h : Ix C D) (v1 v2 : Int32) : LR (fX7_sets v1 v2 C) (fX8_sets v1 v2 D) Rz := by
  have hb := lr_bad h
  obtain ⟨ns, g, cn, W, h⟩ := h
  unfold fX7_sets fX8_sets
  dsimp only [jn, wr]
  by_cases h1 : v1 < 0
  · rw [if_pos h1, if_pos (in_pos (Or.inl h1))]; exact hb
  · rw [if_neg h1]
    by_cases h2 : 2 < v1
    · rw [if_pos h2, if_pos (in_pos (Or.inr h2))]; exact hb
    · rw [if_neg h2, if_neg (in_neg h1 h2)]
      obtain ⟨n, hn, rfl⟩ := rng_of (N := 2) (by decide) h1 (Int32.not_lt.mp h2)
      have one : ∀ {N : Nat}, N < 2147483648 → ¬ v2 < 1 → v2 ≤ nI N → ∃ m, 1 ≤ m ∧ m ≤ N ∧ v2 = nI m := by
        intro N hN q1 q2
        have q0 : ¬ v2 < 0 := fun q => q1 (by rw [i_lt] at q ⊢; have := Int32.toInt_zero; have : (1 : Int32).toInt = 1 := by decide
                                              omega)
        obtain ⟨m, hm, rfl⟩ := rng_of hN q0 q2
        refine ⟨m, ?_, hm, rfl⟩
        rcases Nat.eq_zero_or_pos m with e | e
        · subst e; exact absurd (show nI 0 < (1 : Int32) by decide) q1
        · exact e
      rcases (show n = 0 ∨ n = 1 ∨ n = 2 by omega) with e | e | e <;> subst e
      · rw [if_pos (show nI 0 = (0 : Int32) from rfl), if_pos (show nI 0 = (0 : Int32) from rfl), if_pos (show nI 0 = (0 : Int32) from rfl), if_pos (show nI 0 = (0 : Int32) from rfl), if_neg (show ¬ nI 0 = (1 : Int32) by decide), if_neg (show ¬ nI 0 = (2 : Int32) by decide)]
        rw [show fX7_mostOfSetting (nI 0) = 6 from rfl, show fX7_setting (nI 0) C = C 1 0 from rfl]
        by_cases h3 : v2 < 1
        · rw [if_pos h3, if_pos (in_pos (Or.inl h3))]; exact hb
        · rw [if_neg h3]
          by_cases h4 : v2 ≤ 6
          · rw [if_pos h4, if_neg (in_neg h3 (Int32.not_lt.mpr h4)), up2_self, up2_self, h.ns_]
            obtain ⟨m, m1, m2, rfl⟩ := one (N := 6) (by decide) h3 h4
            refine set_tail (C := C) (D := D) (ns := m) (g := g) (D 0 1) (h.1.wr p_ns _) (h.ok.wr (show okv 0 1 _ from fun q => by cases q)) ⟨up2_at _ _ _ _, m1, m2⟩ ?_
            rw [up2_nk (by decide)]; exact h.2.2.2.1
          · rw [if_neg h4, if_pos (in_pos (Or.inr (Int32.not_le.mp h4)))]; exact hb
      · rw [if_neg (show ¬ nI 1 = (0 : Int32) by decide), if_neg (show ¬ nI 1 = (0 : Int32) by decide), if_pos (show nI 1 = (1 : Int32) from rfl), if_pos (show nI 1 = (1 : Int32) from rfl), if_neg (show ¬ nI 1 = (0 : Int32) by decide), if_pos (show nI 1 = (1 : Int32) from rfl), if_neg (show ¬ nI 1 = (0 : Int32) by decide), if_pos (show nI 1 = (1 : Int32) from rfl), if_neg (show ¬ nI 1 = (2 : Int32) by decide)]
        rw [show fX7_mostOfSetting (nI 1) = 4 from rfl, show fX7_setting (nI 1) C = C 1 1 from rfl]
        by_cases h3 : v2 < 1
        · rw [if_pos h3, if_pos (in_pos (Or.inl h3))]; exact hb
        · rw [if_neg h3]
          by_cases h4 : v2 ≤ 4
          · rw [if_pos h4, if_neg (in_neg h3 (Int32.not_lt.mpr h4)), up2_self, up2_self, h.g_]
            obtain ⟨m, m1, m2, rfl⟩ := one (N := 4) (by decide) h3 h4
            refine set_tail (C := C) (D := D) (ns := ns) (g := m) (D 0 2) (h.1.wr p_g _) (h.ok.wr (show okv 0 2 _ from fun q => by cases q)) ?_ ⟨up2_at _ _ _ _, m1, m2⟩
            rw [up2_nk (by decide)]; exact h.2.2.1
          · rw [if_neg h4, if_pos (in_pos (Or.inr (Int32.not_le.mp h4)))]; exact hb
      · rw [if_neg (show ¬ nI 2 = (0 : Int32) by decide), if_neg (show ¬ nI 2 = (0 : Int32) by decide), if_neg (show ¬ nI 2 = (1 : Int32) by decide), if_neg (show ¬ nI 2 = (1 : Int32) by decide), if_neg (show ¬ nI 2 = (0 : Int32) by decide), if_neg (show ¬ nI 2 = (1 : Int32) by decide), if_neg (show ¬ nI 2 = (0 : Int32) by decide), if_neg (show ¬ nI 2 = (1 : Int32) by decide), if_pos (show nI 2 = (2 : Int32) from rfl)]
        rw [show fX7_mostOfSetting (nI 2) = 9 from rfl, show fX7_setting (nI 2) C = C 1 2 from rfl]
        by_cases h3 : v2 < 1
        · rw [if_pos h3, if_pos (in_pos (Or.inl h3))]; exact hb
        · rw [if_neg h3]
          by_cases h4 : v2 ≤ 9
          · rw [if_pos h4, if_neg (in_neg h3 (Int32.not_lt.mpr h4)), up2_self, up2_self, h.wide_]
            refine set_tail (C := C) (D := D) (ns := ns) (g := g) (D 0 3) (h.1.wr p_wide _) (h.ok.wr (show okv 0 3 _ from fun q => by cases q)) ?_ ?_
            · rw [up2_nk (by decide)]; exact h.2.2.1
            · rw [up2_nk (by decide)]; exact h.2.2.2.1
          · rw [if_neg h4, if_pos (in_pos (Or.inr (Int32.not_le.mp h4)))]; exact hb
/-! draw -/
def Rd {ns g cn s W : Nat} : Int64 × Int32 × Mem → Int64 × Int32 × Mem → Prop := fun x y => x.1 = y.1 ∧ x.2.1 = y.2.1 ∧ Iz ns g cn s W x.2.2 y.2.2
theorem draw_in {ns g cn s W i : Nat} (hi : i < 6) : ∀ m j C D x sm, Iz ns g cn s W C D → j + m = g → ∀ n, m < n → LR (fX2_drawGains_L21 n x sm (nI i) (nI j) C) (fX8_draw_L36 n x sm (nI i) (nI j) D) (Rd (ns := ns) (g := g) (cn := cn) (s := s) (W := W)) := by
  intro m
  induction m with
  | zero =>
    intro j C D x sm h hj n hn
    obtain ⟨n, rfl⟩ : ∃ k, n = k + 1 := ⟨n - 1, by omega⟩
    have hg := h.g1
    rw [fX2_drawGains_L21, fX8_draw_L36, h.g_, h.gI, if_pos (nI_le (by omega) (by omega)), if_pos (nI_le (by omega) (by omega))]
    exact LR.ret (Q := Rd) ⟨rfl, rfl, h⟩
  | succ m ih =>
    intro j C D x sm h hj n hn
    obtain ⟨n, rfl⟩ : ∃ k, n = k + 1 := ⟨n - 1, by omega⟩
    have hg := h.g1
    rw [fX2_drawGains_L21, fX8_draw_L36, h.g_, h.gI, if_neg (nI_ge (by omega) (by omega)), if_neg (nI_ge (by omega) (by omega)), ix_in (vp6 hi), ix_in (vp4 (by omega)), n4, ix_in (vp24 (by omega)), nI_cl (by omega), nI_cl (by omega), nI_cl (by omega)]
    dsimp only [wr]
    rw [up2_at, up2_at, nI_1 j]
    exact ih (j + 1) _ _ _ _ (h.wr1 (p_gain hi (by omega)) (by decide) (by decide) (by simp [okv])) (by omega) n (by omega)
theorem draw_out {g cn s W ns : Nat} : ∀ m i C D x sm, Iz ns g cn s W C D → i + m = ns → ∀ n, m < n → LR (fX2_drawGains_L9 n x sm (nI i) C) (fX8_draw_L24 n x sm (nI i) D) (fun a b => a.1 = b.1 ∧ Iz ns g cn s W a.2 b.2) := by
  intro m
  induction m with
  | zero =>
    intro i C D x sm h hj n hn
    obtain ⟨n, rfl⟩ : ∃ k, n = k + 1 := ⟨n - 1, by omega⟩
    have hg := h.ns1
    rw [fX2_drawGains_L9, fX8_draw_L24, h.ns_, h.nsI, if_pos (nI_le (by omega) (by omega)), if_pos (nI_le (by omega) (by omega))]
    exact LR.ret ⟨rfl, h⟩
  | succ m ih =>
    intro i C D x sm h hj n hn
    obtain ⟨n, rfl⟩ : ∃ k, n = k + 1 := ⟨n - 1, by omega⟩
    have hg := h.ns1
    have hg1 := h.g1
    rw [fX2_drawGains_L9, fX8_draw_L24, h.ns_, h.nsI, if_neg (nI_ge (by omega) (by omega)), if_neg (nI_ge (by omega) (by omega))]
    obtain ⟨⟨x1, s1, C1⟩, ⟨y1, t1, D1⟩, e1, e2, q1, q2, k1⟩ := draw_in (i := i) (by omega) g 0 C D x sm h (by omega) FUEL (fuel_gt g (by omega))
    rw [show (0 : Int32) = nI 0 from rfl, e1, e2, bnd3_s, bnd3_s, nI_1 i]
    dsimp only at q1 q2 k1
    subst q1; subst q2
    exact ih (i + 1) C1 D1 _ _ k1 (by omega) n (by omega)
theorem lr_draw {C D : Mem} (h : Ix C D) (v1 : Int32) : LR (fX7_draw v1 C) (fX8_draw v1 D) Rz := by
  have hb := lr_bad h
  obtain ⟨ns, g, cn, W, h⟩ := h
  unfold fX7_draw fX8_draw fX2_drawGains
  have hns := h.ns1
  by_cases h3 : v1 < 0
  · rw [if_pos h3, if_pos (in_pos (Or.inl h3))]; exact hb
  · rw [if_neg h3]
    by_cases h4 : v1 ≤ 999999
    · rw [if_pos h4, if_neg (in_neg h3 (Int32.not_lt.mpr h4))]
      obtain ⟨⟨x1, C1⟩, ⟨y1, D1⟩, e1, e2, q1, k1⟩ := draw_out ns 0 C D v1.toInt64 0 h (by omega) FUEL (fuel_gt ns (by omega))
      rw [show (nI 0 : Int32) = 0 from rfl] at e1 e2
      rw [e1, e2]
      dsimp only at q1 k1
      exact LR.ret (Q := Rz) ⟨q1, k1.ix⟩
    · rw [if_neg h4, if_pos (in_pos (Or.inr (Int32.not_le.mp h4)))]; exact hb
/-! a copy more -/
theorem add_ok {C : Mem} {cn : Nat} (hc : C 28 5 = nI cn) (h : cn < 60) (a b d t u : Int32) : fX0_add a b d t u C = some (up2 (up2 (up2 (up2 (up2 (up2 C 29 cn a) 30 cn b) 31 cn d) 32 cn t) 33 cn u) 28 5 (nI (cn + 1))) := by
  unfold fX0_add
  dsimp only [wr]
  simp only [up2_nx (show (28 : Nat) ≠ 29 by decide), up2_nx (show (28 : Nat) ≠ 30 by decide), up2_nx (show (28 : Nat) ≠ 31 by decide), up2_nx (show (28 : Nat) ≠ 32 by decide), up2_nx (show (28 : Nat) ≠ 33 by decide), hc, ix_in (vp60 h), nI_cl (show cn < 2147483648 by omega), nI_1]
  rw [if_neg (show ¬ (60 : Int32) ≤ nI cn from nI_ge (b := 60) h (by decide))]
theorem Iz.add {ns g cn s W : Nat} {C D : Mem} (h : Iz ns g cn s W C D) (hc : cn < 60) {i j : Nat} (hi : i < 6) (hj : j < g) {key t u : Int32} (hk : key = -1 ∨ rng 63 key) (ht : ¬ t < 0) :
    Iz ns g (cn + 1) s W (up2 (up2 (up2 (up2 (up2 (up2 C 29 cn (nI i)) 30 cn key) 31 cn (nI j)) 32 cn t) 33 cn u) 28 5 (nI (cn + 1))) (up2 (up2 (up2 (up2 (up2 (up2 D 19 cn (nI i)) 20 cn (nI j)) 21 cn key) 22 cn t) 23 cn u) 0 22 (nI (cn + 1))) := by
  obtain ⟨h1, h2, h3, h4, h5, h6⟩ := h
  refine ⟨?_, ?_, ?_, ?_, ⟨up2_at _ _ _ _, by omega, fun k hk2 => ?_⟩, ?_⟩
  · rw [up2_comm (M := up2 C 29 cn (nI i)) (by omega)]
    exact (((((h1.wr (p_cp (d := 19) (by decide) (by decide) hc) _).wr (p_cp (d := 20) (by decide) (by decide) hc) _).wr (p_cp (d := 21) (by decide) (by decide) hc) _).wr (p_cp (d := 22) (by decide) (by decide) hc) _).wr (p_cp (d := 23) (by decide) (by decide) hc) _).wr p_cn _
  · refine (((((h2.wr ?_).wr ?_).wr ?_).wr ?_).wr ?_).wr ?_
    · exact ⟨i, by omega, rfl⟩
    · exact fun q => by cases q
    · exact hk
    · exact ht
    · exact fun q => by cases q
    · exact fun q => by cases q
  · rw [up2_nk (by decide), up2_row (by decide), up2_row (by decide), up2_row (by decide), up2_row (by decide), up2_row (by decide)]; exact h3
  · rw [up2_nk (by decide), up2_row (by decide), up2_row (by decide), up2_row (by decide), up2_row (by decide), up2_row (by decide)]; exact h4
  · rw [up2_row (by decide), up2_row (by decide), up2_row (by decide), up2_row (by decide)]
    by_cases e : k = cn
    · subst e; exact ⟨j, hj, up2_at _ _ _ _⟩
    · rw [up2_nk e, up2_row (by decide)]
      exact h5.2.2 k (by omega)
  · refine h6.cong (fun x hx hy => ?_) ?_ (fun x hx hy => ?_) ?_
    · rw [up2_row (by omega), up2_row (by omega), up2_row (by omega), up2_row (by omega), up2_row (by omega), up2_row (by omega)]
    · rw [up2_nx (by decide), up2_nx (by decide), up2_nx (by decide), up2_nx (by decide), up2_nx (by decide), up2_nx (by decide)]
    · rw [up2_row (by omega), up2_row (by omega), up2_row (by omega), up2_row (by omega), up2_row (by omega), up2_row (by omega)]
    · rw [up2_nk (by decide), up2_nx (by decide), up2_nx (by decide), up2_nx (by decide), up2_nx (by decide), up2_nx (by decide)]
theorem goes_step {D : Mem} {cn j n : Nat} (hc : D 0 22 = nI cn) (h : cn < 60) (hj : j < 4) (v1 v2 v3 t : Int32) :
    (ix (D 0 22) 60 <| wr D 19 (D 0 22).toNatClampNeg v1 fun M10 =>
        ix (M10 0 22) 60 <| wr M10 20 (M10 0 22).toNatClampNeg (nI j) fun M14 =>
        ix (M14 0 22) 60 <| wr M14 21 (M14 0 22).toNatClampNeg v2 fun M18 =>
        ix (M18 0 22) 60 <| wr M18 22 (M18 0 22).toNatClampNeg t fun M22 =>
        ix (nI j) 4 <|
        ix (M22 0 22) 60 <| wr M22 23 (M22 0 22).toNatClampNeg (((M22 0 4) + (1 : Int32)) + (M22 2 (nI j).toNatClampNeg)) fun M27 =>
        wr M27 0 22 ((M27 0 22) + (1 : Int32)) fun M30 =>
        wr M30 5 (nI j).toNatClampNeg ((M30 5 (nI j).toNatClampNeg) + (1 : Int32)) fun M33 =>
        fX8_goes_L5 n v1 v2 (v3 + (1 : Int32)) (nI j + (1 : Int32)) M33) =
    (fun D1 => fX8_goes_L5 n v1 v2 (v3 + 1) (nI (j + 1)) (up2 D1 5 j (D1 5 j + 1))) (up2 (up2 (up2 (up2 (up2 (up2 D 19 cn v1) 20 cn (nI j)) 21 cn v2) 22 cn t) 23 cn (D 0 4 + 1 + D 2 j)) 0 22 (nI (cn + 1))) := by
  dsimp only [wr]
  simp only [up2_nx (show (0 : Nat) ≠ 19 by decide), up2_nx (show (0 : Nat) ≠ 20 by decide), up2_nx (show (0 : Nat) ≠ 21 by decide), up2_nx (show (0 : Nat) ≠ 22 by decide), up2_nx (show (0 : Nat) ≠ 23 by decide), up2_nx (show (2 : Nat) ≠ 19 by decide), up2_nx (show (2 : Nat) ≠ 20 by decide), up2_nx (show (2 : Nat) ≠ 21 by decide), up2_nx (show (2 : Nat) ≠ 22 by decide), hc, ix_in (vp60 h), ix_in (vp4 hj), nI_cl (show cn < 2147483648 by omega), nI_cl (show j < 2147483648 by omega), nI_1]
theorem lr_goes_L {ns g s W i : Nat} (hi : i < 6) {key : Int32} (hk : key = -1 ∨ rng 63 key) : ∀ m j cn C D a, Iz ns g cn s W C D → j + m = g → cn + m ≤ 60 → ∀ n, m < n → LR (fX2_spread_L5 n (nI i) key a (nI j) C) (fX8_goes_L5 n (nI i) key a (nI j) D) (fun x y => x.1 = y.1 ∧ ∃ cn', Iz ns g cn' s W x.2 y.2) := by
  intro m
  induction m with
  | zero =>
    intro j cn C D a h hj hcm n hn
    obtain ⟨n, rfl⟩ : ∃ k, n = k + 1 := ⟨n - 1, by omega⟩
    have hg := h.g1
    rw [fX2_spread_L5, fX8_goes_L5, h.g_, h.gI, if_pos (nI_le (by omega) (by omega)), if_pos (nI_le (by omega) (by omega))]
    exact LR.ret ⟨rfl, cn, h⟩
  | succ m ih =>
    intro j cn C D a h hj hcm n hn
    obtain ⟨n, rfl⟩ : ∃ k, n = k + 1 := ⟨n - 1, by omega⟩
    have hg := h.g1
    have hj4 : j < 4 := by omega
    obtain ⟨t, e1, e2⟩ := lr_marginAt h (i := i) (j := j) hi hj4
    rw [fX2_spread_L5, fX8_goes_L5, h.g_, h.gI, if_neg (nI_ge (by omega) (by omega)), if_neg (nI_ge (by omega) (by omega)), e1, e2, bnd1_s, bnd1_s]
    refine LR.ite Iff.rfl (fun ht => ?_) (fun ht => ?_)
    · rw [nI_1 j]
      exact ih (j + 1) cn C D a h (by omega) (by omega) n (by omega)
    · rw [goes_step h.cnI (by omega) hj4, ix_in (vp4 hj4), nI_cl (by omega), add_ok (h.cn_.trans h.cnI) (by omega), bnd1_s]
      dsimp only [wr]
      rw [nI_1 j, h.tick_, show C (24 + j) 0 = D 2 j from h.gat (d := 2) (by decide) (by decide) hj4]
      have k1 := h.add (by omega) hi (j := j) (by omega) hk ht (u := D 0 4 + 1 + D 2 j)
      have k2 := k1.wr1 (p_gate (d := 5) (k := j) (by decide) (by decide) hj4) (by decide) (by decide) (v := up2 (up2 (up2 (up2 (up2 (up2 D 19 cn (nI i)) 20 cn (nI j)) 21 cn key) 22 cn t) 23 cn (D 0 4 + 1 + D 2 j)) 0 22 (nI (cn + 1)) 5 j + 1) (by simp [okv])
      rw [show up2 (up2 (up2 (up2 (up2 (up2 C 29 cn (nI i)) 30 cn key) 31 cn (nI j)) 32 cn t) 33 cn (D 0 4 + 1 + D 2 j)) 28 5 (nI (cn + 1)) (24 + j) 3 = _ from k1.gat (d := 5) (by decide) (by decide) hj4]
      exact ih (j + 1) (cn + 1) _ _ _ k2 (by omega) (by omega) n (by omega)
theorem lr_goes {ns g cn s W i : Nat} {C D : Mem} (h : Iz ns g cn s W C D) (hi : i < 6) {key : Int32} (hk : key = -1 ∨ rng 63 key) (hc : cn ≤ 56) : LR (fX2_spread (nI i) key C) (fX8_goes (nI i) key D) (fun x y => x.1 = y.1 ∧ ∃ cn', Iz ns g cn' s W x.2 y.2) := by
  have hg := h.g1
  unfold fX2_spread fX8_goes
  obtain ⟨⟨x1, C1⟩, ⟨y1, D1⟩, e1, e2, q1⟩ := lr_goes_L hi hk g 0 cn C D 0 h (by omega) (by omega) FUEL (fuel_gt g (by omega))
  rw [show (nI 0 : Int32) = 0 from rfl] at e1 e2
  rw [e1, e2]
  exact LR.ret q1
