/-! an answer; the best gate; how fast and how loud -/
theorem win0 {ns g cn s W : Nat} {C D : Mem} (h : Iz ns g cn s W C D) (hs : s < W) : WinAt g s 0 C D := by
  have := h.win.2.2.2.2.1 0 (by omega)
  rwa [Nat.add_zero] at this
theorem lr_answers {ns g cn s W i : Nat} {C D : Mem} (h : Iz ns g cn s W C D) (hs : s < W) (hi : i < 6) : LR (fX2_sendAnswer (nI s) (11 + i) C) (fX8_answers (nI i) D) (fun x y => x.1 = y.1 ∧ Iz ns g cn s W x.2 y.2 ∧ x.2 39 = C 39) := by
  obtain ⟨-, -, -, -, -, b, hb, hb0, eb, hH⟩ := win0 h hs
  have hg := h.g1
  have hW := h.win.2.1
  have hb16 := pow_le16 hg.2 hb
  have ecost : C (11 + i) 0 = D 9 i := h.snd (d := 9) (by decide) (by decide) (by decide) hi
  obtain ⟨r, e1, l1⟩ := speaker_L h (a := s) (by omega) hH (6 - D 9 i) g 0 (-1) (-1) (by omega) (Or.inl ⟨rfl, fun j hj => by omega⟩) (Or.inl ⟨rfl, rfl⟩) FUEL (fuel_gt g (by omega))
  obtain ⟨t6, e2, l2⟩ := behind_ok (D := D) hg.2 h.gI hb16 eb (v1 := -1) (S := fun _ => True) (Or.inl ⟨rfl, fun _ => trivial⟩)
  obtain ⟨r', e3, l3⟩ := answers_L (D := D) hg.2 h.gI hb16 eb (6 - D 9 i) FUEL t6 (by
    rcases l2 with ⟨z, l2⟩ | ⟨x, z, hx, hbx, -, l2⟩
    · exact Or.inl ⟨z, fuel_gt 0 (by decide), fun j hj hbj => absurd trivial (l2 j hj hbj)⟩
    · have := rem_le (D 28) x
      exact Or.inr ⟨x, z, hx, hbx, fuel_gt _ (by omega), fun j hj hbj _ => l2 j hj hbj trivial⟩)
  have er := lst_uniq l1 l3
  subst er
  unfold fX2_sendAnswer fX8_answers
  rw [ix_in (vp6 hi), nI_cl (by omega), ecost, show (0 : Int32) = nI 0 from rfl, e1, bnd1_s, e2, bnd1_s, e3, bnd1_s]
  rcases l1 with ⟨rfl, -⟩ | ⟨x, rfl, hx, -, -, -⟩
  · rw [if_pos rfl, if_pos rfl]
    have e9 : C 1 14 = D 29 4 := h.rd (p_sum (k := 4) (by decide))
    show LR (some (nI 0, up2 C 1 14 (C 1 14 + 1))) (some (nI 0, up2 D 29 4 (D 29 4 + 1))) _
    rw [e9]
    exact LR.ret ⟨rfl, h.wr1 (p_sum (k := 4) (by decide)) (by decide) (by decide) (by simp [okv]), (show up2 C 1 14 (D 29 4 + 1) 39 = C 39 from up2_row (by decide))⟩
  · have hne : ¬ nI x = -1 := fun z => by
      have := nI_pos (n := x) (by omega)
      rw [z] at this; exact this m1_neg
    have x4 : x < 4 := by omega
    rw [if_neg hne, if_neg hne, ix_in (vp4 x4), ix_in (vp4 x4), nI_cl (by omega)]
    dsimp only [wr]
    have k1 : Iz ns g cn s W (up2 C (24 + x) 2 (D 4 x + (6 - D 9 i))) (up2 D 4 x (D 4 x + (6 - D 9 i))) := h.wr1 (p_gate (d := 4) (by decide) (by decide) x4) (by decide) (by decide) (by simp [okv])
    have k2 : Iz ns g cn s W (up2 (up2 C (24 + x) 2 (D 4 x + (6 - D 9 i))) (24 + x) 4 (up2 D 4 x (D 4 x + (6 - D 9 i)) 6 x + 1)) (up2 (up2 D 4 x (D 4 x + (6 - D 9 i))) 6 x (up2 D 4 x (D 4 x + (6 - D 9 i)) 6 x + 1)) := k1.wr1 (p_gate (d := 6) (by decide) (by decide) x4) (by decide) (by decide) (by simp [okv])
    have k3 := k2.wr1 (p_sum (k := 3) (by decide)) (by decide) (by decide) (v := up2 (up2 D 4 x (D 4 x + (6 - D 9 i))) 6 x (up2 D 4 x (D 4 x + (6 - D 9 i)) 6 x + 1) 29 3 + 1) (by simp [okv])
    rw [show C (24 + x) 2 = D 4 x from h.gat (d := 4) (by decide) (by decide) x4, show up2 C (24 + x) 2 (D 4 x + (6 - D 9 i)) (24 + x) 4 = _ from k1.gat (d := 6) (by decide) (by decide) x4, show up2 (up2 C (24 + x) 2 (D 4 x + (6 - D 9 i))) (24 + x) 4 (up2 D 4 x (D 4 x + (6 - D 9 i)) 6 x + 1) 1 13 = _ from k2.rd (p_sum (k := 3) (by decide))]
    refine LR.ret ⟨rfl, k3, ?_⟩
    dsimp only
    rw [up2_row (show 39 ≠ 1 by decide), up2_row (show 39 ≠ 24 + x by omega), up2_row (show 39 ≠ 24 + x by omega)]
/-! the best gate -/
theorem bit_ex : ∀ b, b < 16 → 0 < b → ∃ j, j < 4 ∧ b.testBit j = true := by decide +kernel
theorem bit_g : ∀ g, g < 5 → ∀ b, b < 16 → b < 2 ^ g → ∀ j, j < 4 → b.testBit j = true → j < g := by decide +kernel
theorem best_L {a : Nat} (ha : a < 390) (C : Mem) : ∀ mm j x, j + mm = 4 → x < j → (∀ j', j' < j → C 38 (4 * a + j') < C 38 (4 * a + x) ∨ (C 38 (4 * a + j') = C 38 (4 * a + x) ∧ x ≤ j')) → ∀ n, mm < n → ∃ y, y < 4 ∧ fX6_bestGate_L4 n (nI a) (nI x) (nI j) C = some (nI y) ∧ ∀ j', j' < 4 → C 38 (4 * a + j') < C 38 (4 * a + y) ∨ (C 38 (4 * a + j') = C 38 (4 * a + y) ∧ y ≤ j') := by
  intro mm
  induction mm with
  | zero =>
    intro j x hj hx hi n hn
    obtain ⟨n, rfl⟩ : ∃ k, n = k + 1 := ⟨n - 1, by omega⟩
    rw [fX6_bestGate_L4, if_pos (show (4 : Int32) ≤ nI j from nI_le (a := 4) (by omega) (by omega))]
    have : j = 4 := by omega
    subst this
    exact ⟨x, hx, rfl, hi⟩
  | succ mm ih =>
    intro j x hj hx hi n hn
    obtain ⟨n, rfl⟩ : ∃ k, n = k + 1 := ⟨n - 1, by omega⟩
    rw [fX6_bestGate_L4, if_neg (show ¬ (4 : Int32) ≤ nI j from nI_ge (b := 4) (by omega) (by omega)), heardAt_ok C ha (by omega), bnd1_s, heardAt_ok C ha (by omega), bnd1_s, nI_1]
    by_cases q : C 38 (4 * a + j) ≤ C 38 (4 * a + x)
    · rw [if_pos q]
      refine ih (j + 1) x (by omega) (by omega) (fun j' hj' => ?_) n (by omega)
      by_cases e : j' = j
      · subst e
        rw [i_le] at q
        rw [i_lt, i_eq]
        omega
      · exact hi j' (by omega)
    · rw [if_neg q]
      refine ih (j + 1) j (by omega) (by omega) (fun j' hj' => ?_) n (by omega)
      by_cases e : j' = j
      · subst e; exact Or.inr ⟨rfl, Nat.le_refl _⟩
      · have := hi j' (by omega)
        rw [i_le] at q
        rw [i_lt, i_eq] at *
        omega
theorem best_ok {ns g cn s W : Nat} {C D : Mem} (h : Iz ns g cn s W C D) (hs : s < W) : ∃ y, y < g ∧ fX6_bestGate (nI s) C = some (nI y) ∧ fX8_gateBehind (-1) D = some (nI y) ∧ C 38 (4 * s + y) = D 28 y ∧ ¬ D 28 y < 0 := by
  obtain ⟨-, -, -, -, -, b, hb, hb0, eb, hH⟩ := win0 h hs
  have hg := h.g1
  have hW := h.win.2.1
  have hb16 := pow_le16 hg.2 hb
  obtain ⟨y, hy, e1, hm⟩ := best_L (a := s) (by omega) C 3 1 0 rfl (by omega) (fun j' hj' => Or.inr ⟨by rw [show j' = 0 by omega], by omega⟩) FUEL (fuel_gt 3 (by decide))
  obtain ⟨t6, e2, l2⟩ := behind_ok (D := D) hg.2 h.gI hb16 eb (v1 := -1) (S := fun _ => True) (Or.inl ⟨rfl, fun _ => trivial⟩)
  have m1I : (-1 : Int32).toInt = -1 := by decide
  have z0I : (0 : Int32).toInt = 0 := by decide
  have hH' : ∀ j, j < 4 → (b.testBit j = true → ¬ D 28 j < 0 ∧ C 38 (4 * s + j) = D 28 j) ∧ (b.testBit j = false → C 38 (4 * s + j) = -1) := fun j hj => by
    have := hH j hj
    rwa [show 4 * 0 + j = j by omega] at this
  have hby : b.testBit y = true := by
    obtain ⟨j0, hj0, hbj0⟩ := bit_ex b hb16 hb0
    obtain ⟨q1, q2⟩ := (hH' j0 hj0).1 hbj0
    by_cases q : b.testBit y = true
    · exact q
    · exfalso
      have q' : b.testBit y = false := by simpa using q
      have q3 := (hH' y hy).2 q'
      have q4 := hm j0 hj0
      rw [q2, q3, i_lt, i_eq, m1I] at q4
      rw [i_lt, z0I] at q1
      omega
  have hyg := bit_g g (by omega) b hb16 hb y hy hby
  obtain ⟨y1, y2⟩ := (hH' y hy).1 hby
  have l1 : lst b (D 28) (fun _ => True) g (nI y) := by
    refine Or.inr ⟨y, rfl, hyg, hby, trivial, fun j hj hbj _ => ?_⟩
    have j4 : j < 4 := by omega
    obtain ⟨q1, q2⟩ := (hH' j j4).1 hbj
    have q4 := hm j j4
    rw [q2, y2] at q4
    rcases q4 with q4 | ⟨q4, q5⟩
    · exact Or.inr (Or.inl q4)
    · by_cases e : j = y
      · exact Or.inl e
      · exact Or.inr (Or.inr ⟨q4, by omega⟩)
  have er := lst_uniq l1 l2
  refine ⟨y, hyg, ?_, by rw [e2, er], y2, y1⟩
  unfold fX6_bestGate
  rw [show (0 : Int32) = nI 0 from rfl, show (1 : Int32) = nI 1 from rfl, e1, bnd1_s]
/-! how fast, how loud -/
def Tz (C D : Mem) : Prop := ∃ r p, r ≤ 5 ∧ p ≤ 4 ∧ C 39 0 = nI r ∧ D 0 35 = nI r ∧ C 39 1 = nI p ∧ D 0 36 = nI p
theorem no39 (j : Nat) : ∀ d k, pos d k ≠ some (39, j) := fun d k h => by
  have := (pos_ok h).2
  dsimp only at this
  omega
section TUN
variable {ns g cn s W : Nat}
theorem tun1 : ∀ m r C D v, r + m = 5 → Iz ns g cn s W C D → C 39 0 = nI r → D 0 35 = nI r → (∃ p, p ≤ 4 ∧ C 39 1 = nI p ∧ D 0 36 = nI p) → ∀ n, m < n → LR (fX5_find_L16 n v C) (fX8_reckons_L65 n v D) (fun x y => x.1 = y.1 ∧ Tz x.2 y.2 ∧ Iz ns g cn s W x.2 y.2) := by
  intro m
  induction m with
  | zero =>
    intro r C D v hr h e1 e2 hp n hn
    obtain ⟨n, rfl⟩ : ∃ k, n = k + 1 := ⟨n - 1, by omega⟩
    obtain ⟨p, p1, p2, p3⟩ := hp
    rw [fX5_find_L16, fX8_reckons_L65, e1, e2, if_pos (show (5 : Int32) ≤ nI r from nI_le (a := 5) (by omega) (by omega)), if_pos (show (5 : Int32) ≤ nI r from nI_le (a := 5) (by omega) (by omega))]
    exact LR.ite Iff.rfl (fun _ => LR.ret ⟨rfl, ⟨r, p, by omega, p1, e1, e2, p2, p3⟩, h⟩) (fun _ => LR.ret ⟨rfl, ⟨r, p, by omega, p1, e1, e2, p2, p3⟩, h⟩)
  | succ m ih =>
    intro r C D v hr h e1 e2 hp n hn
    obtain ⟨n, rfl⟩ : ∃ k, n = k + 1 := ⟨n - 1, by omega⟩
    obtain ⟨p, p1, p2, p3⟩ := hp
    rw [fX5_find_L16, fX8_reckons_L65, e1, e2, if_neg (show ¬ (5 : Int32) ≤ nI r from nI_ge (b := 5) (by omega) (by omega)), if_neg (show ¬ (5 : Int32) ≤ nI r from nI_ge (b := 5) (by omega) (by omega)), nI_1]
    refine LR.ite Iff.rfl (fun _ => LR.ret ⟨rfl, ⟨r, p, by omega, p1, e1, e2, p2, p3⟩, h⟩) (fun _ => ?_)
    dsimp only [wr]
    exact ih (r + 1) _ _ _ (by omega) ((h.wrC (no39 0) (by decide) _).wrD (by decide) _) (up2_at _ _ _ _) (up2_at _ _ _ _) ⟨p, p1, by rw [up2_nk (by decide)]; exact p2, by rw [up2_nk (by decide)]; exact p3⟩ n (by omega)
theorem tun2 : ∀ p C D v, p ≤ 4 → Iz ns g cn s W C D → C 39 1 = nI p → D 0 36 = nI p → (∃ r, r ≤ 5 ∧ C 39 0 = nI r ∧ D 0 35 = nI r) → ∀ n, p < n → LR (fX5_find_L46 n v C) (fX8_reckons_L94 n v D) (fun x y => x.1 = y.1 ∧ Tz x.2 y.2 ∧ Iz ns g cn s W x.2 y.2) := by
  intro p
  induction p with
  | zero =>
    intro C D v hp h e1 e2 hr n hn
    obtain ⟨n, rfl⟩ : ∃ k, n = k + 1 := ⟨n - 1, by omega⟩
    obtain ⟨r, p1, p2, p3⟩ := hr
    rw [fX5_find_L46, fX8_reckons_L94, e1, e2, if_pos (show nI 0 ≤ (0 : Int32) by decide), if_pos (show nI 0 ≤ (0 : Int32) by decide)]
    exact LR.ite Iff.rfl (fun _ => LR.ret ⟨rfl, ⟨r, 0, p1, by omega, p2, p3, e1, e2⟩, h⟩) (fun _ => LR.ret ⟨rfl, ⟨r, 0, p1, by omega, p2, p3, e1, e2⟩, h⟩)
  | succ p ih =>
    intro C D v hp h e1 e2 hr n hn
    obtain ⟨n, rfl⟩ : ∃ k, n = k + 1 := ⟨n - 1, by omega⟩
    obtain ⟨r, p1, p2, p3⟩ := hr
    rw [fX5_find_L46, fX8_reckons_L94, e1, e2, if_neg (show ¬ nI (p + 1) ≤ (0 : Int32) from nI_ge (a := 0) (by omega) (by omega)), if_neg (show ¬ nI (p + 1) ≤ (0 : Int32) from nI_ge (a := 0) (by omega) (by omega)), nI_pred]
    refine LR.ite Iff.rfl (fun _ => LR.ret ⟨rfl, ⟨r, p + 1, p1, hp, p2, p3, e1, e2⟩, h⟩) (fun _ => ?_)
    dsimp only [wr]
    exact ih _ _ _ (by omega) ((h.wrC (no39 1) (by decide) _).wrD (by decide) _) (up2_at _ _ _ _) (up2_at _ _ _ _) ⟨r, p1, by rw [up2_nk (by decide)]; exact p2, by rw [up2_nk (by decide)]; exact p3⟩ n (by omega)
theorem tun3 : ∀ m p C D v, p + m = 4 → Iz ns g cn s W C D → C 39 1 = nI p → D 0 36 = nI p → (∃ r, r ≤ 5 ∧ C 39 0 = nI r ∧ D 0 35 = nI r) → ∀ n, m < n → LR (fX5_find_L75 n v C) (fX8_reckons_L122 n v D) (fun x y => x.1 = y.1 ∧ Tz x.2 y.2 ∧ Iz ns g cn s W x.2 y.2) := by
  intro m
  induction m with
  | zero =>
    intro p C D v hp h e1 e2 hr n hn
    obtain ⟨n, rfl⟩ : ∃ k, n = k + 1 := ⟨n - 1, by omega⟩
    obtain ⟨r, p1, p2, p3⟩ := hr
    rw [fX5_find_L75, fX8_reckons_L122, e1, e2, if_pos (show (4 : Int32) ≤ nI p from nI_le (a := 4) (by omega) (by omega)), if_pos (show (4 : Int32) ≤ nI p from nI_le (a := 4) (by omega) (by omega))]
    exact LR.ite Iff.rfl (fun _ => LR.ret ⟨rfl, ⟨r, p, p1, by omega, p2, p3, e1, e2⟩, h⟩) (fun _ => LR.ret ⟨rfl, ⟨r, p, p1, by omega, p2, p3, e1, e2⟩, h⟩)
  | succ m ih =>
    intro p C D v hp h e1 e2 hr n hn
    obtain ⟨n, rfl⟩ : ∃ k, n = k + 1 := ⟨n - 1, by omega⟩
    obtain ⟨r, p1, p2, p3⟩ := hr
    rw [fX5_find_L75, fX8_reckons_L122, e1, e2, if_neg (show ¬ (4 : Int32) ≤ nI p from nI_ge (b := 4) (by omega) (by omega)), if_neg (show ¬ (4 : Int32) ≤ nI p from nI_ge (b := 4) (by omega) (by omega)), nI_1]
    refine LR.ite Iff.rfl (fun _ => LR.ret ⟨rfl, ⟨r, p, p1, by omega, p2, p3, e1, e2⟩, h⟩) (fun _ => ?_)
    dsimp only [wr]
    exact ih (p + 1) _ _ _ (by omega) ((h.wrC (no39 1) (by decide) _).wrD (by decide) _) (up2_at _ _ _ _) (up2_at _ _ _ _) ⟨r, p1, by rw [up2_nk (by decide)]; exact p2, by rw [up2_nk (by decide)]; exact p3⟩ n (by omega)
theorem tun4 : ∀ r C D v, r ≤ 5 → Iz ns g cn s W C D → C 39 0 = nI r → D 0 35 = nI r → (∃ p, p ≤ 4 ∧ C 39 1 = nI p ∧ D 0 36 = nI p) → ∀ n, r < n → LR (fX5_find_L104 n v C) (fX8_reckons_L150 n v D) (fun x y => Tz x y ∧ Iz ns g cn s W x y) := by
  intro r
  induction r with
  | zero =>
    intro C D v hp h e1 e2 hr n hn
    obtain ⟨n, rfl⟩ : ∃ k, n = k + 1 := ⟨n - 1, by omega⟩
    obtain ⟨p, p1, p2, p3⟩ := hr
    rw [fX5_find_L104, fX8_reckons_L150, e1, e2, if_pos (show nI 0 ≤ (0 : Int32) by decide), if_pos (show nI 0 ≤ (0 : Int32) by decide)]
    exact LR.ite Iff.rfl (fun _ => LR.ret ⟨⟨0, p, by omega, p1, e1, e2, p2, p3⟩, h⟩) (fun _ => LR.ret ⟨⟨0, p, by omega, p1, e1, e2, p2, p3⟩, h⟩)
  | succ r ih =>
    intro C D v hp h e1 e2 hr n hn
    obtain ⟨n, rfl⟩ : ∃ k, n = k + 1 := ⟨n - 1, by omega⟩
    obtain ⟨p, p1, p2, p3⟩ := hr
    rw [fX5_find_L104, fX8_reckons_L150, e1, e2, if_neg (show ¬ nI (r + 1) ≤ (0 : Int32) from nI_ge (a := 0) (by omega) (by omega)), if_neg (show ¬ nI (r + 1) ≤ (0 : Int32) from nI_ge (a := 0) (by omega) (by omega)), nI_pred]
    refine LR.ite Iff.rfl (fun _ => LR.ret ⟨⟨r + 1, p, hp, p1, e1, e2, p2, p3⟩, h⟩) (fun _ => ?_)
    dsimp only [wr]
    exact ih _ _ _ (by omega) ((h.wrC (no39 0) (by decide) _).wrD (by decide) _) (up2_at _ _ _ _) (up2_at _ _ _ _) ⟨p, p1, by rw [up2_nk (by decide)]; exact p2, by rw [up2_nk (by decide)]; exact p3⟩ n (by omega)
end TUN
theorem grt_L {ns g cn s W i : Nat} {C D : Mem} (h : Iz ns g cn s W C D) (hi : i < 6) (hno : C (11 + i) 7 = nI 4) : ∀ m k v, k + m = 4 → ∀ n, m < n → ∃ r, fX3_greatestMargin_L4 n (11 + i) v (nI k) C = some r ∧ fX8_reckons_L6 n (nI i) v (nI k) D = some r := by
  intro m
  induction m with
  | zero =>
    intro k v hk n hn
    obtain ⟨n, rfl⟩ : ∃ k, n = k + 1 := ⟨n - 1, by omega⟩
    rw [fX3_greatestMargin_L4, fX8_reckons_L6, hno, if_pos (nI_le (by omega) (by omega)), if_pos (show (4 : Int32) ≤ nI k from nI_le (a := 4) (by omega) (by omega))]
    exact ⟨v, rfl, rfl⟩
  | succ m ih =>
    intro k v hk n hn
    obtain ⟨n, rfl⟩ : ∃ k, n = k + 1 := ⟨n - 1, by omega⟩
    rw [fX3_greatestMargin_L4, fX8_reckons_L6, hno, if_neg (nI_ge (by omega) (by omega)), if_neg (show ¬ (4 : Int32) ≤ nI k from nI_ge (b := 4) (by omega) (by omega)), if_neg (show ¬ (4 : Int32) ≤ nI k from nI_ge (b := 4) (by omega) (by omega)), ix_in (vp4 (by omega)), n4, ix_in (vp24 (by omega)), nI_cl (by omega), nI_cl (by omega), nI_1, show 11 + i + 6 = 17 + i by omega, h.rd (p_marg hi (show k < 4 by omega))]
    unfold jmax
    by_cases q : v < D 16 (4 * i + k)
    · rw [if_pos q, if_neg (Int32.not_le.mpr q)]
      exact ih (k + 1) _ (by omega) n (by omega)
    · rw [if_neg q, if_pos (Int32.not_lt.mp q)]
      exact ih (k + 1) _ (by omega) n (by omega)
theorem grt_ok {ns g cn s W i : Nat} {C D : Mem} (h : Iz ns g cn s W C D) (hi : i < 6) (hno : C (11 + i) 7 = nI 4) : ∃ r, fX3_greatestMargin (11 + i) C = some r ∧ fX8_reckons_L6 FUEL (nI i) (-1000) (nI 0) D = some r := by
  have hm : ¬ D 16 (4 * i + 0) < 0 := h.ok 16 (4 * i + 0)
  have hq : C (17 + i) 0 = D 16 (4 * i + 0) := h.rd (p_marg hi (show 0 < 4 by omega))
  obtain ⟨n, hn⟩ : ∃ k, FUEL = k + 1 := ⟨4095, rfl⟩
  obtain ⟨r, e1, e2⟩ := grt_L h hi hno 3 1 (D 16 (4 * i + 0)) rfl n (by have : FUEL = 4096 := rfl; omega)
  have z0I : (0 : Int32).toInt = 0 := by decide
  have m1I : (-1 : Int32).toInt = -1 := by decide
  have mkI : (-1000 : Int32).toInt = -1000 := by decide
  rw [i_lt, z0I] at hm
  refine ⟨r, ?_, ?_⟩
  · unfold fX3_greatestMargin
    rw [hn, show (0 : Int32) = nI 0 from rfl, fX3_greatestMargin_L4, hno, if_neg (nI_ge (by omega) (by omega)), if_neg (show ¬ (4 : Int32) ≤ nI 0 by decide), ix_in (vp4 (by omega)), nI_cl (by omega), nI_1, show 11 + i + 6 = 17 + i by omega, hq]
    unfold jmax
    rw [if_pos (show (-1 : Int32) < D 16 (4 * i + 0) by rw [i_lt, m1I]; omega), e1, bnd1_s]
  · rw [hn, fX8_reckons_L6, if_neg (show ¬ (4 : Int32) ≤ nI 0 by decide), n4, ix_in (vp24 (by omega)), nI_cl (by omega), nI_1, if_neg (show ¬ D 16 (4 * i + 0) ≤ (-1000 : Int32) by rw [i_le, mkI]; omega)]
    exact e2
theorem lr_tune {ns g cn s W i : Nat} {C D : Mem} (h : Iz ns g cn s W C D) (hi : i < 6) (hno : C (11 + i) 7 = nI 4) : LR (bnd1 (fX3_greatestMargin (11 + i) C) fun t => fX5_find (C (11 + i) 0) (C (11 + i) 1) t C) (fX8_reckons (nI i) D) (fun x y => Tz x y ∧ Iz ns g cn s W x y) := by
  obtain ⟨r0, e1, e2⟩ := grt_ok h hi hno
  unfold fX8_reckons
  rw [e1, bnd1_s, show (0 : Int32) = nI 0 from rfl, e2, bnd1_s, ix_in (vp6 hi), nI_cl (by omega)]
  unfold fX5_find
  dsimp only [wr]
  rw [show C (11 + i) 0 = D 9 i from h.snd (d := 9) (by decide) (by decide) (by decide) hi, show C (11 + i) 1 = D 10 i from h.snd (d := 10) (by decide) (by decide) (by decide) hi, up2_nx (show (10 : Nat) ≠ 0 by decide)]
  obtain ⟨r, hr, er⟩ : rng 5 (D 9 i) := h.ok 9 i
  obtain ⟨p, hp, ep⟩ : rng 4 (D 10 i) := h.ok 10 i
  have k1 : Iz ns g cn s W (up2 (up2 C 39 0 (D 9 i)) 39 1 (D 10 i)) (up2 (up2 D 0 35 (D 9 i)) 0 36 (D 10 i)) := (((h.wrC (no39 0) (by decide) _).wrC (no39 1) (by decide) _).wrD (by decide) _).wrD (by decide) _
  rw [show r0 - (6 : Int32) = r0 + (-6 : Int32) from Int32.sub_eq_add_neg ..]
  refine LR.b22 (tun1 (5 - r) r _ _ _ (by omega) k1 (by rw [up2_nk (by decide), up2_at, er]) (by rw [up2_nk (by decide), up2_at, er]) ⟨p, hp, by rw [up2_at, ep], by rw [up2_at, ep]⟩ FUEL (fuel_gt _ (by omega))) (fun x1 x2 y1 y2 q => ?_)
  obtain ⟨q1, ⟨r1, p1, a1, a2, a3, a4, a5, a6⟩, q3⟩ := q
  dsimp only at q1 a3 a4 a5 a6 q3
  subst q1
  refine LR.b22 (tun2 p1 _ _ _ a2 q3 a5 a6 ⟨r1, a1, a3, a4⟩ FUEL (fuel_gt _ (by omega))) (fun x1 x2 y1 y2 q => ?_)
  obtain ⟨q1, ⟨r2, p2, b1, b2, b3, b4, b5, b6⟩, q3⟩ := q
  dsimp only at q1 b3 b4 b5 b6 q3
  subst q1
  refine LR.b22 (tun3 (4 - p2) p2 _ _ _ (by omega) q3 b5 b6 ⟨r2, b1, b3, b4⟩ FUEL (fuel_gt _ (by omega))) (fun x1 x2 y1 y2 q => ?_)
  obtain ⟨q1, ⟨r3, p3, c1, c2, c3, c4, c5, c6⟩, q3⟩ := q
  dsimp only at q1 c3 c4 c5 c6 q3
  subst q1
  exact LR.b11 (tun4 r3 _ _ _ c1 q3 c3 c4 ⟨p3, c2, c5, c6⟩ FUEL (fuel_gt _ (by omega))) (fun x y q => LR.ret q)
