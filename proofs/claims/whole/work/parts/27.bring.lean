/-! a new window; all copies whose tick it is -/
theorem open_L {W : Nat} (hW : W < 390) : ∀ m j C, C 34 4 = nI W → j + m = 4 → ∀ n, m < n → ∃ C', fX6_open_L43 n (nI j) C = some C' ∧ ∀ c k, C' c k = if c = 38 ∧ 4 * W + j ≤ k ∧ k < 4 * W + 4 then -1 else C c k := by
  intro m
  induction m with
  | zero =>
    intro j C hc hj n hn
    obtain ⟨n, rfl⟩ : ∃ k, n = k + 1 := ⟨n - 1, by omega⟩
    rw [fX6_open_L43, if_pos (show (4 : Int32) ≤ nI j from nI_le (a := 4) (by omega) (by omega))]
    exact ⟨C, rfl, fun c k => by rw [if_neg (by omega)]⟩
  | succ m ih =>
    intro j C hc hj n hn
    obtain ⟨n, rfl⟩ : ∃ k, n = k + 1 := ⟨n - 1, by omega⟩
    rw [fX6_open_L43, if_neg (show ¬ (4 : Int32) ≤ nI j from nI_ge (b := 4) (by omega) (by omega)), hc, n4', ix_in (vp1560 (by omega)), nI_cl (by omega)]
    dsimp only [wr]
    rw [nI_1 j]
    obtain ⟨C', e, h⟩ := ih (j + 1) (up2 C 38 (4 * W + j) (-1)) (by rw [up2_nx (by decide)]; exact hc) (by omega) n (by omega)
    refine ⟨C', e, fun c k => ?_⟩
    rw [h, up2_if]
    by_cases q : c = 38 ∧ 4 * W + j ≤ k ∧ k < 4 * W + 4
    · rw [if_pos q]
      by_cases q2 : k = 4 * W + j
      · rw [if_neg (by omega), if_pos (by omega)]
      · rw [if_pos (by omega)]
    · rw [if_neg (by omega), if_neg (by omega), if_neg q]
def nwC (W j : Nat) (a b u t : Int32) (C : Mem) (c k : Nat) : Int32 :=
  if c = 38 ∧ k = 4 * W + j then t else if c = 38 ∧ 4 * W ≤ k ∧ k < 4 * W + 4 then -1
  else if c = 34 ∧ k = 4 then nI (W + 1) else if c = 35 ∧ k = W then a else if c = 36 ∧ k = W then b else if c = 37 ∧ k = W then u else C c k
theorem open_hear {C : Mem} {W j : Nat} (hc : C 34 4 = nI W) (hW : W < 390) (hj : j < 4) {a b u t : Int32} (ht : ¬ t < 0) : ∃ C1 C2, fX6_open a b u C = some C1 ∧ (∀ c, c < 34 → C1 c = C c) ∧ fX6_hear (C1 34 4 - 1) (nI j) t C1 = some C2 ∧ ∀ c k, C2 c k = nwC W j a b u t C c k := by
  have e5 : up2 (up2 (up2 C 35 W a) 36 W b) 37 W u 34 4 = nI W := by
    rw [up2_nx (by decide), up2_nx (by decide), up2_nx (by decide)]; exact hc
  obtain ⟨C0, e0, h0⟩ := open_L hW 4 0 (up2 (up2 (up2 C 35 W a) 36 W b) 37 W u) e5 rfl FUEL (fuel_gt 4 (by decide))
  have e1 : fX6_open a b u C = some (up2 C0 34 4 (nI (W + 1))) := by
    unfold fX6_open
    dsimp only [wr]
    simp only [up2_nx (show (34 : Nat) ≠ 35 by decide), up2_nx (show (34 : Nat) ≠ 36 by decide), hc, ix_in (vp390 hW), nI_cl (show W < 2147483648 by omega)]
    rw [if_neg (show ¬ (390 : Int32) ≤ nI W from nI_ge (b := 390) hW (by decide)), show (0 : Int32) = nI 0 from rfl, e0, bnd1_s, h0, if_neg (by omega), e5, nI_1]
  have e2 : up2 C0 34 4 (nI (W + 1)) 34 4 = nI (W + 1) := up2_at _ _ _ _
  refine ⟨_, up2 (up2 C0 34 4 (nI (W + 1))) 38 (4 * W + j) t, e1, fun c hcc => ?_, ?_, fun c k => ?_⟩
  · funext k
    rw [up2_nx (by omega), h0, if_neg (by omega), up2_nx (by omega), up2_nx (by omega), up2_nx (by omega)]
  · unfold fX6_hear
    rw [e2, nI_pred, if_neg (nI_pos (by omega)), if_neg (nI_ge (by omega) (by omega)), n4', ix_in (vp1560 (by omega)), nI_cl (by omega)]
    dsimp only [wr]
    have e6 : up2 C0 34 4 (nI (W + 1)) 38 (4 * W + j) = -1 := by
      rw [up2_nx (by decide), h0, if_pos (by omega)]
    rw [e6]
    unfold jmax
    rw [if_pos (show (-1 : Int32) < t by rw [i_lt] at ht ⊢; rw [show (-1 : Int32).toInt = -1 by decide]; rw [show (0 : Int32).toInt = 0 by decide] at ht; omega)]
  · unfold nwC
    simp only [up2_if, h0]
    by_cases q1 : c = 38 ∧ k = 4 * W + j
    · rw [if_pos q1, if_pos q1]
    · rw [if_neg q1, if_neg q1]
      by_cases q2 : c = 34 ∧ k = 4
      · rw [if_pos q2, if_neg (by omega), if_pos q2]
      · rw [if_neg q2, if_neg q2]
        by_cases q3 : c = 38 ∧ 4 * W ≤ k ∧ k < 4 * W + 4
        · rw [if_pos (by omega), if_pos q3]
        · rw [if_neg (by omega), if_neg q3]
          by_cases q4 : c = 37 ∧ k = W
          · rw [if_pos q4, if_neg (by omega), if_neg (by omega), if_pos q4]
          · rw [if_neg q4, if_neg q4]
            by_cases q5 : c = 36 ∧ k = W
            · rw [if_pos q5, if_neg (by omega), if_pos q5]
            · rw [if_neg q5, if_neg q5]
def nwD (W j : Nat) (a b u t : Int32) (D : Mem) : Mem := up2 (up2 (up2 (up2 (up2 (up2 (up2 D 24 W a) 25 W b) 26 W u) 27 W 0) 28 (4 * W + j) t) 27 W (nI (0 ||| 2 ^ j))) 0 28 (nI (W + 1))
theorem hearsIn_new {D : Mem} {W j : Nat} (hb : D 27 W = 0) (hW : W < 390) (hj : j < 4) (t : Int32) : fX8_hearsIn (nI W) (nI j) t D = some (up2 (up2 D 28 (4 * W + j) t) 27 W (nI (0 ||| 2 ^ j))) := by
  unfold fX8_hearsIn
  rw [ix_in (vp390 hW)]
  dsimp only [jn, wr]
  simp only [n4, ix_in (vp1560 (show 4 * W + j < 1560 by omega)), nI_cl (show W < 2147483648 by omega), nI_cl (show 4 * W + j < 2147483648 by omega), up2_nx (show (27 : Nat) ≠ 28 by decide), hb, show (0 : Int32) = nI 0 from rfl, bit_or 0 (by decide) j hj]
  rw [if_neg (fun z => by have := (bit_tst 0 (by decide) j hj).mp z; simp at this), if_pos trivial]
def cod (a b : Int32) : Nat := 65 * a.toNatClampNeg + (b + 1).toNatClampNeg
theorem cod_ok {i : Nat} {b : Int32} (hi : i < 6) (hb : b = -1 ∨ rng 63 b) : ∃ q, q < 65 ∧ cod (nI i) b = 65 * i + q ∧ b + 1 = nI q := by
  unfold cod
  rw [nI_cl (by omega)]
  rcases hb with rfl | ⟨m, hm, rfl⟩
  · exact ⟨0, by decide, rfl, rfl⟩
  · rw [nI_1, nI_cl (by omega)]
    exact ⟨m + 1, by omega, rfl, rfl⟩
theorem cod_inj {i i' : Nat} {b b' : Int32} (hi : i < 6) (hi' : i' < 6) (hb : b = -1 ∨ rng 63 b) (hb' : b' = -1 ∨ rng 63 b') (e : cod (nI i) b = cod (nI i') b') : i = i' ∧ b = b' := by
  obtain ⟨q, h1, h2, h3⟩ := cod_ok hi hb
  obtain ⟨q', h1', h2', h3'⟩ := cod_ok hi' hb'
  rw [h2, h2'] at e
  have e1 : i = i' := by omega
  have e2 : q = q' := by omega
  refine ⟨e1, ?_⟩
  have : b + 1 = b' + 1 := by rw [h3, h3', e2]
  have h9 : b + 1 - 1 = b' + 1 - 1 := by rw [this]
  rwa [Int32.add_sub_cancel, Int32.add_sub_cancel] at h9
/-- there is room for one more -/
theorem win_room {ns g cn W i : Nat} {C D : Mem} (h : Iz ns g cn 0 W C D) (hi : i < 6) {b : Int32} (hb : b = -1 ∨ rng 63 b) (hno : ∀ w, w < W → ¬ (D 24 w = nI i ∧ D 25 w = b)) : W < 390 := by
  obtain ⟨z1, z2, z3, z4, z5, z6⟩ := h.win
  have key := fb_holes 390 (W + 1) (fun w => if w < W then cod (D 24 w) (D 25 w) else cod (nI i) b) (fun w hw => ?_) (fun w1 w2 h1 h2 => ?_)
  · omega
  · by_cases q : w < W
    · simp only [if_pos q]
      obtain ⟨-, -, -, ⟨i', hi', e⟩, hk, -⟩ := z5 w (by omega)
      obtain ⟨q', y1, y2, -⟩ := cod_ok hi' hk
      rw [e, y2]; omega
    · simp only [if_neg q]
      obtain ⟨q', y1, y2, -⟩ := cod_ok hi hb
      rw [y2]; omega
  · have q1 : w1 < W := by omega
    simp only [if_pos q1]
    obtain ⟨-, -, -, ⟨i1, hi1, e1⟩, hk1, -⟩ := z5 w1 (by omega)
    by_cases q : w2 < W
    · simp only [if_pos q]
      obtain ⟨-, -, -, ⟨i2, hi2, e2⟩, hk2, -⟩ := z5 w2 (by omega)
      intro e
      rw [e1, e2] at e
      obtain ⟨x1, x2⟩ := cod_inj hi1 hi2 hk1 hk2 e
      exact z6 w1 w2 h1 (by omega) ⟨by rw [e1, e2, x1], x2⟩
    · simp only [if_neg q]
      intro e
      rw [e1] at e
      obtain ⟨x1, x2⟩ := cod_inj hi1 hi hk1 hb e
      exact hno w1 q1 ⟨by rw [e1, x1], x2⟩
theorem new_win {ns g cn W i j : Nat} {C D C2 : Mem} {b u t : Int32} (h : Iz ns g cn 0 W C D) (hi : i < 6) (hj : j < g) (hb : b = -1 ∨ rng 63 b) (ht : ¬ t < 0) (hno : ∀ w, w < W → ¬ (D 24 w = nI i ∧ D 25 w = b)) (hC : ∀ c k, C2 c k = nwC W j (nI i) b u t C c k) : Iz ns g cn 0 (W + 1) C2 (nwD W j (nI i) b u t D) := by
  have hW := win_room h hi hb hno
  have hg := h.g1
  have hj4 : j < 4 := by omega
  obtain ⟨z1, z2, z3, z4, z5, z6⟩ := h.win
  have hD : ∀ d k, nwD W j (nI i) b u t D d k = if d = 0 ∧ k = 28 then nI (W + 1) else if d = 27 ∧ k = W then nI (0 ||| 2 ^ j) else if d = 28 ∧ k = 4 * W + j then t else if d = 26 ∧ k = W then u else if d = 25 ∧ k = W then b else if d = 24 ∧ k = W then nI i else D d k := by
    intro d k
    unfold nwD
    simp only [up2_if]
    by_cases q1 : d = 0 ∧ k = 28
    · rw [if_pos q1, if_pos q1]
    · rw [if_neg q1, if_neg q1]
      by_cases q2 : d = 27 ∧ k = W
      · rw [if_pos q2, if_pos q2]
      · rw [if_neg q2, if_neg q2, if_neg q2]
  refine h.reWin (fun c k hc => ?_) (fun d k hd hk => ?_) ⟨by omega, by omega, ?_, ?_, fun w hw => ?_, fun w1 w2 h1 h2 => ?_⟩
  · rw [hC]
    unfold nwC
    rw [if_neg (by omega), if_neg (by omega), if_neg (by omega), if_neg (by omega), if_neg (by omega), if_neg (by omega)]
  · rw [hD, if_neg hk, if_neg (by omega), if_neg (by omega), if_neg (by omega), if_neg (by omega), if_neg (by omega)]
  · rw [hC]; unfold nwC; rw [if_neg (by omega), if_neg (by omega), if_pos ⟨rfl, rfl⟩]
  · rw [hD, if_pos ⟨rfl, rfl⟩]; rfl
  · rw [Nat.zero_add]
    by_cases e : w = W
    · subst e
      refine ⟨?_, ?_, ?_, ⟨i, hi, ?_⟩, ?_, 0 ||| 2 ^ j, (bit_lt g (by omega) 0 (by decide) (Nat.two_pow_pos g) j hj).1, (bit_lt g (by omega) 0 (by decide) (Nat.two_pow_pos g) j hj).2, ?_, ?_⟩
      · rw [hC, hD]; unfold nwC
        rw [if_neg (by omega), if_neg (by omega), if_neg (by omega), if_pos ⟨rfl, rfl⟩, if_neg (by omega), if_neg (by omega), if_neg (by omega), if_neg (by omega), if_neg (by omega), if_pos ⟨rfl, rfl⟩]
      · rw [hC, hD]; unfold nwC
        rw [if_neg (by omega), if_neg (by omega), if_neg (by omega), if_neg (by omega), if_pos ⟨rfl, rfl⟩, if_neg (by omega), if_neg (by omega), if_neg (by omega), if_neg (by omega), if_pos ⟨rfl, rfl⟩]
      · rw [hC, hD]; unfold nwC
        rw [if_neg (by omega), if_neg (by omega), if_neg (by omega), if_neg (by omega), if_neg (by omega), if_pos ⟨rfl, rfl⟩, if_neg (by omega), if_neg (by omega), if_neg (by omega), if_pos ⟨rfl, rfl⟩]
      · rw [hD, if_neg (by omega), if_neg (by omega), if_neg (by omega), if_neg (by omega), if_neg (by omega), if_pos ⟨rfl, rfl⟩]
      · rw [hD, if_neg (by omega), if_neg (by omega), if_neg (by omega), if_neg (by omega), if_pos ⟨rfl, rfl⟩]; exact hb
      · rw [hD, if_neg (by omega), if_pos ⟨rfl, rfl⟩]
      · intro k hk
        rw [bit_set 0 (by decide) j hj4 k hk]
        by_cases q : k = j
        · have c1 : C2 38 (4 * w + k) = t := by rw [hC]; unfold nwC; rw [if_pos (by omega)]
          have d1 : nwD w j (nI i) b u t D 28 (4 * w + k) = t := by rw [hD, if_neg (by omega), if_neg (by omega), if_pos (by omega)]
          rw [c1, d1, decide_eq_true q, Bool.or_true]
          exact ⟨fun _ => ⟨ht, rfl⟩, fun z => by cases z⟩
        · have c1 : C2 38 (4 * w + k) = -1 := by rw [hC]; unfold nwC; rw [if_neg (by omega), if_pos (by omega)]
          refine ⟨fun z => ?_, fun _ => c1⟩
          rw [Nat.zero_testBit, decide_eq_false q] at z
          cases z
    · have hz := z5 w (by omega)
      rw [Nat.zero_add] at hz
      obtain ⟨x1, x2, x3, x4, x5, b', x6, x7, x8, x9⟩ := hz
      have hCo : ∀ c, 35 ≤ c → c ≤ 37 → C2 c w = C c w := by
        intro c c1 c2
        rw [hC]; unfold nwC
        rw [if_neg (by omega), if_neg (by omega), if_neg (by omega), if_neg (by omega), if_neg (by omega), if_neg (by omega)]
      have hDo : ∀ d, 24 ≤ d → d ≤ 27 → nwD W j (nI i) b u t D d w = D d w := by
        intro d d1 d2
        rw [hD, if_neg (by omega), if_neg (by omega), if_neg (by omega), if_neg (by omega), if_neg (by omega), if_neg (by omega)]
      refine ⟨?_, ?_, ?_, ?_, ?_, b', x6, x7, ?_, ?_⟩
      · rw [hCo 35 (by omega) (by omega), hDo 24 (by omega) (by omega)]; exact x1
      · rw [hCo 36 (by omega) (by omega), hDo 25 (by omega) (by omega)]; exact x2
      · rw [hCo 37 (by omega) (by omega), hDo 26 (by omega) (by omega)]; exact x3
      · rw [hDo 24 (by omega) (by omega)]; exact x4
      · rw [hDo 25 (by omega) (by omega)]; exact x5
      · rw [hDo 27 (by omega) (by omega)]; exact x8
      · intro k hk
        rw [hC, hD]
        unfold nwC
        rw [if_neg (by omega), if_neg (by omega), if_neg (by omega), if_neg (by omega), if_neg (by omega), if_neg (by omega), if_neg (by omega), if_neg (by omega), if_neg (by omega), if_neg (by omega), if_neg (by omega), if_neg (by omega)]
        exact x9 k hk
  · have e1 : ∀ w, w < W → nwD W j (nI i) b u t D 24 w = D 24 w ∧ nwD W j (nI i) b u t D 25 w = D 25 w := by
      intro w hw
      rw [hD, hD]
      rw [if_neg (by omega), if_neg (by omega), if_neg (by omega), if_neg (by omega), if_neg (by omega), if_neg (by omega), if_neg (by omega), if_neg (by omega), if_neg (by omega), if_neg (by omega), if_neg (by omega), if_neg (by omega)]
      exact ⟨rfl, rfl⟩
    rw [(e1 w1 (by omega)).1, (e1 w1 (by omega)).2]
    by_cases q : w2 < W
    · rw [(e1 w2 q).1, (e1 w2 q).2]
      exact z6 w1 w2 h1 (by omega)
    · have : w2 = W := by omega
      subst this
      rw [hD, hD, if_neg (by omega), if_neg (by omega), if_neg (by omega), if_neg (by omega), if_neg (by omega), if_pos ⟨rfl, rfl⟩, if_neg (by omega), if_neg (by omega), if_neg (by omega), if_neg (by omega), if_pos ⟨rfl, rfl⟩]
      exact hno w1 (by omega)
