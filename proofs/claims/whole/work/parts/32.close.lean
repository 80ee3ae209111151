/-! a joining is taken; windows go; ticks go by -/
theorem lr_joining {ns g cn s W i : Nat} {C D : Mem} (h : Iz ns g cn s W C D) (hs : s < W) (hi : i < 6) (e24 : D 24 0 = nI i) (hk : D 25 0 = -1) : LR (fX2_takeJoining (nI s) (11 + i) C) (fX8_closes D) (fun x y => y.1 = 1 ∧ Iz ns g cn s W x y.2) := by
  unfold fX2_takeJoining fX8_closes
  rw [show (0 : Int32).toNatClampNeg = 0 from rfl, show (1 : Int32).toNatClampNeg = 1 from rfl, if_pos hk, e24, ix_in (vp6 hi), nI_cl (show i < 2147483648 by omega)]
  dsimp only [wr]
  rw [show C 1 11 = D 29 1 from h.rd (p_sum (k := 1) (by decide)), up2_nx (show (29 : Nat) ≠ 15 by decide), up2_nx (show (29 : Nat) ≠ 14 by decide)]
  have k1 : Iz ns g cn s W (up2 C (11 + i) 5 63) (up2 D 14 i 63) := h.wr1 (p_snd (d := 14) (by decide) (by decide) (by decide) hi) (by decide) (by decide) ⟨63, by decide, rfl⟩
  have k2 : Iz ns g cn s W (up2 (up2 C (11 + i) 5 63) (11 + i) 7 0) (up2 (up2 D 14 i 63) 15 i 0) := k1.wr1 (p_snd (d := 15) (by decide) (by decide) (by decide) hi) (by decide) (by decide) ⟨0, by decide, rfl⟩
  have k3 : Iz ns g cn s W (up2 (up2 (up2 C (11 + i) 5 63) (11 + i) 7 0) 1 11 (D 29 1 + 1)) (up2 (up2 (up2 D 14 i 63) 15 i 0) 29 1 (D 29 1 + 1)) := k2.wr1 (p_sum (k := 1) (by decide)) (by decide) (by decide) (by simp [okv])
  rw [up2_comm (M := C) (x := 1) (y := 11 + i) (by omega), up2_comm (M := up2 C (11 + i) 5 63) (x := 1) (y := 11 + i) (by omega)]
  refine LR.b22 (lr_answers k3 hs hi) (fun x1 x2 y1 y2 q => ?_)
  obtain ⟨q1, q2, -⟩ := q
  dsimp only at q1 q2
  subst q1
  refine LR.ite Iff.rfl (fun _ => LR.ret ⟨rfl, q2⟩) (fun _ => ?_)
  exact LR.ret ⟨rfl, (q2.wr1 (p_snd (d := 12) (by decide) (by decide) (by decide) hi) (by decide) (by decide) ⟨1, by decide, rfl⟩).wr1 (p_snd (d := 11) (by decide) (by decide) (by decide) hi) (by decide) (by decide) ⟨0, by decide, rfl⟩⟩
theorem fst_L78 {w : Nat} (hw : w + 1 < 390) : ∀ m j D, j + m = 4 → ∀ n, m < n → ∃ D', fX8_firstGoes_L78 n (nI w) (nI j) D = some D' ∧ ∀ d k, D' d k = if d = 28 ∧ 4 * w + j ≤ k ∧ k < 4 * w + 4 then D 28 (k + 4) else D d k := by
  intro m
  induction m with
  | zero =>
    intro j D hj n hn
    obtain ⟨n, rfl⟩ : ∃ k, n = k + 1 := ⟨n - 1, by omega⟩
    rw [fX8_firstGoes_L78, if_pos (show (4 : Int32) ≤ nI j from nI_le (a := 4) (by omega) (by omega))]
    exact ⟨D, rfl, fun d k => by rw [if_neg (by omega)]⟩
  | succ m ih =>
    intro j D hj n hn
    obtain ⟨n, rfl⟩ : ∃ k, n = k + 1 := ⟨n - 1, by omega⟩
    rw [fX8_firstGoes_L78, if_neg (show ¬ (4 : Int32) ≤ nI j from nI_ge (b := 4) (by omega) (by omega)), show (4 : Int32) * nI w + (4 : Int32) = nI (4 * w + 4) from n4 w 4, nI_add, n4, ix_in (vp1560 (by omega)), ix_in (vp1560 (by omega)), nI_cl (by omega), nI_cl (by omega), nI_1]
    dsimp only [wr]
    obtain ⟨D', e, h⟩ := ih (j + 1) (up2 D 28 (4 * w + j) (D 28 (4 * w + 4 + j))) (by omega) n (by omega)
    refine ⟨D', e, fun d k => ?_⟩
    rw [h]
    by_cases q : d = 28 ∧ 4 * w + j ≤ k ∧ k < 4 * w + 4
    · rw [if_pos q]
      by_cases q2 : k = 4 * w + j
      · rw [if_neg (by omega), up2_if, if_pos (by omega), q2, show 4 * w + 4 + j = 4 * w + j + 4 by omega]
      · rw [if_pos (by omega), up2_nk (by omega)]
    · rw [if_neg (by omega), up2_if, if_neg (by omega), if_neg q]
theorem fst_L12 {N : Nat} (hN : N < 390) : ∀ m w D, w + m = N → D 0 28 = nI N → ∀ n, m < n → ∃ D', fX8_firstGoes_L12 n (nI w) D = some D' ∧ ∀ d k, D' d k = if 24 ≤ d ∧ d ≤ 27 ∧ w ≤ k ∧ k < N then D d (k + 1) else if d = 28 ∧ 4 * w ≤ k ∧ k < 4 * N then D 28 (k + 4) else D d k := by
  intro m
  induction m with
  | zero =>
    intro w D hw hc n hn
    obtain ⟨n, rfl⟩ : ∃ k, n = k + 1 := ⟨n - 1, by omega⟩
    rw [fX8_firstGoes_L12, hc, if_pos (nI_le (by omega) (by omega))]
    exact ⟨D, rfl, fun d k => by rw [if_neg (by omega), if_neg (by omega)]⟩
  | succ m ih =>
    intro w D hw hc n hn
    obtain ⟨n, rfl⟩ : ∃ k, n = k + 1 := ⟨n - 1, by omega⟩
    rw [fX8_firstGoes_L12, hc, if_neg (nI_ge (by omega) (by omega)), nI_1, ix_in (vp390 (by omega)), ix_in (vp390 (by omega)), nI_cl (by omega), nI_cl (by omega)]
    dsimp only [wr]
    rw [up2_nx (show (25 : Nat) ≠ 24 by decide), up2_nx (show (26 : Nat) ≠ 25 by decide), up2_nx (show (26 : Nat) ≠ 24 by decide), up2_nx (show (27 : Nat) ≠ 26 by decide), up2_nx (show (27 : Nat) ≠ 25 by decide), up2_nx (show (27 : Nat) ≠ 24 by decide)]
    generalize hD1 : up2 (up2 (up2 (up2 D 24 w (D 24 (w + 1))) 25 w (D 25 (w + 1))) 26 w (D 26 (w + 1))) 27 w (D 27 (w + 1)) = D1
    have h1 : ∀ d k, D1 d k = if 24 ≤ d ∧ d ≤ 27 ∧ k = w then D d (w + 1) else D d k := by
      intro d k
      rw [← hD1]
      simp only [up2_if]
      by_cases q : 24 ≤ d ∧ d ≤ 27 ∧ k = w
      · rw [if_pos q]
        rcases (show d = 24 ∨ d = 25 ∨ d = 26 ∨ d = 27 by omega) with e | e | e | e <;> subst e <;> simp [q.2.2]
      · rw [if_neg q, if_neg (by omega), if_neg (by omega), if_neg (by omega), if_neg (by omega)]
    obtain ⟨D2, e2, h2⟩ := fst_L78 (w := w) (by omega) 4 0 D1 rfl FUEL (fuel_gt 4 (by decide))
    rw [show (nI 0 : Int32) = 0 from rfl] at e2
    rw [e2, bnd1_s]
    obtain ⟨D', e, h⟩ := ih (w + 1) D2 (by omega) (by rw [h2, if_neg (by omega), h1, if_neg (by omega)]; exact hc) n (by omega)
    refine ⟨D', e, fun d k => ?_⟩
    rw [h]
    by_cases q : 24 ≤ d ∧ d ≤ 27 ∧ w ≤ k ∧ k < N
    · rw [if_pos q]
      by_cases q2 : k = w
      · rw [if_neg (by omega), if_neg (by omega), h2, if_neg (by omega), h1, if_pos (by omega), q2]
      · rw [if_pos (by omega), h2, if_neg (by omega), h1, if_neg (by omega)]
    · rw [if_neg (by omega), if_neg q]
      by_cases q2 : d = 28 ∧ 4 * w ≤ k ∧ k < 4 * N
      · rw [if_pos q2]
        by_cases q3 : k < 4 * w + 4
        · rw [if_neg (by omega), h2, if_pos (by omega), h1, if_neg (by omega)]
        · rw [if_pos (by omega), h2, if_neg (by omega), h1, if_neg (by omega)]
      · rw [if_neg (by omega), if_neg q2, h2, if_neg (by omega), h1, if_neg (by omega)]
theorem lr_first {ns g cn s W : Nat} {C D : Mem} (h : Iz ns g cn s W C D) (hs : s < W) : ∃ D', fX8_firstGoes D = some D' ∧ Iz ns g cn (s + 1) W C D' := by
  obtain ⟨z1, z2, z3, z4, z5, z6⟩ := h.win
  have eN : D 0 28 - 1 = nI (W - (s + 1)) := by
    rw [z4, show W - s = (W - (s + 1)) + 1 by omega, nI_pred]
  obtain ⟨D', e, hD⟩ := fst_L12 (N := W - (s + 1)) (by omega) (W - (s + 1)) 0 (up2 D 0 28 (nI (W - (s + 1)))) (by omega) (up2_at _ _ _ _) FUEL (fuel_gt _ (by omega))
  refine ⟨D', ?_, ?_⟩
  · unfold fX8_firstGoes
    dsimp only [wr]
    rw [eN, show (0 : Int32) = nI 0 from rfl, e, bnd1_s]
  · have hS : ∀ d k, 24 ≤ d → d ≤ 27 → k < W - (s + 1) → D' d k = D d (k + 1) := by
      intro d k h1 h2 h3
      rw [hD, if_pos (by omega), up2_nx (by omega)]
    have hM : ∀ k, k < 4 * (W - (s + 1)) → D' 28 k = D 28 (k + 4) := by
      intro k h1
      rw [hD, if_neg (by omega), if_pos (by omega), up2_nx (by omega)]
    refine h.reWin (fun c k hc => rfl) (fun d k hd hk => ?_) ⟨by omega, z2, z3, ?_, fun w hw => ?_, fun w1 w2 h1 h2 => ?_⟩
    · rw [hD, if_neg (by omega), if_neg (by omega), up2_or (by omega)]
    · rw [hD, if_neg (by omega), if_neg (by omega), up2_at]
    · have hz := z5 (w + 1) (by omega)
      rw [show s + (w + 1) = s + 1 + w by omega] at hz
      obtain ⟨x1, x2, x3, x4, x5, b', x6, x7, x8, x9⟩ := hz
      refine ⟨?_, ?_, ?_, ?_, ?_, b', x6, x7, ?_, ?_⟩
      · rw [hS 24 w (by omega) (by omega) hw]; exact x1
      · rw [hS 25 w (by omega) (by omega) hw]; exact x2
      · rw [hS 26 w (by omega) (by omega) hw]; exact x3
      · rw [hS 24 w (by omega) (by omega) hw]; exact x4
      · rw [hS 25 w (by omega) (by omega) hw]; exact x5
      · rw [hS 27 w (by omega) (by omega) hw]; exact x8
      · intro j hj
        rw [hM (4 * w + j) (by omega), show 4 * w + j + 4 = 4 * (w + 1) + j by omega]
        exact x9 j hj
    · rw [hS 24 w1 (by omega) (by omega) (by omega), hS 24 w2 (by omega) (by omega) h2, hS 25 w1 (by omega) (by omega) (by omega), hS 25 w2 (by omega) (by omega) h2]
      exact z6 (w1 + 1) (w2 + 1) (by omega) (by omega)
theorem lr_drop {ns g cn s W : Nat} {C D : Mem} (h : Iz ns g cn s W C D) : ∃ C', fX6_dropFirst (nI s) C = some C' ∧ Iz ns g cn 0 (W - s) C' D := by
  obtain ⟨z1, z2, z3, z4, z5, z6⟩ := h.win
  unfold fX6_dropFirst
  by_cases q : s = 0
  · subst q
    rw [if_pos (show nI 0 ≤ (0 : Int32) by decide)]
    exact ⟨C, rfl, h⟩
  · have n4s : nI s * (4 : Int32) = nI (4 * s) := by rw [show (4 : Int32) = nI 4 from rfl, pk_mul, Nat.mul_comm]
    have n4w : nI (W - s) * (4 : Int32) = nI (4 * (W - s)) := by rw [show (4 : Int32) = nI 4 from rfl, pk_mul, Nat.mul_comm]
    rw [if_neg (show ¬ nI s ≤ (0 : Int32) from nI_ge (a := 0) (by omega) (by omega)), z3, pk_sub (by omega), if_neg (nI_pos (by omega)), n4s, n4w]
    have c1 : ∀ {M : Mem} {x : Nat} {K : Mem → Option Mem}, cpy M x 390 x 390 (nI s) 0 (nI (W - s)) K = K (fun y => if y = x then va_cpy (M x) (M x) s 0 (W - s) else M y) := by
      intro M x K
      unfold cpy
      rw [nI_cl (show s < 2147483648 by omega), nI_cl (show W - s < 2147483648 by omega), show (0 : Int32).toNatClampNeg = 0 from rfl, if_neg]
      rintro (q1 | q1 | q1 | q1 | q1)
      · exact nI_pos (by omega) q1
      · exact absurd q1 (by decide)
      · exact nI_pos (by omega) q1
      · omega
      · omega
    have c2 : ∀ {M : Mem} {x : Nat} {K : Mem → Option Mem}, cpy M x 1560 x 1560 (nI (4 * s)) 0 (nI (4 * (W - s))) K = K (fun y => if y = x then va_cpy (M x) (M x) (4 * s) 0 (4 * (W - s)) else M y) := by
      intro M x K
      unfold cpy
      rw [nI_cl (show 4 * s < 2147483648 by omega), nI_cl (show 4 * (W - s) < 2147483648 by omega), show (0 : Int32).toNatClampNeg = 0 from rfl, if_neg]
      rintro (q1 | q1 | q1 | q1 | q1)
      · exact nI_pos (by omega) q1
      · exact absurd q1 (by decide)
      · exact nI_pos (by omega) q1
      · omega
      · omega
    rw [c1, c1, c1, c2]
    dsimp only [wr]
    refine ⟨_, rfl, ?_⟩
    have vc : ∀ (f : Nat → Int32) (a n k : Nat), k < n → va_cpy f f a 0 n k = f (a + k) := by
      intro f a n k hk
      unfold va_cpy
      rw [if_pos (by omega), Nat.sub_zero]
    refine h.reWin (fun c k hc => ?_) (fun d k hd hk => rfl) ⟨by omega, by omega, up2_at _ _ _ _, by rw [z4]; rfl, fun w hw => ?_, fun w1 w2 h1 h2 => z6 w1 w2 h1 (by omega)⟩
    · rw [up2_nx (by omega), if_neg (by omega), if_neg (by omega), if_neg (by omega), if_neg (by omega)]
    · have hz := z5 w (by omega)
      obtain ⟨x1, x2, x3, x4, x5, b', x6, x7, x8, x9⟩ := hz
      rw [Nat.zero_add]
      refine ⟨?_, ?_, ?_, x4, x5, b', x6, x7, x8, fun j hj => ?_⟩
      · rw [up2_nx (by decide)]
        simp only [show ¬ (35 : Nat) = 38 by decide, show ¬ (35 : Nat) = 37 by decide, show ¬ (35 : Nat) = 36 by decide, if_false, if_true]
        rw [vc _ _ _ _ (by omega)]; exact x1
      · rw [up2_nx (by decide)]
        simp only [show ¬ (36 : Nat) = 38 by decide, show ¬ (36 : Nat) = 37 by decide, show ¬ (36 : Nat) = 35 by decide, if_false, if_true]
        rw [vc _ _ _ _ (by omega)]; exact x2
      · rw [up2_nx (by decide)]
        simp only [show ¬ (37 : Nat) = 38 by decide, show ¬ (37 : Nat) = 36 by decide, show ¬ (37 : Nat) = 35 by decide, if_false, if_true]
        rw [vc _ _ _ _ (by omega)]; exact x3
      · rw [up2_nx (by decide)]
        simp only [show ¬ (38 : Nat) = 37 by decide, show ¬ (38 : Nat) = 36 by decide, show ¬ (38 : Nat) = 35 by decide, if_false, if_true]
        rw [vc _ _ _ _ (by omega), show 4 * s + (4 * w + j) = 4 * (s + w) + j by omega]
        exact x9 j hj
theorem lr_close_L {ns g cn W : Nat} : ∀ m s C D t, s + m = W → Iz ns g cn s W C D → ∀ n, m < n → LR (fX2_closeWindows_L4 n (nI s) t C) (fX8_oneTick_L47 n t D) (fun x y => ∃ s', x.1 = nI s' ∧ x.2.1 = y.1 ∧ Iz ns g cn s' W x.2.2 y.2) := by
  intro m
  induction m with
  | zero =>
    intro s C D t hsw h n hn
    obtain ⟨n, rfl⟩ : ∃ k, n = k + 1 := ⟨n - 1, by omega⟩
    have hW := h.win.2.1
    rw [fX2_closeWindows_L4, fX8_oneTick_L47, h.win.2.2.1, h.win.2.2.2.1, if_pos (nI_le (by omega) (by omega)), if_pos (show nI (W - s) ≤ (0 : Int32) from nI_le (b := 0) (by omega) (by decide))]
    exact LR.ret ⟨s, rfl, rfl, h⟩
  | succ m ih =>
    intro s C D t hsw h n hn
    obtain ⟨n, rfl⟩ : ∃ k, n = k + 1 := ⟨n - 1, by omega⟩
    have hW := h.win.2.1
    have hs : s < W := by omega
    have hw0 := win0 h hs
    obtain ⟨i, hi, e24⟩ := hw0.2.2.2.1
    have hk := hw0.2.2.2.2.1
    rw [fX2_closeWindows_L4, fX8_oneTick_L47, h.win.2.2.1, h.win.2.2.2.1, if_neg (nI_ge (by omega) (by omega)), if_neg (show ¬ nI (W - s) ≤ (0 : Int32) from nI_ge (a := 0) (by omega) (by omega)), ix_in (vp390 (by omega)), nI_cl (show s < 2147483648 by omega), show (0 : Int32).toNatClampNeg = 0 from rfl, hw0.1, hw0.2.1, hw0.2.2.1, h.tick_, h.wide_, e24, nI_1]
    refine LR.ite Iff.rfl (fun _ => LR.ret ⟨s, rfl, rfl, h⟩) (fun _ => ?_)
    rw [ix_in (vp6 hi), nI_cl (show i < 2147483648 by omega)]
    by_cases q : D 25 0 = -1
    · rw [if_pos q]
      obtain ⟨C1, ⟨y1, D1⟩, e1, e2, y3, k1⟩ := lr_joining h hs hi e24 q
      dsimp only at y3 k1
      subst y3
      obtain ⟨D2, e3, k2⟩ := lr_first k1 hs
      rw [e1, bnd1_s, e2, bnd2_s, e3, bnd1_s]
      exact ih (s + 1) C1 D2 (t + 1) (by omega) k2 n (by omega)
    · have hk2 := hk.resolve_left q
      rw [if_neg q]
      by_cases q2 : fX3_isDue (11 + i) (D 25 0) C = 0
      · rw [if_pos q2]
        have e9 : C 1 12 = D 29 2 := h.rd (p_sum (k := 2) (by decide))
        have k1 : Iz ns g cn s W (up2 C 1 12 (D 29 2 + 1)) (up2 D 29 2 (D 29 2 + 1)) := h.wr1 (p_sum (k := 2) (by decide)) (by decide) (by decide) (by simp [okv])
        have e2 : fX8_closes D = some (0, up2 D 29 2 (D 29 2 + 1)) := by
          unfold fX8_closes
          rw [show (0 : Int32).toNatClampNeg = 0 from rfl, if_neg q, e24, due_eq h hi hk2, bnd1_s, if_pos q2]
          rfl
        obtain ⟨D2, e3, k2⟩ := lr_first k1 hs
        rw [e2, bnd2_s, e3, bnd1_s]
        dsimp only [wr]
        rw [e9, show t + (0 : Int32) = t from Int32.add_zero t]
        exact ih (s + 1) _ D2 t (by omega) k2 n (by omega)
      · rw [if_neg q2]
        obtain ⟨C1, ⟨y1, D1⟩, e1, e2, y3, k1⟩ := lr_letter h hs hi e24 hk2 q2
        dsimp only at y3 k1
        subst y3
        obtain ⟨D2, e3, k2⟩ := lr_first k1 hs
        rw [e1, bnd1_s, e2, bnd2_s, e3, bnd1_s]
        exact ih (s + 1) C1 D2 (t + 1) (by omega) k2 n (by omega)
theorem lr_close {ns g cn W : Nat} {C D : Mem} (h : Iz ns g cn 0 W C D) : LR (fX2_closeWindows C) (fX8_oneTick_L47 FUEL 0 D) (fun x y => x.1 = y.1 ∧ ∃ W', Iz ns g cn 0 W' x.2 y.2) := by
  have hW := h.win.2.1
  unfold fX2_closeWindows
  obtain ⟨⟨x1, x2, C1⟩, ⟨y1, D1⟩, e1, e2, s', q1, q2, q3⟩ := lr_close_L W 0 C D 0 (by omega) h FUEL (fuel_gt W (by omega))
  rw [show (nI 0 : Int32) = 0 from rfl] at e1
  dsimp only at q1 q2 q3
  subst q1; subst q2
  obtain ⟨C2, e3, k⟩ := lr_drop q3
  rw [e1, e2, bnd3_s, e3, bnd1_s]
  exact LR.ret ⟨rfl, W - s', k⟩
theorem lr_refill {ns g cn s W : Nat} : ∀ m j C D, j + m = 4 → Iz ns g cn s W C D → ∀ n, m < n → LR (fX2_refillBudgets_L2 n (nI j) C) (fX8_oneTick_L23 n (nI j) D) (fun x y => Iz ns g cn s W x y) := by
  intro m
  induction m with
  | zero =>
    intro j C D hj h n hn
    obtain ⟨n, rfl⟩ : ∃ k, n = k + 1 := ⟨n - 1, by omega⟩
    rw [fX2_refillBudgets_L2, fX8_oneTick_L23, if_pos (show (4 : Int32) ≤ nI j from nI_le (a := 4) (by omega) (by omega)), if_pos (show (4 : Int32) ≤ nI j from nI_le (a := 4) (by omega) (by omega))]
    exact LR.ret h
  | succ m ih =>
    intro j C D hj h n hn
    obtain ⟨n, rfl⟩ : ∃ k, n = k + 1 := ⟨n - 1, by omega⟩
    rw [fX2_refillBudgets_L2, fX8_oneTick_L23, if_neg (show ¬ (4 : Int32) ≤ nI j from nI_ge (b := 4) (by omega) (by omega)), if_neg (show ¬ (4 : Int32) ≤ nI j from nI_ge (b := 4) (by omega) (by omega)), ix_in (vp4 (by omega)), ix_in (vp4 (by omega)), nI_cl (by omega), nI_1]
    dsimp only [wr]
    exact ih (j + 1) _ _ (by omega) (h.wr1 (p_gate (d := 4) (k := j) (by decide) (by decide) (by omega)) (by decide) (by decide) (by simp [okv])) n (by omega)
/-- one tick of both -/
theorem lr_ticks_L {ns g : Nat} {v1 : Int32} {M : Nat} (hM : M < 2147483648) (hv : v1 = nI M) : ∀ m k cn W C D t, k + m = M → Iz ns g cn 0 W C D → ∀ n, m < n → LR (fX2_passTicks_L4 n v1 t (nI k) C) (fX8_goBy_L4 n v1 t (nI k) D) (fun x y => x.1 = y.1 ∧ ∃ cn' W', Iz ns g cn' 0 W' x.2 y.2) := by
  intro m
  induction m with
  | zero =>
    intro k cn W C D t hk h n hn
    obtain ⟨n, rfl⟩ : ∃ k, n = k + 1 := ⟨n - 1, by omega⟩
    rw [fX2_passTicks_L4, fX8_goBy_L4, hv, if_pos (nI_le (by omega) (by omega)), if_pos (nI_le (by omega) (by omega))]
    exact LR.ret ⟨rfl, cn, W, h⟩
  | succ m ih =>
    intro k cn W C D t hk h n hn
    obtain ⟨n, rfl⟩ : ∃ k, n = k + 1 := ⟨n - 1, by omega⟩
    rw [fX2_passTicks_L4, fX8_goBy_L4]
    rw [hv, if_neg (nI_ge (by omega) (by omega)), if_neg (nI_ge (by omega) (by omega)), nI_1, ← hv]
    unfold fX8_oneTick
    dsimp only [wr, jn]
    have k1 : Iz ns g cn 0 W (up2 C 1 3 (D 0 4 + 1)) (up2 D 0 4 (D 0 4 + 1)) := h.wr p_tick (by decide) (by decide) (show okv 0 4 _ from fun q => by cases q)
    rw [h.tick_, up2_at, up2_at]
    generalize up2 C 1 3 (D 0 4 + 1) = C1 at k1 ⊢
    generalize up2 D 0 4 (D 0 4 + 1) = D1 at k1 ⊢
    have tail : ∀ {cn W : Nat} {C2 D2 : Mem}, Iz ns g cn 0 W C2 D2 → LR (bnd1 (fX2_bringCopies C2) fun M14 => bnd2 (fX2_closeWindows M14) fun t19 M18 => fX2_passTicks_L4 n v1 (t + t19) (nI (k + 1)) M18) (bnd2 (bnd1 (fX8_allCome D2) fun M41 => bnd2 (fX8_oneTick_L47 FUEL (0 : Int32) M41) fun w43 M44 => some (w43, M44)) fun t7 M6 => fX8_goBy_L4 n v1 (t + t7) (nI (k + 1)) M6) (fun x y => x.1 = y.1 ∧ ∃ cn' W', Iz ns g cn' 0 W' x.2 y.2) := by
      intro cn W C2 D2 k2
      obtain ⟨C3, D3, e1, e2, cn3, W3, k3⟩ := lr_come k2
      obtain ⟨⟨x1, C4⟩, ⟨y1, D4⟩, e3, e4, q1, W4, k4⟩ := lr_close k3
      dsimp only at q1 k4
      subst q1
      rw [e1, e2, bnd1_s, bnd1_s, e3, e4, bnd2_s, bnd2_s, bnd2_s]
      exact ih (k + 1) cn3 W4 C4 D4 _ (by omega) k4 n (by omega)
    by_cases q : jirem (D 0 4 + 1) 60 = 1
    · rw [if_pos q, if_pos q]
      unfold fX2_refillBudgets
      obtain ⟨C2, D2, e1, e2, k2⟩ := lr_refill 4 0 C1 D1 rfl k1 FUEL (fuel_gt 4 (by decide))
      rw [show (nI 0 : Int32) = 0 from rfl] at e1 e2
      rw [e1, e2, bnd1_s, bnd1_s, bnd1_s]
      exact tail k2
    · rw [if_neg q, if_neg q]
      exact tail k1
theorem lr_goBy {ns g cn W : Nat} {C D : Mem} {M : Nat} (hM : M < 4096) (h : Iz ns g cn 0 W C D) : LR (fX2_passTicks (nI M) C) (fX8_goBy (nI M) D) (fun x y => x.1 = y.1 ∧ ∃ cn' W', Iz ns g cn' 0 W' x.2 y.2) := by
  unfold fX2_passTicks fX8_goBy
  obtain ⟨⟨x1, C1⟩, ⟨y1, D1⟩, e1, e2, q⟩ := lr_ticks_L (ns := ns) (g := g) (v1 := nI M) (M := M) (by omega) rfl M 0 cn W C D 0 (by omega) h FUEL (fuel_gt M hM)
  rw [show (nI 0 : Int32) = 0 from rfl] at e1 e2
  rw [e1, e2]
  exact LR.ret q
theorem lr_ticks {C D : Mem} (h : Ix C D) (v1 : Int32) : LR (fX7_ticks v1 C) (fX8_ticks v1 D) Rz := by
  have hb := lr_bad h
  obtain ⟨ns, g, cn, W, h⟩ := h
  unfold fX7_ticks fX8_ticks
  by_cases h3 : v1 < 1
  · rw [if_pos h3, if_pos (in_pos (Or.inl h3))]; exact hb
  · rw [if_neg h3]
    by_cases h4 : v1 ≤ 99
    · rw [if_pos h4, if_neg (in_neg h3 (Int32.not_lt.mpr h4))]
      have q0 : ¬ v1 < 0 := fun q => h3 (by rw [i_lt] at q ⊢; have := Int32.toInt_zero; have : (1 : Int32).toInt = 1 := by decide
                                            omega)
      obtain ⟨m, hm, rfl⟩ := rng_of (N := 99) (by decide) q0 h4
      refine LR.b22 (lr_goBy (M := m) (by omega) h) (fun x1 x2 y1 y2 q => ?_)
      obtain ⟨q1, cn', W', q2⟩ := q
      exact LR.ret (Q := Rz) ⟨q1, q2.ix⟩
    · rw [if_neg h4, if_pos (in_pos (Or.inr (Int32.not_le.mp h4)))]; exact hb
