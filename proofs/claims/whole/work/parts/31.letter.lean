/-! a letter is taken -/
def tlC (x : Nat) (v : Int32) (M : Mem) : Option Mem :=
  jn (fun (M13 : Mem) =>
    ix (M13 x 7) 4 <| wr M13 (x + 6) (M13 x 7).toNatClampNeg v fun M19 =>
    wr M19 x 7 ((M19 x 7) + (1 : Int32)) fun M22 =>
    some M22) fun j17 =>
  if (M x 7) < (4 : Int32) then
    j17 M
  else
    cpy M (x + 6) 4 (x + 6) 4 (1 : Int32) (0 : Int32) (3 : Int32) fun M25 =>
    wr M25 x 7 (3 : Int32) fun M28 =>
    j17 M28
theorem take_tl (x : Nat) (v1 v2 : Int32) (M : Mem) : fX3_takeLetter x v1 v2 M = tlC x v2 (up2 (up2 (up2 M x 9 ((M x 9) + ((fX3_aheadOfLast x v1 M) - (1 : Int32)))) x 5 v1) x 8 ((up2 (up2 M x 9 ((M x 9) + ((fX3_aheadOfLast x v1 M) - (1 : Int32)))) x 5 v1) x 8 + 1)) := rfl
theorem lr_note1 {ns g cn s W i q : Nat} {C D : Mem} {v : Int32} (h : Iz ns g cn s W C D) (hi : i < 6) (hv : ¬ v < 0) (hq : q < 4) (e : D 15 i = nI q) : Iz ns g cn s W (up2 (up2 C (17 + i) q v) (11 + i) 7 (nI (q + 1))) (up2 (up2 D 16 (4 * i + q) v) 15 i (nI (q + 1))) :=
  (h.wr1 (p_marg hi hq) (by decide) (by decide) hv).wr1 (p_snd (d := 15) (by decide) (by decide) (by decide) hi) (by decide) (by decide) ⟨q + 1, by omega, rfl⟩
theorem cpy_sh (M : Mem) (y : Nat) : (fun z => if z = y then va_cpy (M y) (M y) 1 0 3 else M z) = up2 (up2 (up2 M y 0 (M y 1)) y 1 (M y 2)) y 2 (M y 3) := by
  funext z k
  simp only [up2_if]
  by_cases h : z = y
  · subst h
    rw [if_pos rfl]
    unfold va_cpy
    by_cases q : 0 ≤ k ∧ k < 0 + 3
    · rw [if_pos q]
      rcases (show k = 0 ∨ k = 1 ∨ k = 2 by omega) with e | e | e <;> subst e <;> simp
    · rw [if_neg q, if_neg (by omega), if_neg (by omega), if_neg (by omega)]
  · rw [if_neg h, if_neg (by omega), if_neg (by omega), if_neg (by omega)]
theorem lr_notes {ns g cn s W i : Nat} {C D : Mem} {v : Int32} (h : Iz ns g cn s W C D) (hi : i < 6) (hv : ¬ v < 0) : LR (tlC (11 + i) v C) (fX8_notes (nI i) v D) (fun x y => Iz ns g cn s W x y) := by
  obtain ⟨q, hq, e⟩ : rng 4 (D 15 i) := h.ok 15 i
  have eC : C (11 + i) 7 = nI q := (h.snd (d := 15) (by decide) (by decide) (by decide) hi).trans e
  unfold tlC fX8_notes
  rw [ix_in (vp6 hi), nI_cl (by omega), show 11 + i + 6 = 17 + i by omega]
  dsimp only [jn]
  rw [eC, e]
  by_cases q4 : q < 4
  · rw [if_pos (show nI q < (4 : Int32) from nI_lt (b := 4) q4 (by decide)), if_neg (show ¬ nI q = (4 : Int32) from fun z => by have := (nI_eq (a := q) (b := 4) (by omega) (by decide)).mp z; omega), n4, ix_in (vp4 q4), ix_in (vp24 (by omega)), nI_cl (by omega), nI_cl (by omega)]
    dsimp only [wr]
    rw [up2_nx (show 11 + i ≠ 17 + i by omega), eC, up2_nx (show (15 : Nat) ≠ 16 by decide), e, nI_1]
    exact LR.ret (lr_note1 h hi hv q4 e)
  · have : q = 4 := by omega
    subst this
    rw [if_neg (show ¬ nI 4 < (4 : Int32) by decide), if_pos (show nI 4 = (4 : Int32) from rfl)]
    unfold cpy
    rw [if_neg (by decide), show (1 : Int32).toNatClampNeg = 1 from rfl, show (0 : Int32).toNatClampNeg = 0 from rfl, show (3 : Int32).toNatClampNeg = 3 from rfl, cpy_sh]
    obtain ⟨n, hn⟩ : ∃ k, FUEL = k + 1 + 1 + 1 + 1 := ⟨4092, rfl⟩
    have v0 : (4 : Int32) * nI i = nI (4 * i) := by rw [show (4 : Int32) = nI 4 from rfl, pk_mul]
    have r1 : C (17 + i) 1 = D 16 (4 * i + 1) := h.rd (p_marg hi (by decide))
    have r2 : C (17 + i) 2 = D 16 (4 * i + 2) := h.rd (p_marg hi (by decide))
    have r3 : C (17 + i) 3 = D 16 (4 * i + 3) := h.rd (p_marg hi (by decide))
    have hok : ∀ k, ¬ D 16 k < 0 := fun k => h.ok 16 k
    have k3 : Iz ns g cn s W (up2 (up2 (up2 C (17 + i) 0 (D 16 (4 * i + 1))) (17 + i) 1 (D 16 (4 * i + 2))) (17 + i) 2 (D 16 (4 * i + 3))) (up2 (up2 (up2 D 16 (4 * i + 0) (D 16 (4 * i + 1))) 16 (4 * i + 1) (D 16 (4 * i + 2))) 16 (4 * i + 2) (D 16 (4 * i + 3))) := ((h.wr1 (p_marg hi (by decide)) (by decide) (by decide) (hok _)).wr1 (p_marg hi (by decide)) (by decide) (by decide) (hok _)).wr1 (p_marg hi (by decide)) (by decide) (by decide) (hok _)
    have eL : fX8_notes_L17 FUEL (nI i) v ((4 : Int32) * nI i) 0 D = some (up2 (up2 (up2 D 16 (4 * i + 0) (D 16 (4 * i + 1))) 16 (4 * i + 1) (D 16 (4 * i + 2))) 16 (4 * i + 2) (D 16 (4 * i + 3))) := by
      rw [hn, v0, show (0 : Int32) = nI 0 from rfl]
      rw [fX8_notes_L17, if_neg (show ¬ (3 : Int32) ≤ nI 0 by decide), nI_add, nI_1, ix_in (vp24 (by omega)), ix_in (vp24 (by omega)), nI_cl (by omega), nI_cl (by omega), nI_1]
      dsimp only [wr]
      rw [fX8_notes_L17, if_neg (show ¬ (3 : Int32) ≤ nI (0 + 1) by decide), nI_add, nI_1, ix_in (vp24 (by omega)), ix_in (vp24 (by omega)), nI_cl (by omega), nI_cl (by omega), nI_1, up2_nk (show 4 * i + (0 + 1) + 1 ≠ 4 * i + 0 by omega)]
      dsimp only [wr]
      rw [fX8_notes_L17, if_neg (show ¬ (3 : Int32) ≤ nI (0 + 1 + 1) by decide), nI_add, nI_1, ix_in (vp24 (by omega)), ix_in (vp24 (by omega)), nI_cl (by omega), nI_cl (by omega), nI_1, up2_nk (show 4 * i + (0 + 1 + 1) + 1 ≠ 4 * i + (0 + 1) by omega), up2_nk (show 4 * i + (0 + 1 + 1) + 1 ≠ 4 * i + 0 by omega)]
      dsimp only [wr]
      rw [fX8_notes_L17, if_pos (show (3 : Int32) ≤ nI (0 + 1 + 1 + 1) by decide)]
    rw [eL, bnd1_s, r1, r2, r3]
    generalize hC3 : up2 (up2 (up2 C (17 + i) 0 (D 16 (4 * i + 1))) (17 + i) 1 (D 16 (4 * i + 2))) (17 + i) 2 (D 16 (4 * i + 3)) = C3 at k3 ⊢
    generalize hD3 : up2 (up2 (up2 D 16 (4 * i + 0) (D 16 (4 * i + 1))) 16 (4 * i + 1) (D 16 (4 * i + 2))) 16 (4 * i + 2) (D 16 (4 * i + 3)) = D3 at k3 ⊢
    have e3 : D3 15 i = nI 4 := by
      rw [← hD3, up2_nx (by decide), up2_nx (by decide), up2_nx (by decide)]; exact e
    dsimp only [wr]
    rw [e3, nI_pred]
    have k4 : Iz ns g cn s W (up2 C3 (11 + i) 7 (nI 3)) (up2 D3 15 i (nI 3)) := k3.wr1 (p_snd (d := 15) (by decide) (by decide) (by decide) hi) (by decide) (by decide) ⟨3, by decide, rfl⟩
    rw [show (3 : Int32) = nI 3 from rfl, up2_at, up2_at, n4, ix_in (vp4 (by decide)), ix_in (vp24 (by omega)), nI_cl (by omega), nI_cl (by omega), up2_nx (show 11 + i ≠ 17 + i by omega), up2_at, up2_nx (show (15 : Nat) ≠ 16 by decide), up2_at, nI_1]
    exact LR.ret (lr_note1 k4 hi hv (by decide) (up2_at _ _ _ _))
theorem bnd1_as {A B γ : Type} (a : Option A) (f : A → Option B) (K : B → Option γ) : bnd1 a (fun t => bnd1 (f t) K) = bnd1 (bnd1 a f) K := by
  cases a <;> rfl
/-- what follows a noted margin: the class's tail of takeLetter beside adapts -/
theorem lr_adapt {ns g cn s W i : Nat} {C D : Mem} (h : Iz ns g cn s W C D) (hs : s < W) (hi : i < 6) (hno : D 15 i = nI 4) :
    LR (bnd1 (fX3_greatestMargin (11 + i) C) fun t25 =>
    bnd1 (fX5_find (C (11 + i) 0) (C (11 + i) 1) t25 C) fun M29 =>
    jn (
      wr M29 (11 + i) 7 (0 : Int32) fun M34 =>
      bnd2 (fX2_sendAnswer (nI s) (11 + i) M34) fun t41 M40 =>
      if t41 = 0 then
        some M40
      else
        if (M40 (11 + i) 3) = (1 : Int32) then
          wr M40 (11 + i) 0 (M40 39 0) fun M42 =>
          wr M42 (11 + i) 1 (M42 39 1) fun M45 =>
          some M45
        else
          some M40) fun j33 =>
    if (M29 39 0) = (M29 (11 + i) 0) then
      if (M29 39 1) = (M29 (11 + i) 1) then
        some M29
      else
        j33
    else
      j33) (fX8_adapts (nI i) D) (fun x y => Iz ns g cn s W x y) := by
  have hnoC : C (11 + i) 7 = nI 4 := (h.snd (d := 15) (by decide) (by decide) (by decide) hi).trans hno
  rw [bnd1_as]
  unfold fX8_adapts
  refine LR.b11 (lr_tune h hi hnoC) (fun C1 D1 r => ?_)
  obtain ⟨⟨r, p, hr, hp, t1, t2, t3, t4⟩, k⟩ := r
  rw [ix_in (vp6 hi), nI_cl (by omega)]
  refine LR.jn0 ?_ (fun kk kk' hk => ?_)
  · refine LR.wl (LR.wr ?_)
    have k1 : Iz ns g cn s W (up2 C1 (11 + i) 7 0) (up2 D1 15 i 0) := k.wr1 (p_snd (d := 15) (by decide) (by decide) (by decide) hi) (by decide) (by decide) ⟨0, by decide, rfl⟩
    refine LR.b22 (lr_answers k1 hs hi) (fun x1 x2 y1 y2 q => ?_)
    obtain ⟨q1, q2, q3⟩ := q
    dsimp only at q1 q2 q3
    subst q1
    refine LR.ite Iff.rfl (fun _ => LR.ret q2) (fun _ => ?_)
    rw [show x2 (11 + i) 3 = y2 12 i from q2.snd (d := 12) (by decide) (by decide) (by decide) hi]
    refine LR.ite Iff.rfl (fun _ => ?_) (fun _ => LR.ret q2)
    have e0 : x2 39 0 = nI r := by rw [q3, up2_nx (by omega)]; exact t1
    have e1 : x2 39 1 = nI p := by rw [q3, up2_nx (by omega)]; exact t3
    dsimp only [wr]
    rw [up2_nx (show 39 ≠ 11 + i by omega), e0, e1, t2, t4]
    exact LR.ret ((q2.wr1 (p_snd (d := 9) (by decide) (by decide) (by decide) hi) (by decide) (by decide) ⟨r, hr, rfl⟩).wr1 (p_snd (d := 10) (by decide) (by decide) (by decide) hi) (by decide) (by decide) ⟨p, hp, rfl⟩)
  · rw [t1, t2, t3, t4, show C1 (11 + i) 0 = D1 9 i from k.snd (d := 9) (by decide) (by decide) (by decide) hi, show C1 (11 + i) 1 = D1 10 i from k.snd (d := 10) (by decide) (by decide) (by decide) hi]
    exact LR.ite Iff.rfl (fun _ => LR.ite Iff.rfl (fun _ => LR.ret k) (fun _ => hk)) (fun _ => hk)
theorem best_cong {C C' : Mem} (h : C' 38 = C 38) (v : Int32) : fX6_bestGate v C' = fX6_bestGate v C := by
  have key : ∀ n a b d, fX6_bestGate_L4 n a b d C' = fX6_bestGate_L4 n a b d C := by
    intro n
    induction n with
    | zero => intros; rfl
    | succ n ih =>
      intro a b d
      rw [fX6_bestGate_L4, fX6_bestGate_L4]
      unfold fX6_heardAt
      rw [h]
      simp only [ih]
  unfold fX6_bestGate
  rw [key]
theorem reo3 {C : Mem} {a1 a2 b1 b2 g1 g2 : Nat} {va vb vg : Int32} (h1 : ¬ (b1 = g1 ∧ b2 = g2)) (h2 : ¬ (a1 = g1 ∧ a2 = g2)) : up2 (up2 (up2 C a1 a2 va) b1 b2 vb) g1 g2 vg = up2 (up2 (up2 C g1 g2 vg) a1 a2 va) b1 b2 vb := by
  rw [up2_comm h1, up2_comm (M := C) h2]
theorem lr_letter {ns g cn s W i : Nat} {C D : Mem} (h : Iz ns g cn s W C D) (hs : s < W) (hi : i < 6) (e24 : D 24 0 = nI i) (hk : rng 63 (D 25 0)) (hdue : ¬ fX3_isDue (11 + i) (D 25 0) C = 0) : LR (fX2_takeLetter (nI s) (11 + i) C) (fX8_closes D) (fun x y => y.1 = 1 ∧ Iz ns g cn s W x y.2) := by
  have hg := h.g1
  have hW := h.win.2.1
  have hw0 := win0 h hs
  have hkm : ¬ D 25 0 = -1 := fun z => by
    obtain ⟨m, hm, e⟩ := hk
    have := nI_pos (n := m) (by omega)
    rw [← e, z] at this; exact this m1_neg
  obtain ⟨y0, hy0, b1, b2, b3, b4⟩ := best_ok h hs
  have y4 : y0 < 4 := by omega
  have z0 : (0 : Int32).toNatClampNeg = 0 := rfl
  unfold fX2_takeLetter fX8_closes
  rw [z0, if_neg hkm, e24, due_eq h hi hk, bnd1_s, if_neg hdue, ix_in (vp6 hi), nI_cl (show i < 2147483648 by omega), far_eq h hi hk, bnd1_s, b1, bnd1_s]
  dsimp only [wr]
  generalize hvg : fX3_aheadOfLast (11 + i) (D 25 0) C = far
  -- pairs, in the reference's order
  have r18 : C (11 + i) 9 = D 18 i := h.snd (d := 18) (by decide) (by decide) (by decide) hi
  have r17 : C (11 + i) 8 = D 17 i := h.snd (d := 17) (by decide) (by decide) (by decide) hi
  have r29 : C 1 10 = D 29 0 := h.rd (p_sum (k := 0) (by decide))
  have r7 : C (24 + y0) 5 = D 7 y0 := h.gat (d := 7) (by decide) (by decide) y4
  have k1 : Iz ns g cn s W (up2 C (11 + i) 9 (D 18 i + (far - 1))) (up2 D 18 i (D 18 i + (far - 1))) := h.wr1 (p_snd (d := 18) (by decide) (by decide) (by decide) hi) (by decide) (by decide) (by simp [okv])
  have k2 : Iz ns g cn s W (up2 (up2 C (11 + i) 9 (D 18 i + (far - 1))) (11 + i) 5 (D 25 0)) (up2 (up2 D 18 i (D 18 i + (far - 1))) 14 i (D 25 0)) := k1.wr1 (p_snd (d := 14) (by decide) (by decide) (by decide) hi) (by decide) (by decide) hk
  have k3 : Iz ns g cn s W (up2 (up2 (up2 C (11 + i) 9 (D 18 i + (far - 1))) (11 + i) 5 (D 25 0)) (11 + i) 8 (D 17 i + 1)) (up2 (up2 (up2 D 18 i (D 18 i + (far - 1))) 14 i (D 25 0)) 17 i (D 17 i + 1)) := k2.wr1 (p_snd (d := 17) (by decide) (by decide) (by decide) hi) (by decide) (by decide) (by simp [okv])
  have k4 : Iz ns g cn s W (up2 (up2 (up2 (up2 C (11 + i) 9 (D 18 i + (far - 1))) (11 + i) 5 (D 25 0)) (11 + i) 8 (D 17 i + 1)) 1 10 (D 29 0 + 1)) (up2 (up2 (up2 (up2 D 18 i (D 18 i + (far - 1))) 14 i (D 25 0)) 17 i (D 17 i + 1)) 29 0 (D 29 0 + 1)) := k3.wr1 (p_sum (k := 0) (by decide)) (by decide) (by decide) (by simp [okv])
  have k5 : Iz ns g cn s W (up2 (up2 (up2 (up2 (up2 C (11 + i) 9 (D 18 i + (far - 1))) (11 + i) 5 (D 25 0)) (11 + i) 8 (D 17 i + 1)) 1 10 (D 29 0 + 1)) (24 + y0) 5 (D 7 y0 + 1)) (up2 (up2 (up2 (up2 (up2 D 18 i (D 18 i + (far - 1))) 14 i (D 25 0)) 17 i (D 17 i + 1)) 29 0 (D 29 0 + 1)) 7 y0 (D 7 y0 + 1)) := k4.wr1 (p_gate (d := 7) (by decide) (by decide) y4) (by decide) (by decide) (by simp [okv])
  -- the reference's side
  rw [up2_nx (show (17 : Nat) ≠ 14 by decide), up2_nx (show (17 : Nat) ≠ 18 by decide), up2_nx (show (29 : Nat) ≠ 17 by decide), up2_nx (show (29 : Nat) ≠ 14 by decide), up2_nx (show (29 : Nat) ≠ 18 by decide)]
  obtain ⟨y9, -, c1, c2, -, -⟩ := best_ok k4 hs
  rw [best_cong (C := C) (by rw [up2_row (by decide), up2_row (by omega), up2_row (by omega), up2_row (by omega)]), b1] at c1
  rw [← Option.some.inj c1] at c2
  rw [c2, bnd1_s, ix_in (vp4 y4), ix_in (vp4 y4), ix_in (vp1560 (by omega)), nI_cl (show y0 < 2147483648 by omega)]
  rw [up2_nx (show (7 : Nat) ≠ 29 by decide), up2_nx (show (7 : Nat) ≠ 17 by decide), up2_nx (show (7 : Nat) ≠ 14 by decide), up2_nx (show (7 : Nat) ≠ 18 by decide)]
  rw [up2_nx (show (28 : Nat) ≠ 7 by decide), up2_nx (show (28 : Nat) ≠ 29 by decide), up2_nx (show (28 : Nat) ≠ 17 by decide), up2_nx (show (28 : Nat) ≠ 14 by decide), up2_nx (show (28 : Nat) ≠ 18 by decide)]
  -- the class's side
  rw [ix_in (vp390 (by omega)), nI_cl (show s < 2147483648 by omega), r29, up2_nx (show 24 + y0 ≠ 1 by omega), r7, heardAt_ok _ (by omega) y4, bnd1_s, up2_nx (show 38 ≠ 24 + y0 by omega), up2_nx (show (38 : Nat) ≠ 1 by decide), b3, up2_nx (show 36 ≠ 24 + y0 by omega), up2_nx (show (36 : Nat) ≠ 1 by decide), hw0.2.1, take_tl]
  have efar : fX3_aheadOfLast (11 + i) (D 25 0) (up2 (up2 C 1 10 (D 29 0 + 1)) (24 + y0) 5 (D 7 y0 + 1)) = far := by
    rw [← hvg]
    unfold fX3_aheadOfLast
    rw [up2_nx (show 11 + i ≠ 24 + y0 by omega), up2_nx (show 11 + i ≠ 1 by omega)]
  rw [efar]
  rw [up2_nk (show (8 : Nat) ≠ 5 by decide), up2_nk (show (8 : Nat) ≠ 9 by decide)]
  rw [up2_nx (show 11 + i ≠ 24 + y0 by omega), up2_nx (show 11 + i ≠ 1 by omega), r18]
  rw [up2_nx (show 11 + i ≠ 24 + y0 by omega), up2_nx (show 11 + i ≠ 1 by omega), r17]
  rw [reo3 (C := C) (g1 := 11 + i) (g2 := 9) (by omega) (by omega), reo3 (C := up2 C (11 + i) 9 (D 18 i + (far - 1))) (g1 := 11 + i) (g2 := 5) (by omega) (by omega), reo3 (C := up2 (up2 C (11 + i) 9 (D 18 i + (far - 1))) (11 + i) 5 (D 25 0)) (g1 := 11 + i) (g2 := 8) (by omega) (by omega)]
  refine LR.b11 (lr_notes k5 hi b4) (fun C6 D6 k6 => ?_)
  obtain ⟨q, hq, eq⟩ : rng 4 (D6 15 i) := k6.ok 15 i
  have eqC : C6 (11 + i) 7 = nI q := (k6.snd (d := 15) (by decide) (by decide) (by decide) hi).trans eq
  by_cases q4 : q = 4
  · subst q4
    rw [eqC, if_pos (show (4 : Int32) ≤ nI 4 by decide), eq, if_pos (show nI 4 = (4 : Int32) from rfl)]
    obtain ⟨C7, D7, a1, a2, a3⟩ := lr_adapt k6 hs hi eq
    rw [a2, bnd1_s]
    exact ⟨C7, (1, D7), a1, rfl, rfl, a3⟩
  · rw [eqC, if_neg (show ¬ (4 : Int32) ≤ nI q from nI_ge (b := 4) (by omega) (by decide)), eq, if_neg (show ¬ nI q = (4 : Int32) from fun z => q4 ((nI_eq (a := q) (b := 4) (by omega) (by decide)).mp z))]
    exact LR.ret ⟨rfl, k6⟩
