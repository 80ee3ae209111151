/-! one order of the text -/
def pS (T : Nat → Int32) (z ns p : Nat) : Int32 × Nat := if fX4_hasSender (T p) = 0 then (0, p + 1) else pFig T z (nI ns) (p + 1)
def pG (T : Nat → Int32) (z g p q : Nat) : Int32 × Nat := if fX4_hasGate (T p) = 0 then (0, q) else pFig T z (nI g) q
def pN (T : Nat → Int32) (z p q : Nat) : Int32 × Nat := if fX4_hasNumber (T p) = 0 then (0, q) else pNum T z (fX4_mostOfNumber (T p)) q
def pE (T : Nat → Int32) (z q : Nat) : Nat × Bool := if sk T z q < z ∧ T (sk T z q) = 59 then (sk T z q + 1, true) else (sk T z q, false)
def oS (T : Nat → Int32) (z ns _g p : Nat) : Int32 × Nat := pS T z ns p
def oG (T : Nat → Int32) (z ns g p : Nat) : Int32 × Nat := pG T z g p (oS T z ns g p).2
def oN (T : Nat → Int32) (z ns g p : Nat) : Int32 × Nat := pN T z p (oG T z ns g p).2
def pPl (T : Nat → Int32) (z ns g p : Nat) : Nat × Bool :=
  if fX4_isKind (T p) = 0 then (p, false)
  else if (oS T z ns g p).1 = -1 then ((oS T z ns g p).2, false)
  else if (oG T z ns g p).1 = -1 then ((oG T z ns g p).2, false)
  else if (oN T z ns g p).1 = -1 then ((oN T z ns g p).2, false)
  else pE T z (oN T z ns g p).2
theorem kinds {v : Int32} (h : ¬ fX4_isKind v = 0) : v = 43 ∨ v = 98 ∨ v = 103 ∨ v = 108 ∨ v = 114 ∨ v = 115 ∨ v = 122 := by
  by_cases h1 : v = 43
  · exact Or.inl h1
  by_cases h2 : v = 98
  · exact Or.inr (Or.inl h2)
  by_cases h3 : v = 103
  · exact Or.inr (Or.inr (Or.inl h3))
  by_cases h4 : v = 108
  · exact Or.inr (Or.inr (Or.inr (Or.inl h4)))
  by_cases h5 : v = 114
  · exact Or.inr (Or.inr (Or.inr (Or.inr (Or.inl h5))))
  by_cases h6 : v = 115
  · exact Or.inr (Or.inr (Or.inr (Or.inr (Or.inr (Or.inl h6)))))
  by_cases h7 : v = 122
  · exact Or.inr (Or.inr (Or.inr (Or.inr (Or.inr (Or.inr h7)))))
  refine absurd ?_ h
  simp [fX4_isKind, fX4_hasNumber, fX4_hasSender, fX4_hasGate, h1, h2, h3, h4, h5, h6, h7]
theorem kindI (v : Int32) : fX8_isOrder v = 0 ↔ fX4_isKind v = 0 := by
  by_cases h : fX4_isKind v = 0
  · refine ⟨fun _ => h, fun _ => ?_⟩
    have n : ∀ w : Int32, ¬ fX4_isKind w = 0 → ¬ v = w := fun w hw e => hw (e ▸ h)
    unfold fX8_isOrder
    rw [if_neg (n 115 (by decide)), if_neg (n 122 (by decide)), if_neg (n 114 (by decide)), if_neg (n 43 (by decide)), if_neg (n 103 (by decide)), if_neg (n 98 (by decide)), if_neg (n 108 (by decide))]
  · refine ⟨fun q => ?_, fun q => absurd q h⟩
    rcases kinds h with e | e | e | e | e | e | e <;> subst e <;> exact absurd q (by decide)
section PL
variable {T : Nat → Int32} {z ns g p : Nat}
theorem oS_le (hp : p < z) : p + 1 ≤ (oS T z ns g p).2 ∧ (oS T z ns g p).2 ≤ z := by
  unfold oS pS
  by_cases h : fX4_hasSender (T p) = 0
  · rw [if_pos h]; exact ⟨Nat.le_refl _, hp⟩
  · rw [if_neg h]; exact pFig_le hp
theorem oG_le (hp : p < z) : p + 1 ≤ (oG T z ns g p).2 ∧ (oG T z ns g p).2 ≤ z := by
  obtain ⟨h1, h2⟩ := oS_le (T := T) (ns := ns) (g := g) hp
  unfold oG pG
  by_cases h : fX4_hasGate (T p) = 0
  · rw [if_pos h]; exact ⟨h1, h2⟩
  · rw [if_neg h]
    obtain ⟨h3, h4⟩ := pFig_le (T := T) (n := nI g) h2
    exact ⟨by omega, h4⟩
theorem oN_le (hp : p < z) : p + 1 ≤ (oN T z ns g p).2 ∧ (oN T z ns g p).2 ≤ z := by
  obtain ⟨h1, h2⟩ := oG_le (T := T) (ns := ns) (g := g) hp
  unfold oN pN
  by_cases h : fX4_hasNumber (T p) = 0
  · rw [if_pos h]; exact ⟨h1, h2⟩
  · rw [if_neg h]
    obtain ⟨h3, h4⟩ := pNum_le (T := T) (n := fX4_mostOfNumber (T p)) h2
    exact ⟨by omega, h4⟩
theorem pE_le {q : Nat} (hq : q ≤ z) : q ≤ (pE T z q).1 ∧ (pE T z q).1 ≤ z ∧ ((pE T z q).2 = true → q + 1 ≤ (pE T z q).1) := by
  have h1 := sk_ge (T := T) hq
  have h2 := sk_le (T := T) hq
  unfold pE
  by_cases h : sk T z q < z ∧ T (sk T z q) = 59
  · rw [if_pos h]
    exact ⟨by show q ≤ sk T z q + 1; omega, h.1, fun _ => by show q + 1 ≤ sk T z q + 1; omega⟩
  · rw [if_neg h]
    exact ⟨h1, h2, fun e => by cases e⟩
theorem pPl_le (hp : p < z) : p ≤ (pPl T z ns g p).1 ∧ (pPl T z ns g p).1 ≤ z := by
  obtain ⟨a1, a2⟩ := oS_le (T := T) (ns := ns) (g := g) hp
  obtain ⟨b1, b2⟩ := oG_le (T := T) (ns := ns) (g := g) hp
  obtain ⟨c1, c2⟩ := oN_le (T := T) (ns := ns) (g := g) hp
  obtain ⟨d1, d2, _⟩ := pE_le (T := T) c2
  unfold pPl
  by_cases h : fX4_isKind (T p) = 0
  · rw [if_pos h]; exact ⟨Nat.le_refl _, by show p ≤ z; omega⟩
  rw [if_neg h]
  by_cases h1 : (oS T z ns g p).1 = -1
  · rw [if_pos h1]; exact ⟨by show p ≤ (oS T z ns g p).2; omega, a2⟩
  rw [if_neg h1]
  by_cases h2 : (oG T z ns g p).1 = -1
  · rw [if_pos h2]; exact ⟨by show p ≤ (oG T z ns g p).2; omega, b2⟩
  rw [if_neg h2]
  by_cases h3 : (oN T z ns g p).1 = -1
  · rw [if_pos h3]; exact ⟨by show p ≤ (oN T z ns g p).2; omega, c2⟩
  rw [if_neg h3]
  exact ⟨by omega, d2⟩
/-- what a good order has found -/
theorem pPl_ok (hn : ns ≤ 6) (hg : g ≤ 4) (hp : p < z) (h : (pPl T z ns g p).2 = true) : ¬ fX4_isKind (T p) = 0 ∧ (¬ fX4_hasSender (T p) = 0 → ∃ i, i < ns ∧ (oS T z ns g p).1 = nI i) ∧ (¬ fX4_hasGate (T p) = 0 → ∃ i, i < g ∧ (oG T z ns g p).1 = nI i) ∧ (¬ fX4_hasNumber (T p) = 0 → ∃ i, i ≤ 99 ∧ (oN T z ns g p).1 = nI i) ∧ p + 3 ≤ (pPl T z ns g p).1 ∧ (pPl T z ns g p).1 ≤ z := by
  obtain ⟨a1, a2⟩ := oS_le (T := T) (ns := ns) (g := g) hp
  obtain ⟨b1, b2⟩ := oG_le (T := T) (ns := ns) (g := g) hp
  obtain ⟨c1, c2⟩ := oN_le (T := T) (ns := ns) (g := g) hp
  obtain ⟨d1, d2, d3⟩ := pE_le (T := T) c2
  unfold pPl at h ⊢
  by_cases hk : fX4_isKind (T p) = 0
  · rw [if_pos hk] at h; cases h
  rw [if_neg hk] at h ⊢
  by_cases h1 : (oS T z ns g p).1 = -1
  · rw [if_pos h1] at h; cases h
  rw [if_neg h1] at h ⊢
  by_cases h2 : (oG T z ns g p).1 = -1
  · rw [if_pos h2] at h; cases h
  rw [if_neg h2] at h ⊢
  by_cases h3 : (oN T z ns g p).1 = -1
  · rw [if_pos h3] at h; cases h
  rw [if_neg h3] at h ⊢
  have d3 := d3 h
  have hS : ¬ fX4_hasSender (T p) = 0 → (∃ i, i < ns ∧ (oS T z ns g p).1 = nI i) ∧ p + 2 ≤ (oS T z ns g p).2 := fun hs => by
    unfold oS pS at h1 ⊢
    rw [if_neg hs] at h1 ⊢
    exact pFig_ok (by omega) hp h1
  have hG : ¬ fX4_hasGate (T p) = 0 → (∃ i, i < g ∧ (oG T z ns g p).1 = nI i) ∧ (oS T z ns g p).2 + 1 ≤ (oG T z ns g p).2 := fun hs => by
    unfold oG pG at h2 ⊢
    rw [if_neg hs] at h2 ⊢
    exact pFig_ok (by omega) a2 h2
  have hG' : fX4_hasGate (T p) = 0 → (oG T z ns g p).2 = (oS T z ns g p).2 := fun hs => by
    unfold oG pG
    rw [if_pos hs]
  have hN : ¬ fX4_hasNumber (T p) = 0 → (∃ i, i ≤ 99 ∧ (oN T z ns g p).1 = nI i) ∧ (oG T z ns g p).2 + 1 ≤ (oN T z ns g p).2 := fun hs => by
    obtain ⟨N, hN, e⟩ : ∃ N, N ≤ 99 ∧ fX4_mostOfNumber (T p) = nI N := by
      rcases kinds hk with e | e | e | e | e | e | e <;> rw [e]
      · exact ⟨99, by decide, rfl⟩
      · exact ⟨40, by decide, rfl⟩
      · exact ⟨60, by decide, rfl⟩
      · exact ⟨5, by decide, rfl⟩
      · exact ⟨99, by decide, rfl⟩
      · exact ⟨99, by decide, rfl⟩
      · exact ⟨99, by decide, rfl⟩
    unfold oN pN at h3 ⊢
    rw [if_neg hs, e] at h3 ⊢
    obtain ⟨⟨i, hi, e2⟩, l⟩ := pNum_ok hN b2 h3
    exact ⟨⟨i, by omega, e2⟩, l⟩
  have hN' : fX4_hasNumber (T p) = 0 → (oN T z ns g p).2 = (oG T z ns g p).2 := fun hs => by
    unfold oN pN
    rw [if_pos hs]
  refine ⟨hk, fun q => (hS q).1, fun q => (hG q).1, fun q => (hN q).1, ?_, d2⟩
  rcases kinds hk with e | e | e | e | e | e | e
  · have := (hN (by rw [e]; decide)).2
    omega
  · have := (hN (by rw [e]; decide)).2
    have := (hG (by rw [e]; decide)).2
    omega
  · have := (hN (by rw [e]; decide)).2
    have := (hG (by rw [e]; decide)).2
    omega
  · have := (hN (by rw [e]; decide)).2
    have := (hG (by rw [e]; decide)).2
    omega
  · have := (hS (by rw [e]; decide)).2
    have := hG' (by rw [e]; decide)
    have := hN' (by rw [e]; decide)
    omega
  · have := (hS (by rw [e]; decide)).2
    have := hG' (by rw [e]; decide)
    have := hN' (by rw [e]; decide)
    omega
  · have := (hS (by rw [e]; decide)).2
    have := hG' (by rw [e]; decide)
    have := hN' (by rw [e]; decide)
    omega
end PL
section CO
variable {T : Nat → Int32} {z ns g : Nat} {M : Mem}
theorem c_end (hT : TOk T z) (hM : cT T z M) {q : Nat} (hq : q ≤ z) : fX4_readEnd (cQ M q) = some (if (pE T z q).2 = true then 1 else 0, cQ M (pE T z q).1) := by
  have hz := hT.1
  have h2 := sk_le (T := T) hq
  unfold fX4_readEnd
  rw [c_sk hT hM hq, bnd1_s, cQ_7, cQ_k (by decide), hM.1]
  by_cases h : sk T z q < z
  · rw [if_neg (fun q => by have := (le_nI (by omega) (by omega)).mp q; omega), ix_in (vp120 (by omega)), nI_cl (by omega), cQ_r (by decide), hM.2 _ (by omega)]
    by_cases h3 : T (sk T z q) = 59
    · rw [if_pos h3, show pE T z q = (sk T z q + 1, true) from if_pos ⟨h, h3⟩, wr_s, nI_1, cQ_w]
      rfl
    · rw [if_neg h3, show pE T z q = (sk T z q, false) from if_neg (fun w => h3 w.2)]
      rfl
  · rw [if_pos ((le_nI (by omega) (by omega)).mpr (by omega)), show pE T z q = (sk T z q, false) from if_neg (fun w => h w.1)]
    rfl
def Ord (T : Nat → Int32) (z ns g p o : Nat) (M M' : Mem) : Prop :=
  M' 2 7 = nI (pPl T z ns g p).1 ∧ M' 2 6 = nI (o + 1) ∧ M' 41 o = T p ∧ M' 42 o = (oS T z ns g p).1 ∧ M' 43 o = (oG T z ns g p).1 ∧ M' 44 o = (oN T z ns g p).1 ∧ ∀ x y, ¬ (x = 2 ∧ (y = 6 ∨ y = 7)) → ¬ (41 ≤ x ∧ x ≤ 44 ∧ y = o) → M' x y = M x y
theorem c_ord (hT : TOk T z) (hM : cT T z M) {p o : Nat} (hp : p < z) (ho : M 2 6 = nI o) (ho2 : o < 40) :
    ((pPl T z ns g p).2 = false ∧ fX4_readOrder (nI ns) (nI g) (cQ M p) = some (0, cQ M (pPl T z ns g p).1)) ∨
    ((pPl T z ns g p).2 = true ∧ ∃ M', fX4_readOrder (nI ns) (nI g) (cQ M p) = some (1, M') ∧ Ord T z ns g p o M M') := by
  have hz := hT.1
  obtain ⟨a1, a2⟩ := oS_le (T := T) (ns := ns) (g := g) hp
  obtain ⟨b1, b2⟩ := oG_le (T := T) (ns := ns) (g := g) hp
  obtain ⟨c1, c2⟩ := oN_le (T := T) (ns := ns) (g := g) hp
  have e1 : ∀ K : Int32 → Mem → Option (Int32 × Mem), jn K (fun j => if fX4_hasSender (T p) = 0 then j 0 (cQ M (p + 1)) else bnd2 (fX4_readFigure (nI ns) (cQ M (p + 1))) fun t M => j t M) = K (oS T z ns g p).1 (cQ M (oS T z ns g p).2) := fun K => by
    dsimp only [jn]
    unfold oS pS
    by_cases h : fX4_hasSender (T p) = 0
    · rw [if_pos h, if_pos h]
    · rw [if_neg h, if_neg h, c_readFig hT hM hp]; rfl
  have e2 : ∀ K : Int32 → Mem → Option (Int32 × Mem), jn K (fun j => if fX4_hasGate (T p) = 0 then j 0 (cQ M (oS T z ns g p).2) else bnd2 (fX4_readFigure (nI g) (cQ M (oS T z ns g p).2)) fun t M => j t M) = K (oG T z ns g p).1 (cQ M (oG T z ns g p).2) := fun K => by
    dsimp only [jn]
    unfold oG pG
    by_cases h : fX4_hasGate (T p) = 0
    · rw [if_pos h, if_pos h]
    · rw [if_neg h, if_neg h, c_readFig hT hM a2]; rfl
  have e3 : ∀ K : Int32 → Mem → Option (Int32 × Mem), jn K (fun j => if fX4_hasNumber (T p) = 0 then j 0 (cQ M (oG T z ns g p).2) else bnd2 (fX4_readNumber (fX4_mostOfNumber (T p)) (cQ M (oG T z ns g p).2)) fun t M => j t M) = K (oN T z ns g p).1 (cQ M (oN T z ns g p).2) := fun K => by
    dsimp only [jn]
    unfold oN pN
    by_cases h : fX4_hasNumber (T p) = 0
    · rw [if_pos h, if_pos h]
    · rw [if_neg h, if_neg h, c_readNum hT hM b2]; rfl
  unfold fX4_readOrder
  rw [cQ_7, ix_in (vp120 (by omega)), nI_cl (by omega), cQ_r (x := 40) (by decide), hM.2 p (by omega)]
  by_cases hk : fX4_isKind (T p) = 0
  · rw [if_pos hk, show pPl T z ns g p = (p, false) from if_pos hk]
    exact Or.inl ⟨rfl, rfl⟩
  rw [if_neg hk, wr_s, nI_1, cQ_w, e1]
  by_cases h1 : (oS T z ns g p).1 = -1
  · rw [if_pos h1, show pPl T z ns g p = ((oS T z ns g p).2, false) from (if_neg hk).trans (if_pos h1)]
    exact Or.inl ⟨rfl, rfl⟩
  rw [if_neg h1, e2]
  by_cases h2 : (oG T z ns g p).1 = -1
  · rw [if_pos h2, show pPl T z ns g p = ((oG T z ns g p).2, false) from (if_neg hk).trans ((if_neg h1).trans (if_pos h2))]
    exact Or.inl ⟨rfl, rfl⟩
  rw [if_neg h2, e3]
  by_cases h3 : (oN T z ns g p).1 = -1
  · rw [if_pos h3, show pPl T z ns g p = ((oN T z ns g p).2, false) from (if_neg hk).trans ((if_neg h1).trans ((if_neg h2).trans (if_pos h3)))]
    exact Or.inl ⟨rfl, rfl⟩
  have ep : pPl T z ns g p = pE T z (oN T z ns g p).2 := (if_neg hk).trans ((if_neg h1).trans ((if_neg h2).trans (if_neg h3)))
  unfold Ord
  rw [if_neg h3, c_end hT hM c2, bnd2_s, ep]
  cases he : (pE T z (oN T z ns g p).2).2 with
  | false => exact Or.inl ⟨rfl, rfl⟩
  | true =>
    rw [if_pos rfl, if_neg (by decide), cQ_k (by decide), ho, ix_in (pk_in o 40 ho2), nI_cl (by omega), wr_s]
    have k : ∀ (X : Mem) (x : Nat) (v : Int32), X 2 6 = nI o → x ≠ 2 → up2 X x o v 2 6 = nI o := fun X x v hX hx => (up2_nx (fun e => hx e.symm)).trans hX
    have q0 : cQ M (pE T z (oN T z ns g p).2).1 2 6 = nI o := (cQ_k (by decide)).trans ho
    rw [k _ 41 _ q0 (by decide), ix_in (pk_in o 40 ho2), nI_cl (by omega), wr_s]
    have q1 := k _ 41 (T p) q0 (by decide)
    rw [k _ 42 _ q1 (by decide), ix_in (pk_in o 40 ho2), nI_cl (by omega), wr_s]
    have q2 := k _ 42 (oS T z ns g p).1 q1 (by decide)
    rw [k _ 43 _ q2 (by decide), ix_in (pk_in o 40 ho2), nI_cl (by omega), wr_s]
    have q3 := k _ 43 (oG T z ns g p).1 q2 (by decide)
    rw [wr_s, k _ 44 _ q3 (by decide), nI_1]
    refine Or.inr ⟨rfl, _, rfl, ?_, up2_at _ _ _ _, ?_, ?_, ?_, ?_, ?_⟩
    · rw [up2_nk (by decide), up2_nx (by decide), up2_nx (by decide), up2_nx (by decide), up2_nx (by decide), cQ_7]
    · rw [up2_nx (by decide), up2_nx (by decide), up2_nx (by decide), up2_nx (by decide), up2_at]
    · rw [up2_nx (by decide), up2_nx (by decide), up2_nx (by decide), up2_at]
    · rw [up2_nx (by decide), up2_nx (by decide), up2_at]
    · rw [up2_nx (by decide), up2_at]
    · intro x y hx hy
      rw [up2_or (by omega), up2_or (by omega), up2_or (by omega), up2_or (by omega), up2_or (by omega)]
      exact up2_or (by omega)
end CO
