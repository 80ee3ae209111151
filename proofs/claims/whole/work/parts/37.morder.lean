/-! one order of the reference -/
section MO
variable {T : Nat → Int32} {z ns g : Nat} {M : Mem}
theorem m_S (hT : TOk T z) (hM : mT T z M) (hn : M 0 1 = nI ns) {p : Nat} (hp : p ≤ z) (a b c d : Int32) : ((pFig T z (nI ns) p).1 = -1 ∧ ∃ a' b', fX8_readsSender (mQ M p a b c d) = some (0, mQ M (pFig T z (nI ns) p).2 a' b' c d)) ∨ (¬ (pFig T z (nI ns) p).1 = -1 ∧ ∃ a', fX8_readsSender (mQ M p a b c d) = some (1, mQ M (pFig T z (nI ns) p).2 a' (pFig T z (nI ns) p).1 c d)) := by
  unfold fX8_readsSender
  rw [mQ_o (x := 0) (k := 1) (by omega), hn]
  rcases m_one hT hM hp (nI ns) a b c d with ⟨h1, h2⟩ | ⟨h1, h2⟩
  · rw [h2, bnd2_s, wr_s, mQ_40, mQ_w41]
    exact Or.inl ⟨h1, _, _, rfl⟩
  · rw [h2, bnd2_s, wr_s, mQ_40, mQ_w41]
    exact Or.inr ⟨h1, _, rfl⟩
theorem m_G (hT : TOk T z) (hM : mT T z M) (hn : M 0 2 = nI g) {p : Nat} (hp : p ≤ z) (a b c d : Int32) : ((pFig T z (nI g) p).1 = -1 ∧ ∃ a' c', fX8_readsGate (mQ M p a b c d) = some (0, mQ M (pFig T z (nI g) p).2 a' b c' d)) ∨ (¬ (pFig T z (nI g) p).1 = -1 ∧ ∃ a', fX8_readsGate (mQ M p a b c d) = some (1, mQ M (pFig T z (nI g) p).2 a' b (pFig T z (nI g) p).1 d)) := by
  unfold fX8_readsGate
  rw [mQ_o (x := 0) (k := 2) (by omega), hn]
  rcases m_one hT hM hp (nI g) a b c d with ⟨h1, h2⟩ | ⟨h1, h2⟩
  · rw [h2, bnd2_s, wr_s, mQ_40, mQ_w42]
    exact Or.inl ⟨h1, _, _, rfl⟩
  · rw [h2, bnd2_s, wr_s, mQ_40, mQ_w42]
    exact Or.inr ⟨h1, _, rfl⟩
theorem m_N (hT : TOk T z) (hM : mT T z M) {p : Nat} (hp : p ≤ z) (mx a b c d : Int32) : ((pNum T z mx p).1 = -1 ∧ ∃ a' d', fX8_readsThird mx (mQ M p a b c d) = some (0, mQ M (pNum T z mx p).2 a' b c d')) ∨ (¬ (pNum T z mx p).1 = -1 ∧ ∃ a', fX8_readsThird mx (mQ M p a b c d) = some (1, mQ M (pNum T z mx p).2 a' b c (pNum T z mx p).1)) := by
  unfold fX8_readsThird
  rcases m_num hT hM hp mx a b c d with ⟨h1, a', h2⟩ | ⟨h1, h2⟩
  · rw [h2, bnd2_s, wr_s, mQ_40, mQ_w43]
    exact Or.inl ⟨h1, _, _, rfl⟩
  · rw [h2, bnd2_s, wr_s, mQ_40, mQ_w43]
    exact Or.inr ⟨h1, _, rfl⟩
/-- the figures of an order: where they fail, and what they are -/
def Nums (T : Nat → Int32) (z ns g p : Nat) (M : Mem) (R : Option (Int32 × Mem)) : Prop :=
  ((oS T z ns g p).1 = -1 ∧ ∃ a b c d, R = some (0, mQ M (oS T z ns g p).2 a b c d)) ∨
  (¬ (oS T z ns g p).1 = -1 ∧ (oG T z ns g p).1 = -1 ∧ ∃ a b c d, R = some (0, mQ M (oG T z ns g p).2 a b c d)) ∨
  (¬ (oS T z ns g p).1 = -1 ∧ ¬ (oG T z ns g p).1 = -1 ∧ (oN T z ns g p).1 = -1 ∧ ∃ a b c d, R = some (0, mQ M (oN T z ns g p).2 a b c d)) ∨
  (¬ (oS T z ns g p).1 = -1 ∧ ¬ (oG T z ns g p).1 = -1 ∧ ¬ (oN T z ns g p).1 = -1 ∧ ∃ a b c d, R = some (1, mQ M (oN T z ns g p).2 a b c d) ∧ (¬ fX4_hasSender (T p) = 0 → b = (oS T z ns g p).1) ∧ (¬ fX4_hasGate (T p) = 0 → c = (oG T z ns g p).1) ∧ (¬ fX4_hasNumber (T p) = 0 → d = (oN T z ns g p).1))
theorem z_ne : ¬ (0 : Int32) = -1 := by decide
theorem m_nums (hT : TOk T z) (hM : mT T z M) (hn : M 0 1 = nI ns) (hg : M 0 2 = nI g) {p : Nat} (hp : p < z) (hk : ¬ fX4_isKind (T p) = 0) (a b c d : Int32) : Nums T z ns g p M (fX8_readsNumbers (T p) (mQ M (p + 1) a b c d)) := by
  obtain ⟨a1, a2⟩ := oS_le (T := T) (ns := ns) (g := g) hp
  obtain ⟨b1, b2⟩ := oG_le (T := T) (ns := ns) (g := g) hp
  have s0 : fX4_hasSender (T p) = 0 → oS T z ns g p = (0, p + 1) := fun h => if_pos h
  have s1 : ¬ fX4_hasSender (T p) = 0 → oS T z ns g p = pFig T z (nI ns) (p + 1) := fun h => if_neg h
  have g0 : fX4_hasGate (T p) = 0 → oG T z ns g p = (0, (oS T z ns g p).2) := fun h => if_pos h
  have g1 : ¬ fX4_hasGate (T p) = 0 → oG T z ns g p = pFig T z (nI g) (oS T z ns g p).2 := fun h => if_neg h
  have n0 : fX4_hasNumber (T p) = 0 → oN T z ns g p = (0, (oG T z ns g p).2) := fun h => if_pos h
  have n1 : ¬ fX4_hasNumber (T p) = 0 → oN T z ns g p = pNum T z (fX4_mostOfNumber (T p)) (oG T z ns g p).2 := fun h => if_neg h
  have only : fX4_hasSender (T p) = 1 → fX4_hasGate (T p) = 0 → fX4_hasNumber (T p) = 0 → fX8_readsNumbers (T p) (mQ M (p + 1) a b c d) = bnd2 (fX8_readsSender (mQ M (p + 1) a b c d)) (fun t M => some (t, M)) → Nums T z ns g p M (fX8_readsNumbers (T p) (mQ M (p + 1) a b c d)) := by
    intro k1 k2 k3 e
    have eS := s1 (by rw [k1]; decide)
    have eG := g0 k2
    have eN := n0 k3
    rw [e]
    rcases m_S (p := p + 1) hT hM hn hp a b c d with ⟨h1, x, y, h2⟩ | ⟨h1, x, h2⟩
    · refine Or.inl ⟨by rw [eS]; exact h1, x, y, c, d, ?_⟩
      rw [h2, eS]; rfl
    · refine Or.inr (Or.inr (Or.inr ⟨by rw [eS]; exact h1, by rw [eG]; exact z_ne, by rw [eN]; exact z_ne, x, _, c, d, ?_, fun _ => by rw [eS], fun q => absurd k2 q, fun q => absurd k3 q⟩))
      rw [h2, eN, eG, eS]; rfl
  have two : ∀ mx, fX4_hasSender (T p) = 0 → fX4_hasGate (T p) = 1 → fX4_hasNumber (T p) = 1 → fX4_mostOfNumber (T p) = mx → fX8_readsNumbers (T p) (mQ M (p + 1) a b c d) = bnd2 (fX8_readsGate (mQ M (p + 1) a b c d)) (fun t M => if t = 0 then some (0, M) else bnd2 (fX8_readsThird mx M) fun t M => if t = 0 then some (0, M) else some (1, M)) → Nums T z ns g p M (fX8_readsNumbers (T p) (mQ M (p + 1) a b c d)) := by
    intro mx k1 k2 k3 k4 e
    have eS := s0 k1
    have eG : oG T z ns g p = pFig T z (nI g) (p + 1) := by rw [g1 (by rw [k2]; decide), eS]
    have eN := n1 (by rw [k3]; decide)
    rw [k4] at eN
    rw [e]
    rcases m_G (p := p + 1) hT hM hg hp a b c d with ⟨h1, x, y, h2⟩ | ⟨h1, x, h2⟩
    · refine Or.inr (Or.inl ⟨by rw [eS]; exact z_ne, by rw [eG]; exact h1, x, b, y, d, ?_⟩)
      rw [h2, bnd2_s, if_pos rfl, eG]
    · rw [h2, bnd2_s, if_neg (by decide)]
      have b3 := b2
      rw [eG] at b3
      rcases m_N hT hM b3 mx x b (pFig T z (nI g) (p + 1)).1 d with ⟨h3, x2, y2, h4⟩ | ⟨h3, x2, h4⟩
      · refine Or.inr (Or.inr (Or.inl ⟨by rw [eS]; exact z_ne, by rw [eG]; exact h1, by rw [eN, eG]; exact h3, x2, b, (pFig T z (nI g) (p + 1)).1, y2, ?_⟩))
        rw [h4, bnd2_s, if_pos rfl, eN, eG]
      · refine Or.inr (Or.inr (Or.inr ⟨by rw [eS]; exact z_ne, by rw [eG]; exact h1, by rw [eN, eG]; exact h3, x2, b, (pFig T z (nI g) (p + 1)).1, (pNum T z mx (pFig T z (nI g) (p + 1)).2).1, ?_, fun q => absurd k1 q, fun _ => ?_, fun _ => ?_⟩))
        · rw [h4, bnd2_s, if_neg (by decide), eN, eG]
        · rw [eG]
        · rw [eN, eG]
  rcases kinds hk with e | e | e | e | e | e | e
  · have k1 : fX4_hasSender (T p) = 0 := by rw [e]; decide
    have k2 : fX4_hasGate (T p) = 0 := by rw [e]; decide
    have eS := s0 k1
    have eG := g0 k2
    have eN := n1 (by rw [e]; decide)
    rw [show fX4_mostOfNumber (T p) = 99 by rw [e]; decide, eG, eS] at eN
    replace eN : oN T z ns g p = pNum T z 99 (p + 1) := eN
    have er : fX8_readsNumbers (T p) (mQ M (p + 1) a b c d) = bnd2 (fX8_readsThird 99 (mQ M (p + 1) a b c d)) (fun t M => some (t, M)) := by
      rw [e]; exact if_pos rfl
    rw [er]
    rcases m_N (p := p + 1) hT hM hp 99 a b c d with ⟨h3, x2, y2, h4⟩ | ⟨h3, x2, h4⟩
    · refine Or.inr (Or.inr (Or.inl ⟨by rw [eS]; exact z_ne, by rw [eG]; exact z_ne, by rw [eN]; exact h3, x2, b, c, y2, ?_⟩))
      rw [h4, bnd2_s, eN]
    · refine Or.inr (Or.inr (Or.inr ⟨by rw [eS]; exact z_ne, by rw [eG]; exact z_ne, by rw [eN]; exact h3, x2, b, c, (pNum T z 99 (p + 1)).1, ?_, fun q => absurd k1 q, fun q => absurd k2 q, fun _ => ?_⟩))
      · rw [h4, bnd2_s, eN]
      · rw [eN]
  · exact two 40 (by rw [e]; decide) (by rw [e]; decide) (by rw [e]; decide) (by rw [e]; decide) (by rw [e]; exact (if_neg (by decide)).trans (if_pos rfl))
  · have k1 : fX4_hasSender (T p) = 1 := by rw [e]; decide
    have k2 : fX4_hasGate (T p) = 1 := by rw [e]; decide
    have eS := s1 (by rw [k1]; decide)
    have eG := g1 (by rw [k2]; decide)
    have eN := n1 (by rw [e]; decide)
    rw [show fX4_mostOfNumber (T p) = 60 by rw [e]; decide] at eN
    have er : fX8_readsNumbers (T p) (mQ M (p + 1) a b c d) = bnd2 (fX8_readsSender (mQ M (p + 1) a b c d)) (fun t M => if t = 0 then some (0, M) else bnd2 (fX8_readsGate M) fun t M => if t = 0 then some (0, M) else bnd2 (fX8_readsThird 60 M) fun t M => if t = 0 then some (0, M) else some (1, M)) := by
      rw [e]; exact (if_neg (by decide)).trans ((if_neg (by decide)).trans (if_pos rfl))
    rw [er]
    rcases m_S (p := p + 1) hT hM hn hp a b c d with ⟨h1, x, y, h2⟩ | ⟨h1, x, h2⟩
    · refine Or.inl ⟨by rw [eS]; exact h1, x, y, c, d, ?_⟩
      rw [h2, bnd2_s, if_pos rfl, eS]
    · rw [h2, bnd2_s, if_neg (by decide), ← eS]
      rw [← eS] at h1
      rcases m_G hT hM hg a2 x (oS T z ns g p).1 c d with ⟨h3, x3, y3, h4⟩ | ⟨h3, x3, h4⟩
      · refine Or.inr (Or.inl ⟨h1, by rw [eG]; exact h3, x3, (oS T z ns g p).1, y3, d, ?_⟩)
        rw [h4, bnd2_s, if_pos rfl, eG]
      · rw [h4, bnd2_s, if_neg (by decide), ← eG]
        rw [← eG] at h3
        rcases m_N hT hM b2 60 x3 (oS T z ns g p).1 (oG T z ns g p).1 d with ⟨h5, x5, y5, h6⟩ | ⟨h5, x5, h6⟩
        · refine Or.inr (Or.inr (Or.inl ⟨h1, h3, by rw [eN]; exact h5, x5, (oS T z ns g p).1, (oG T z ns g p).1, y5, ?_⟩))
          rw [h6, bnd2_s, if_pos rfl, eN]
        · refine Or.inr (Or.inr (Or.inr ⟨h1, h3, by rw [eN]; exact h5, x5, (oS T z ns g p).1, (oG T z ns g p).1, (pNum T z 60 (oG T z ns g p).2).1, ?_, fun _ => rfl, fun _ => rfl, fun _ => ?_⟩))
          · rw [h6, bnd2_s, if_neg (by decide), eN]
          · rw [eN]
  · exact two 5 (by rw [e]; decide) (by rw [e]; decide) (by rw [e]; decide) (by rw [e]; decide) (by rw [e]; exact (if_neg (by decide)).trans ((if_neg (by decide)).trans ((if_neg (by decide)).trans ((if_neg (by decide)).trans ((if_neg (by decide)).trans (if_neg (by decide)))))))
  · exact only (by rw [e]; decide) (by rw [e]; decide) (by rw [e]; decide) (by rw [e]; exact (if_neg (by decide)).trans ((if_neg (by decide)).trans ((if_neg (by decide)).trans (if_pos rfl))))
  · exact only (by rw [e]; decide) (by rw [e]; decide) (by rw [e]; decide) (by rw [e]; exact (if_neg (by decide)).trans ((if_neg (by decide)).trans ((if_neg (by decide)).trans ((if_neg (by decide)).trans (if_pos rfl)))))
  · exact only (by rw [e]; decide) (by rw [e]; decide) (by rw [e]; decide) (by rw [e]; exact (if_neg (by decide)).trans ((if_neg (by decide)).trans ((if_neg (by decide)).trans ((if_neg (by decide)).trans ((if_neg (by decide)).trans (if_pos rfl))))))
theorem m_ord (hT : TOk T z) (hM : mT T z M) (hn : M 0 1 = nI ns) (hg : M 0 2 = nI g) {p : Nat} (hp : p < z) (a b c d : Int32) :
    ((pPl T z ns g p).2 = false ∧ ∃ a' b' c' d', fX8_readsOrder (T p) (mQ M p a b c d) = some (0, mQ M (pPl T z ns g p).1 a' b' c' d')) ∨
    ((pPl T z ns g p).2 = true ∧ ∃ a' b' c' d', fX8_readsOrder (T p) (mQ M p a b c d) = some (1, mQ M (pPl T z ns g p).1 a' b' c' d') ∧ (¬ fX4_hasSender (T p) = 0 → b' = (oS T z ns g p).1) ∧ (¬ fX4_hasGate (T p) = 0 → c' = (oG T z ns g p).1) ∧ (¬ fX4_hasNumber (T p) = 0 → d' = (oN T z ns g p).1)) := by
  obtain ⟨c1, c2⟩ := oN_le (T := T) (ns := ns) (g := g) hp
  unfold fX8_readsOrder
  by_cases hk : fX4_isKind (T p) = 0
  · rw [if_pos ((kindI _).mpr hk), show pPl T z ns g p = (p, false) from if_pos hk]
    exact Or.inl ⟨rfl, a, b, c, d, rfl⟩
  rw [if_neg (fun q => hk ((kindI _).mp q)), wr_s, mQ_39, nI_1, mQ_w39]
  rcases m_nums hT hM hn hg hp hk a b c d with ⟨h1, x1, x2, x3, x4, e⟩ | ⟨h1, h2, x1, x2, x3, x4, e⟩ | ⟨h1, h2, h3, x1, x2, x3, x4, e⟩ | ⟨h1, h2, h3, x1, x2, x3, x4, e, f1, f2, f3⟩
  · rw [e, bnd2_s, if_pos rfl, show pPl T z ns g p = ((oS T z ns g p).2, false) from (if_neg hk).trans (if_pos h1)]
    exact Or.inl ⟨rfl, _, _, _, _, rfl⟩
  · rw [e, bnd2_s, if_pos rfl, show pPl T z ns g p = ((oG T z ns g p).2, false) from (if_neg hk).trans ((if_neg h1).trans (if_pos h2))]
    exact Or.inl ⟨rfl, _, _, _, _, rfl⟩
  · rw [e, bnd2_s, if_pos rfl, show pPl T z ns g p = ((oN T z ns g p).2, false) from (if_neg hk).trans ((if_neg h1).trans ((if_neg h2).trans (if_pos h3)))]
    exact Or.inl ⟨rfl, _, _, _, _, rfl⟩
  · have ep : pPl T z ns g p = pE T z (oN T z ns g p).2 := (if_neg hk).trans ((if_neg h1).trans ((if_neg h2).trans (if_neg h3)))
    rw [e, bnd2_s, if_neg (by decide), m_here hT hM c2, bnd2_s, ep]
    by_cases h4 : sk T z (oN T z ns g p).2 < z
    · rw [if_pos h4]
      by_cases h5 : T (sk T z (oN T z ns g p).2) = 59
      · rw [if_pos h5, show pE T z (oN T z ns g p).2 = (sk T z (oN T z ns g p).2 + 1, true) from if_pos ⟨h4, h5⟩, wr_s, mQ_39, nI_1, mQ_w39]
        exact Or.inr ⟨rfl, _, _, _, _, rfl, f1, f2, f3⟩
      · rw [if_neg h5, show pE T z (oN T z ns g p).2 = (sk T z (oN T z ns g p).2, false) from if_neg (fun w => h5 w.2)]
        exact Or.inl ⟨rfl, _, _, _, _, rfl⟩
    · rw [if_neg h4, if_neg (by decide), show pE T z (oN T z ns g p).2 = (sk T z (oN T z ns g p).2, false) from if_neg (fun w => h4 w.1)]
      exact Or.inl ⟨rfl, _, _, _, _, rfl⟩
end MO
