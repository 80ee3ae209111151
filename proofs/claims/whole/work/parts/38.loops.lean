/-! the whole text read, and carried out -/
theorem Iz.congC {ns g cn s W : Nat} {C D C' : Mem} (h : Iz ns g cn s W C D) (hC : ∀ c j, (c < 2 ∨ (2 < c ∧ c < 41) ∨ (c = 2 ∧ j = 1)) → C' c j = C c j) : Iz ns g cn s W C' D := by
  obtain ⟨h1, h2, h3, h4, h5, h6⟩ := h
  refine ⟨fun d k c j hp => ?_, h2, h3, h4, h5, ?_⟩
  · have hc := pos_ok hp
    rw [hC c j ?_]
    · exact h1 d k c j hp
    · by_cases e : c = 2
      · subst e
        have e2 : (0, 38) = (d, k) := hc.1
        have e3 : d = 0 := (congrArg Prod.fst e2).symm
        have e4 : k = 38 := (congrArg Prod.snd e2).symm
        subst e3; subst e4
        have e5 : some ((2 : Nat), (1 : Nat)) = some (2, j) := p_size.symm.trans hp
        cases e5
        exact Or.inr (Or.inr ⟨rfl, rfl⟩)
      · have := hc.2
        change c < 34 ∨ c = 40 at this
        omega
  · exact h6.cong (fun x hx hy => funext fun y => hC x y (by omega)) (hC 34 4 (by omega)) (fun x hx hy => rfl) rfl
theorem Iz.congD {ns g cn s W : Nat} {C D D' : Mem} (h : Iz ns g cn s W C D) (hD : ∀ d k, ¬ (d = 0 ∧ 39 ≤ k) → D' d k = D d k) : Iz ns g cn s W C D' := by
  obtain ⟨h1, h2, h3, h4, h5, h6⟩ := h
  refine ⟨fun d k c j hp => ?_, fun d k => ?_, ?_, ?_, ?_, ?_⟩
  · rw [hD d k ?_]
    · exact h1 d k c j hp
    · intro e
      obtain ⟨e1, e2⟩ := e
      subst e1
      unfold pos at hp
      rw [if_pos rfl, if_neg (by omega), if_neg (by omega), if_neg (by omega), if_neg (by omega), if_neg (by omega), if_neg (by omega)] at hp
      cases hp
  · by_cases e : d = 0 ∧ 39 ≤ k
    · obtain ⟨e1, e2⟩ := e
      subst e1
      exact fun q => by omega
    · rw [hD d k e]; exact h2 d k
  · rw [hD 0 1 (by omega)]; exact h3
  · rw [hD 0 2 (by omega)]; exact h4
  · rw [hD 0 22 (by omega)]
    refine ⟨h5.1, h5.2.1, fun k hk => ?_⟩
    rw [hD 20 k (by omega)]; exact h5.2.2 k hk
  · exact h6.cong (fun x hx hy => rfl) rfl (fun x hx hy => funext fun y => hD x y (by omega)) (hD 0 28 (by omega))
def plc (T : Nat → Int32) (z ns g : Nat) : Nat → Nat
  | 0 => sk T z 0
  | o + 1 => sk T z (pPl T z ns g (plc T z ns g o)).1
def Good (T : Nat → Int32) (z ns g o : Nat) (M : Mem) : Prop :=
  M 41 o = T (plc T z ns g o) ∧ M 42 o = (oS T z ns g (plc T z ns g o)).1 ∧ M 43 o = (oG T z ns g (plc T z ns g o)).1 ∧ M 44 o = (oN T z ns g (plc T z ns g o)).1
def cK (C C' : Mem) : Prop := ∀ c j, (c < 2 ∨ (2 < c ∧ c < 41) ∨ (c = 2 ∧ j = 1)) → C' c j = C c j
def mK (D D' : Mem) : Prop := ∀ d k, ¬ (d = 0 ∧ 39 ≤ k) → D' d k = D d k
section DL
variable {T : Nat → Int32} {z ns g : Nat}
theorem cT_k {C C' : Mem} (h : cT T z C) (hk : cK C C') : cT T z C' := ⟨(hk 2 1 (by omega)).trans h.1, fun q hq => (hk 40 q (by omega)).trans (h.2 q hq)⟩
theorem mT_k {C C' : Mem} (h : mT T z C) (hk : mK C C') : mT T z C' := ⟨(hk 0 38 (by omega)).trans h.1, fun q hq => (hk 30 q (by omega)).trans (h.2 q hq)⟩
theorem cK_q (C : Mem) (q : Nat) : cK C (cQ C q) := fun c j h => up2_or (by omega)
theorem cK.trans {A B C : Mem} (h : cK A B) (h2 : cK B C) : cK A C := fun c j q => (h2 c j q).trans (h c j q)
theorem mK.trans {A B C : Mem} (h : mK A B) (h2 : mK B C) : mK A C := fun c j q => (h2 c j q).trans (h c j q)
theorem c_loop (hT : TOk T z) (hn : ns ≤ 6) (hg : g ≤ 4) : ∀ m o M, cT T z M → M 2 7 = nI (plc T z ns g o) → M 2 6 = nI o → 3 * o ≤ plc T z ns g o → plc T z ns g o ≤ z → 40 - o ≤ m → (∀ o', o' < o → Good T z ns g o' M) → ∀ n, m < n →
    ∃ N t M', o ≤ N ∧ N ≤ 40 ∧ fX4_readOrders_L32 n (nI ns) (nI g) (nI o) M = some (t, M') ∧ cK M M' ∧ (∀ o', o ≤ o' → o' < N → plc T z ns g o' < z ∧ (pPl T z ns g (plc T z ns g o')).2 = true) ∧
      ((t = -1 ∧ z ≤ plc T z ns g N ∧ M' 2 6 = nI N ∧ ∀ o', o' < N → Good T z ns g o' M') ∨ (plc T z ns g N < z ∧ (pPl T z ns g (plc T z ns g N)).2 = false ∧ t = nI (pPl T z ns g (plc T z ns g N)).1)) := by
  have hz := hT.1
  intro m
  induction m with
  | zero =>
    intro o M hM h7 h6 h3 hpz hm hG n hn2
    obtain ⟨n, rfl⟩ : ∃ k, n = k + 1 := ⟨n - 1, by omega⟩
    refine ⟨o, -1, M, Nat.le_refl _, by omega, ?_, fun _ _ _ => rfl, fun o' a b => by omega, Or.inl ⟨rfl, by omega, h6, hG⟩⟩
    rw [fX4_readOrders_L32, if_pos (show (40 : Int32) ≤ nI o from (le_nI (a := 40) (by omega) (by omega)).mpr (by omega))]
  | succ m ih =>
    intro o M hM h7 h6 h3 hpz hm hG n hn2
    obtain ⟨n, rfl⟩ : ∃ k, n = k + 1 := ⟨n - 1, by omega⟩
    rw [fX4_readOrders_L32]
    rw [hM.1, h7]
    by_cases hp : plc T z ns g o < z
    · have ho : o < 40 := by omega
      rw [if_neg (show ¬ (40 : Int32) ≤ nI o from nI_ge (b := 40) ho (by decide)), if_neg (fun q => by have := (le_nI (by omega) (by omega)).mp q; omega)]
      have hc := c_ord (ns := ns) (g := g) hT hM hp h6 ho
      rw [cQ_of h7] at hc
      rcases hc with ⟨a1, a2⟩ | ⟨a1, M1, a2, b1, b2, b3, b4, b5, b6, b7⟩
      · rw [a2, bnd2_s, if_pos rfl, cQ_7]
        exact ⟨o, _, _, Nat.le_refl _, by omega, rfl, cK_q _ _, fun o' a b => by omega, Or.inr ⟨hp, a1, rfl⟩⟩
      · obtain ⟨_, _, _, _, l1, l2⟩ := pPl_ok (T := T) hn hg hp a1
        have k1 : cK M M1 := fun c j q => b7 c j (by omega) (by omega)
        have hM1 := cT_k hM k1
        rw [a2, bnd2_s, if_neg (by decide)]
        have hs := c_sk hT hM1 l2
        rw [cQ_of b1] at hs
        rw [hs, bnd1_s, nI_1]
        have k2 : cK M1 (cQ M1 (plc T z ns g (o + 1))) := cK_q _ _
        have hge := sk_ge (T := T) l2
        have hle := sk_le (T := T) l2
        have hG1 : ∀ o', o' < o + 1 → Good T z ns g o' (cQ M1 (plc T z ns g (o + 1))) := by
          intro o' ho'
          unfold Good
          rw [cQ_r (by decide), cQ_r (by decide), cQ_r (by decide), cQ_r (by decide)]
          by_cases e : o' = o
          · subst e
            exact ⟨b3, b4, b5, b6⟩
          · rw [b7 41 o' (by omega) (by omega), b7 42 o' (by omega) (by omega), b7 43 o' (by omega) (by omega), b7 44 o' (by omega) (by omega)]
            exact hG o' (by omega)
        obtain ⟨N, t, M', c1, c2, c3, c4, c5, c6⟩ := ih (o + 1) (cQ M1 (plc T z ns g (o + 1))) (cT_k hM1 k2) (cQ_7 _ _) ((cQ_k (by decide)).trans b2) (by show 3 * (o + 1) ≤ sk T z (pPl T z ns g (plc T z ns g o)).1; omega) hle (by omega) hG1 n (by omega)
        refine ⟨N, t, M', by omega, c2, c3, (k1.trans k2).trans c4, fun o' d1 d2 => ?_, c6⟩
        by_cases e : o' = o
        · subst e; exact ⟨hp, a1⟩
        · exact c5 o' (by omega) d2
    · refine ⟨o, -1, M, Nat.le_refl _, by omega, ?_, fun _ _ _ => rfl, fun o' a b => by omega, Or.inl ⟨rfl, by omega, h6, hG⟩⟩
      rw [if_pos (show nI z ≤ nI (plc T z ns g o) from (le_nI (by omega) (by omega)).mpr (by omega))]
      by_cases q : (40 : Int32) ≤ nI o
      · rw [if_pos q]
      · rw [if_neg q]
theorem mK_q {D : Mem} {p : Nat} {a b c d : Int32} : mK D (mQ D p a b c d) := fun x k h => mQ_o (by omega)
theorem tx_ne (hT : TOk T z) {q : Nat} (hq : q < z) : ¬ T q = -1 := by
  obtain ⟨c, hc, e⟩ := hT.2 q (by have := hT.1; omega)
  rw [e]
  intro w
  have : nI c < 0 := by rw [w]; decide
  exact nI_pos (by omega) this
theorem m_stop (hT : TOk T z) {D : Mem} (hM : mT T z D) {p : Nat} (hp : p ≤ z) (h9 : D 0 39 = nI p) (hs : z ≤ sk T z p) (acts v : Int32) (n : Nat) : ∃ D', fX8_goesThrough_L23 (n + 1) acts v D = some (v, D') ∧ mK D D' := by
  have e := m_here hT hM hp (D 0 40) (D 0 41) (D 0 42) (D 0 43)
  rw [mQ_of h9] at e
  rw [fX8_goesThrough_L23, e, bnd2_s, if_neg (show ¬ sk T z p < z by omega), if_pos rfl]
  exact ⟨_, rfl, mK_q⟩
theorem m_fault (hT : TOk T z) {D : Mem} (hM : mT T z D) (hn : D 0 1 = nI ns) (hg : D 0 2 = nI g) {p : Nat} (hp : p ≤ z) (h9 : D 0 39 = nI p) (hs : sk T z p < z) (hf : (pPl T z ns g (sk T z p)).2 = false) (acts v : Int32) (n : Nat) : ∃ D', fX8_goesThrough_L23 (n + 1) acts v D = some (-10 - nI (pPl T z ns g (sk T z p)).1, D') ∧ mK D D' := by
  have e := m_here hT hM hp (D 0 40) (D 0 41) (D 0 42) (D 0 43)
  have e2 := m_here hT hM (sk_le (T := T) hp) (D 0 40) (D 0 41) (D 0 42) (D 0 43)
  rw [mQ_of h9] at e
  rw [sk_idem hp, if_pos hs] at e2
  rw [if_pos hs] at e
  rw [fX8_goesThrough_L23, e, bnd2_s, if_neg (tx_ne hT hs), e2, bnd2_s]
  rcases m_ord hT hM hn hg hs (D 0 40) (D 0 41) (D 0 42) (D 0 43) with ⟨a1, x1, x2, x3, x4, a2⟩ | ⟨a1, _⟩
  · rw [a2, bnd2_s, if_pos rfl, mQ_39]
    exact ⟨_, rfl, mK_q⟩
  · rw [hf] at a1; cases a1
theorem m_step (hT : TOk T z) {D : Mem} (hM : mT T z D) (hn : D 0 1 = nI ns) (hg : D 0 2 = nI g) {p : Nat} (hp : p ≤ z) (h9 : D 0 39 = nI p) (hs : sk T z p < z) (hf : (pPl T z ns g (sk T z p)).2 = true) (acts v : Int32) (n : Nat) : ∃ D', mK D D' ∧ D' 0 39 = nI (pPl T z ns g (sk T z p)).1 ∧ (¬ fX4_hasSender (T (sk T z p)) = 0 → D' 0 41 = (oS T z ns g (sk T z p)).1) ∧ (¬ fX4_hasGate (T (sk T z p)) = 0 → D' 0 42 = (oG T z ns g (sk T z p)).1) ∧ (¬ fX4_hasNumber (T (sk T z p)) = 0 → D' 0 43 = (oN T z ns g (sk T z p)).1) ∧
    fX8_goesThrough_L23 (n + 1) acts v D = if acts = 0 then fX8_goesThrough_L23 n acts (v + 0) D' else bnd2 (fX8_doesOrder (T (sk T z p)) D') fun t M => fX8_goesThrough_L23 n acts (v + t) M := by
  have e := m_here hT hM hp (D 0 40) (D 0 41) (D 0 42) (D 0 43)
  have e2 := m_here hT hM (sk_le (T := T) hp) (D 0 40) (D 0 41) (D 0 42) (D 0 43)
  rw [mQ_of h9] at e
  rw [sk_idem hp, if_pos hs] at e2
  rw [if_pos hs] at e
  rw [fX8_goesThrough_L23, e, bnd2_s, if_neg (tx_ne hT hs), e2, bnd2_s]
  rcases m_ord hT hM hn hg hs (D 0 40) (D 0 41) (D 0 42) (D 0 43) with ⟨a1, _⟩ | ⟨a1, x1, x2, x3, x4, a2, f1, f2, f3⟩
  · rw [hf] at a1; cases a1
  · rw [a2, bnd2_s, if_neg (by decide)]
    exact ⟨_, mK_q, mQ_39, fun q => mQ_41.trans (f1 q), fun q => mQ_42.trans (f2 q), fun q => mQ_43.trans (f3 q), rfl⟩
/-- the reading without acting -/
theorem m_loop0 (hT : TOk T z) (hns : ns ≤ 6) (hg4 : g ≤ 4) {N : Nat} (hN : ∀ o', o' < N → plc T z ns g o' < z ∧ (pPl T z ns g (plc T z ns g o')).2 = true) (hE : plc T z ns g N < z → (pPl T z ns g (plc T z ns g N)).2 = false) (v : Int32) : ∀ m o D p, o + m = N → mT T z D → D 0 1 = nI ns → D 0 2 = nI g → p ≤ z → D 0 39 = nI p → sk T z p = plc T z ns g o → ∀ n, m < n →
    ∃ t D', fX8_goesThrough_L23 n 0 v D = some (t, D') ∧ mK D D' ∧ ((z ≤ plc T z ns g N ∧ t = v) ∨ (plc T z ns g N < z ∧ t = -10 - nI (pPl T z ns g (plc T z ns g N)).1)) := by
  intro m
  induction m with
  | zero =>
    intro o D p ho hM hn hg hp h9 hs n hlt
    obtain ⟨n, rfl⟩ : ∃ k, n = k + 1 := ⟨n - 1, by omega⟩
    have : o = N := by omega
    subst this
    by_cases h : plc T z ns g o < z
    · have hf := hE h
      rw [← hs] at h hf
      obtain ⟨D', a1, a2⟩ := m_fault hT hM hn hg hp h9 h hf 0 v n
      rw [hs] at a1 h
      exact ⟨_, D', a1, a2, Or.inr ⟨h, rfl⟩⟩
    · obtain ⟨D', a1, a2⟩ := m_stop hT hM hp h9 (by omega) 0 v n
      exact ⟨_, D', a1, a2, Or.inl ⟨by omega, rfl⟩⟩
  | succ m ih =>
    intro o D p ho hM hn hg hp h9 hs n hlt
    obtain ⟨n, rfl⟩ : ∃ k, n = k + 1 := ⟨n - 1, by omega⟩
    obtain ⟨h, hf⟩ := hN o (by omega)
    obtain ⟨_, _, _, _, _, l2⟩ := pPl_ok (T := T) hns hg4 h hf
    rw [← hs] at h hf
    obtain ⟨D1, k1, k2, _, _, _, k3⟩ := m_step hT hM hn hg hp h9 h hf 0 v n
    rw [hs] at k2
    obtain ⟨t, D', r1, r2, r3⟩ := ih (o + 1) D1 (pPl T z ns g (plc T z ns g o)).1 (by omega) (mT_k hM k1) ((k1 0 1 (by omega)).trans hn) ((k1 0 2 (by omega)).trans hg) l2 k2 rfl n (by omega)
    refine ⟨t, D', ?_, k1.trans r2, r3⟩
    rw [k3, if_pos rfl, Int32.add_zero]
    exact r1
end DL
