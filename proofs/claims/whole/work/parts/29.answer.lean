/-! the gate that answers: the first by margins falling, gates rising, that can pay -/
def aft (m : Nat → Int32) (k j : Nat) : Prop := m j < m k ∨ (m j = m k ∧ k < j)
theorem aft_tr {m : Nat → Int32} {a b c : Nat} (h1 : aft m a b) (h2 : aft m b c) : aft m a c := by
  unfold aft at *
  rw [i_lt, i_eq] at *
  rcases h1 with h1 | ⟨h1, h3⟩ <;> rcases h2 with h2 | ⟨h2, h4⟩
  · left; omega
  · left; omega
  · left; omega
  · right; exact ⟨by omega, by omega⟩
theorem aft_ir {m : Nat → Int32} {a : Nat} (h : aft m a a) : False := by
  unfold aft at h
  rw [i_lt] at h
  omega
theorem aft_tot {m : Nat → Int32} {a b : Nat} (h : a ≠ b) : aft m a b ∨ aft m b a := by
  unfold aft
  rw [i_lt, i_lt, i_eq, i_eq]
  omega
def lst (b : Nat) (m : Nat → Int32) (S : Nat → Prop) (n : Nat) (r : Int32) : Prop :=
  (r = -1 ∧ ∀ j, j < n → b.testBit j = true → ¬ S j) ∨ ∃ x, r = nI x ∧ x < n ∧ b.testBit x = true ∧ S x ∧ ∀ j, j < n → b.testBit j = true → S j → j = x ∨ aft m x j
theorem lst_uniq {b : Nat} {m : Nat → Int32} {S : Nat → Prop} {n : Nat} {r r' : Int32} (h : lst b m S n r) (h' : lst b m S n r') : r = r' := by
  rcases h with ⟨rfl, h⟩ | ⟨x, rfl, hx, hb, hs, ha⟩ <;> rcases h' with ⟨rfl, h'⟩ | ⟨x', rfl, hx', hb', hs', ha'⟩
  · rfl
  · exact absurd hs' (h x' hx' hb')
  · exact absurd hs (h' x hx hb)
  · rcases ha x' hx' hb' hs' with e | e
    · rw [e]
    · rcases ha' x hx hb hs with e' | e'
      · rw [e']
      · exact (aft_ir (aft_tr e e')).elim
theorem jn_b {β γ : Type} (K : β) (B : β → γ) : jn K B = B K := rfl
theorem heard_jn {α : Type} {D : Mem} {b j : Nat} (hb : b < 16) (hj : j < 4) (eb : D 27 0 = nI b) (K : Int32 → Option α) : jn K (fun j7 => if ((jshr (D 27 (0 : Int32).toNatClampNeg) (nI j)) &&& (1 : Int32)) = (1 : Int32) then j7 (1 : Int32) else j7 (0 : Int32)) = if b.testBit j = true then K 1 else K 0 := by
  rw [jn_b, show (0 : Int32).toNatClampNeg = 0 from rfl, eb]
  by_cases q : b.testBit j = true
  · rw [if_pos ((bit_tst b hb j hj).mpr q), if_pos q]
  · rw [if_neg (fun z => q ((bit_tst b hb j hj).mp z)), if_neg q]
theorem later_jn {α : Type} {D : Mem} {v1 : Int32} {S : Nat → Prop} {j : Nat} (hj : j < 4) (hv : (v1 = -1 ∧ ∀ j, S j) ∨ ∃ k, k < 4 ∧ v1 = nI k ∧ ∀ j, S j ↔ aft (D 28) k j) (K : Int32 → Option α) :
    (S j ∧ jn K (fun j13 => if v1 = (-1 : Int32) then j13 (1 : Int32) else ix (nI j) 1560 <| ix v1 1560 <| if (D 28 (nI j).toNatClampNeg) < (D 28 v1.toNatClampNeg) then j13 (1 : Int32) else if (D 28 (nI j).toNatClampNeg) = (D 28 v1.toNatClampNeg) then (if nI j ≤ v1 then j13 (0 : Int32) else j13 (1 : Int32)) else j13 (0 : Int32)) = K 1) ∨
    (¬ S j ∧ jn K (fun j13 => if v1 = (-1 : Int32) then j13 (1 : Int32) else ix (nI j) 1560 <| ix v1 1560 <| if (D 28 (nI j).toNatClampNeg) < (D 28 v1.toNatClampNeg) then j13 (1 : Int32) else if (D 28 (nI j).toNatClampNeg) = (D 28 v1.toNatClampNeg) then (if nI j ≤ v1 then j13 (0 : Int32) else j13 (1 : Int32)) else j13 (0 : Int32)) = K 0) := by
  rcases hv with ⟨rfl, hS⟩ | ⟨k, hk, rfl, hS⟩
  · left
    refine ⟨hS j, ?_⟩
    rw [jn_b, if_pos rfl]
  · have hne : ¬ nI k = -1 := fun z => by
      have := nI_pos (n := k) (by omega)
      rw [z] at this; exact this m1_neg
    rw [jn_b, if_neg hne, ix_in (vp1560 (by omega)), ix_in (vp1560 (by omega)), nI_cl (by omega), nI_cl (by omega), hS]
    unfold aft
    by_cases q1 : D 28 j < D 28 k
    · rw [if_pos q1]; exact Or.inl ⟨Or.inl q1, rfl⟩
    · rw [if_neg q1]
      by_cases q2 : D 28 j = D 28 k
      · rw [if_pos q2]
        by_cases q3 : nI j ≤ nI k
        · rw [if_pos q3]
          have := (nI_leI (a := j) (b := k) (by omega) (by omega)).mp q3
          exact Or.inr ⟨fun z => z.elim q1 (fun z => by omega), rfl⟩
        · rw [if_neg q3]
          have : ¬ j ≤ k := fun z => q3 ((nI_leI (a := j) (b := k) (by omega) (by omega)).mpr z)
          exact Or.inl ⟨Or.inr ⟨q2, by omega⟩, rfl⟩
      · rw [if_neg q2]
        exact Or.inr ⟨fun z => z.elim q1 (fun z => q2 z.1), rfl⟩
theorem behind_L {D : Mem} {g b : Nat} (hg : g ≤ 4) (eg : D 0 2 = nI g) (hb : b < 16) (eb : D 27 0 = nI b) {v1 : Int32} {S : Nat → Prop} (hv : (v1 = -1 ∧ ∀ j, S j) ∨ ∃ k, k < 4 ∧ v1 = nI k ∧ ∀ j, S j ↔ aft (D 28) k j) :
    ∀ mm j v2, j + mm = g → lst b (D 28) S j v2 → ∀ n, mm < n → ∃ r, fX8_gateBehind_L4 n v1 v2 (nI j) D = some r ∧ lst b (D 28) S g r := by
  intro mm
  induction mm with
  | zero =>
    intro j v2 hj hl n hn
    obtain ⟨n, rfl⟩ : ∃ k, n = k + 1 := ⟨n - 1, by omega⟩
    rw [fX8_gateBehind_L4, eg, if_pos (nI_le (by omega) (by omega))]
    have : j = g := by omega
    subst this
    exact ⟨v2, rfl, hl⟩
  | succ mm ih =>
    intro j v2 hj hl n hn
    obtain ⟨n, rfl⟩ : ∃ k, n = k + 1 := ⟨n - 1, by omega⟩
    have hj4 : j < 4 := by omega
    rw [fX8_gateBehind_L4, eg, if_neg (nI_ge (by omega) (by omega)), heard_jn hb hj4 eb, nI_1]
    have skip : (b.testBit j = true → ¬ S j) → lst b (D 28) S (j + 1) v2 := by
      intro hs
      rcases hl with ⟨e, hl⟩ | ⟨x, e, hx, hbx, hsx, ha⟩
      · refine Or.inl ⟨e, fun i hi hbi => ?_⟩
        by_cases q : i = j
        · subst q; exact hs hbi
        · exact hl i (by omega) hbi
      · refine Or.inr ⟨x, e, by omega, hbx, hsx, fun i hi hbi hsi => ?_⟩
        by_cases q : i = j
        · subst q; exact absurd hsi (hs hbi)
        · exact ha i (by omega) hbi hsi
    by_cases q : b.testBit j = true
    · rw [if_pos q]
      rcases later_jn (D := D) hj4 hv (fun t9 => if (1 : Int32) = 0 then fX8_gateBehind_L4 n v1 v2 (nI (j + 1)) D else if t9 = 0 then fX8_gateBehind_L4 n v1 v2 (nI (j + 1)) D else if v2 = (-1 : Int32) then fX8_gateBehind_L4 n v1 (nI j) (nI (j + 1)) D else ix (nI j) 1560 <| ix v2 1560 <| if (D 28 (nI j).toNatClampNeg) ≤ (D 28 v2.toNatClampNeg) then fX8_gateBehind_L4 n v1 v2 (nI (j + 1)) D else fX8_gateBehind_L4 n v1 (nI j) (nI (j + 1)) D) with ⟨hs, e⟩ | ⟨hs, e⟩
      · rw [e, if_neg (show ¬ (1 : Int32) = 0 by decide), if_neg (show ¬ (1 : Int32) = 0 by decide)]
        rcases hl with ⟨e2, hl⟩ | ⟨x, e2, hx, hbx, hsx, ha⟩
        · rw [if_pos e2]
          refine ih (j + 1) (nI j) (by omega) (Or.inr ⟨j, rfl, by omega, q, hs, fun i hi hbi hsi => ?_⟩) n (by omega)
          by_cases q2 : i = j
          · exact Or.inl q2
          · exact absurd hsi (hl i (by omega) hbi)
        · have hne : ¬ v2 = -1 := fun z => by
            have := nI_pos (n := x) (by omega)
            rw [← e2, z] at this; exact this m1_neg
          rw [if_neg hne, e2, ix_in (vp1560 (by omega)), ix_in (vp1560 (by omega)), nI_cl (by omega), nI_cl (by omega)]
          by_cases q3 : D 28 j ≤ D 28 x
          · rw [if_pos q3]
            refine ih (j + 1) (nI x) (by omega) (Or.inr ⟨x, rfl, by omega, hbx, hsx, fun i hi hbi hsi => ?_⟩) n (by omega)
            by_cases q2 : i = j
            · subst q2
              right
              unfold aft
              rw [i_le] at q3
              rw [i_lt, i_eq]
              omega
            · exact ha i (by omega) hbi hsi
          · rw [if_neg q3]
            refine ih (j + 1) (nI j) (by omega) (Or.inr ⟨j, rfl, by omega, q, hs, fun i hi hbi hsi => ?_⟩) n (by omega)
            by_cases q2 : i = j
            · exact Or.inl q2
            · right
              have h9 : aft (D 28) j x := by
                unfold aft
                rw [i_le] at q3
                rw [i_lt]
                left; omega
              rcases ha i (by omega) hbi hsi with z | z
              · rw [z]; exact h9
              · exact aft_tr h9 z
      · rw [e, if_neg (show ¬ (1 : Int32) = 0 by decide), if_pos rfl]
        exact ih (j + 1) v2 (by omega) (skip (fun _ => hs)) n (by omega)
    · rw [if_neg q]
      rcases later_jn (D := D) hj4 hv (fun t9 => if (0 : Int32) = 0 then fX8_gateBehind_L4 n v1 v2 (nI (j + 1)) D else if t9 = 0 then fX8_gateBehind_L4 n v1 v2 (nI (j + 1)) D else if v2 = (-1 : Int32) then fX8_gateBehind_L4 n v1 (nI j) (nI (j + 1)) D else ix (nI j) 1560 <| ix v2 1560 <| if (D 28 (nI j).toNatClampNeg) ≤ (D 28 v2.toNatClampNeg) then fX8_gateBehind_L4 n v1 v2 (nI (j + 1)) D else fX8_gateBehind_L4 n v1 (nI j) (nI (j + 1)) D) with ⟨hs, e⟩ | ⟨hs, e⟩ <;> rw [e, if_pos rfl] <;> exact ih (j + 1) v2 (by omega) (skip (fun z => absurd z q)) n (by omega)
theorem behind_ok {D : Mem} {g b : Nat} (hg : g ≤ 4) (eg : D 0 2 = nI g) (hb : b < 16) (eb : D 27 0 = nI b) {v1 : Int32} {S : Nat → Prop} (hv : (v1 = -1 ∧ ∀ j, S j) ∨ ∃ k, k < 4 ∧ v1 = nI k ∧ ∀ j, S j ↔ aft (D 28) k j) : ∃ r, fX8_gateBehind v1 D = some r ∧ lst b (D 28) S g r := by
  obtain ⟨r, e, h⟩ := behind_L hg eg hb eb hv g 0 (-1) (by omega) (Or.inl ⟨rfl, fun j hj => by omega⟩) FUEL (fuel_gt g (by omega))
  refine ⟨r, ?_, h⟩
  unfold fX8_gateBehind
  rw [show (0 : Int32) = nI 0 from rfl, e, bnd1_s]
def remn (m : Nat → Int32) (k : Nat) : Nat := (if m 0 < m k ∨ (m 0 = m k ∧ k < 0) then 1 else 0) + (if m 1 < m k ∨ (m 1 = m k ∧ k < 1) then 1 else 0) + (if m 2 < m k ∨ (m 2 = m k ∧ k < 2) then 1 else 0) + (if m 3 < m k ∨ (m 3 = m k ∧ k < 3) then 1 else 0)
theorem rem_one {m : Nat → Int32} {k x j : Nat} (h : aft m k x) : (if m j < m x ∨ (m j = m x ∧ x < j) then 1 else 0) ≤ (if m j < m k ∨ (m j = m k ∧ k < j) then 1 else 0) := by
  by_cases q : m j < m x ∨ (m j = m x ∧ x < j)
  · rw [if_pos q, if_pos (show m j < m k ∨ (m j = m k ∧ k < j) from aft_tr h q)]; exact Nat.le_refl 1
  · rw [if_neg q]; exact Nat.zero_le _
theorem rem_lt {m : Nat → Int32} {k x : Nat} (hx : x < 4) (h : aft m k x) : remn m x < remn m k := by
  have a0 := rem_one (j := 0) h
  have a1 := rem_one (j := 1) h
  have a2 := rem_one (j := 2) h
  have a3 := rem_one (j := 3) h
  have b1 : (if m x < m x ∨ (m x = m x ∧ x < x) then 1 else 0) = 0 := if_neg (fun z => aft_ir z)
  have b2 : (if m x < m k ∨ (m x = m k ∧ k < x) then 1 else 0) = 1 := if_pos h
  unfold remn
  rcases (show x = 0 ∨ x = 1 ∨ x = 2 ∨ x = 3 by omega) with e | e | e | e <;> subst e <;> rw [b1] at * <;> rw [b2] at * <;> omega
theorem rem_le (m : Nat → Int32) (k : Nat) : remn m k ≤ 4 := by
  unfold remn
  have c : ∀ (p : Prop) [Decidable p], (if p then 1 else 0) ≤ 1 := fun p _ => by by_cases q : p <;> simp [q]
  have a0 := c (m 0 < m k ∨ (m 0 = m k ∧ k < 0))
  have a1 := c (m 1 < m k ∨ (m 1 = m k ∧ k < 1))
  have a2 := c (m 2 < m k ∨ (m 2 = m k ∧ k < 2))
  have a3 := c (m 3 < m k ∨ (m 3 = m k ∧ k < 3))
  omega
theorem answers_L {D : Mem} {g b : Nat} (hg : g ≤ 4) (eg : D 0 2 = nI g) (hb : b < 16) (eb : D 27 0 = nI b) (cost : Int32) : ∀ n v3, ((v3 = -1 ∧ 0 < n ∧ ∀ j, j < g → b.testBit j = true → ¬ cost ≤ D 3 j - D 4 j) ∨ ∃ x, v3 = nI x ∧ x < g ∧ b.testBit x = true ∧ remn (D 28) x + 1 < n ∧ ∀ j, j < g → b.testBit j = true → (cost ≤ D 3 j - D 4 j) → j = x ∨ aft (D 28) x j) →
    ∃ r, fX8_answers_L16 n cost v3 D = some r ∧ lst b (D 28) (fun j => cost ≤ D 3 j - D 4 j) g r := by
  intro n
  induction n with
  | zero => intro v3 h; rcases h with ⟨_, h, _⟩ | ⟨_, _, _, _, h, _⟩ <;> omega
  | succ n ih =>
    intro v3 h
    rcases h with ⟨rfl, -, h⟩ | ⟨x, rfl, hx, hbx, hr, h⟩
    · rw [fX8_answers_L16, if_pos rfl]
      exact ⟨-1, rfl, Or.inl ⟨rfl, h⟩⟩
    · have hne : ¬ nI x = -1 := fun z => by
        have := nI_pos (n := x) (by omega)
        rw [z] at this; exact this m1_neg
      rw [fX8_answers_L16, if_neg hne, ix_in (vp4 (by omega)), nI_cl (by omega)]
      by_cases q : cost ≤ D 3 x - D 4 x
      · rw [if_pos q]
        exact ⟨nI x, rfl, Or.inr ⟨x, rfl, hx, hbx, q, h⟩⟩
      · rw [if_neg q]
        obtain ⟨r, e, hl⟩ := behind_ok (D := D) hg eg hb eb (v1 := nI x) (S := aft (D 28) x) (Or.inr ⟨x, by omega, rfl, fun j => Iff.rfl⟩)
        rw [e, bnd1_s]
        refine ih r ?_
        rcases hl with ⟨rfl, hl⟩ | ⟨y, rfl, hy, hby, hsy, ha⟩
        · refine Or.inl ⟨rfl, by omega, fun j hj hbj hp => ?_⟩
          rcases h j hj hbj hp with z | z
          · subst z; exact q hp
          · exact hl j hj hbj z
        · have := rem_lt (m := D 28) (k := x) (x := y) (by omega) hsy
          refine Or.inr ⟨y, rfl, hy, hby, by omega, fun j hj hbj hp => ?_⟩
          rcases h j hj hbj hp with z | z
          · subst z; exact absurd hp q
          · exact ha j hj hbj z
/-- the class's loop -/
theorem speaker_L {ns g cn s W a : Nat} {C D : Mem} (h : Iz ns g cn s W C D) (ha : a < 390) {b : Nat} (hH : ∀ j, j < 4 → (b.testBit j = true → ¬ D 28 (4 * 0 + j) < 0 ∧ C 38 (4 * a + j) = D 28 (4 * 0 + j)) ∧ (b.testBit j = false → C 38 (4 * a + j) = -1)) (cost : Int32) :
    ∀ mm j v4 v5, j + mm = g → lst b (D 28) (fun j => cost ≤ D 3 j - D 4 j) j v4 → ((v4 = -1 ∧ v5 = -1) ∨ ∃ x, x < j ∧ v4 = nI x ∧ v5 = D 28 x ∧ ¬ D 28 x < 0) → ∀ n, mm < n → ∃ r, fX2_sendAnswer_L17 n (nI a) cost v4 v5 (nI j) C = some r ∧ lst b (D 28) (fun j => cost ≤ D 3 j - D 4 j) g r := by
  have hg := h.g1
  intro mm
  induction mm with
  | zero =>
    intro j v4 v5 hj hl h5 n hn
    obtain ⟨n, rfl⟩ : ∃ k, n = k + 1 := ⟨n - 1, by omega⟩
    rw [fX2_sendAnswer_L17, h.g_, h.gI, if_pos (nI_le (by omega) (by omega))]
    have : j = g := by omega
    subst this
    exact ⟨v4, rfl, hl⟩
  | succ mm ih =>
    intro j v4 v5 hj hl h5 n hn
    obtain ⟨n, rfl⟩ : ∃ k, n = k + 1 := ⟨n - 1, by omega⟩
    have hj4 : j < 4 := by omega
    rw [fX2_sendAnswer_L17, h.g_, h.gI, if_neg (nI_ge (by omega) (by omega)), heardAt_ok C ha hj4, bnd1_s, nI_1]
    have eleft : fX1_left (24 + j) C = D 3 j - D 4 j := by
      unfold fX1_left
      rw [show C (24 + j) 1 = D 3 j from h.gat (d := 3) (by decide) (by decide) hj4, show C (24 + j) 2 = D 4 j from h.gat (d := 4) (by decide) (by decide) hj4]
    have h5' : (v4 = -1 ∧ v5 = -1) ∨ ∃ x, x < j + 1 ∧ v4 = nI x ∧ v5 = D 28 x ∧ ¬ D 28 x < 0 := h5.imp id (fun ⟨x, z1, z2⟩ => ⟨x, by omega, z2⟩)
    have skip : (b.testBit j = true → cost ≤ D 3 j - D 4 j → ∃ x, v4 = nI x ∧ x < j ∧ aft (D 28) x j) → lst b (D 28) (fun j => cost ≤ D 3 j - D 4 j) (j + 1) v4 := by
      intro hs
      rcases hl with ⟨e, hl⟩ | ⟨x, e, hx, hbx, hsx, ha⟩
      · refine Or.inl ⟨e, fun i hi hbi hp => ?_⟩
        by_cases q : i = j
        · subst q
          obtain ⟨x, z1, z2, -⟩ := hs hbi hp
          have := nI_pos (n := x) (by omega)
          rw [← z1, e] at this; exact this m1_neg
        · exact hl i (by omega) hbi hp
      · refine Or.inr ⟨x, e, by omega, hbx, hsx, fun i hi hbi hp => ?_⟩
        by_cases q : i = j
        · subst q
          obtain ⟨x', z1, z2, z3⟩ := hs hbi hp
          have : x = x' := (nI_eq (by omega) (by omega)).mp (e.symm.trans z1)
          subst this
          exact Or.inr z3
        · exact ha i (by omega) hbi hp
    obtain ⟨q1, q2⟩ := hH j hj4
    rw [show 4 * 0 + j = j by omega] at q1
    have m1I : (-1 : Int32).toInt = -1 := by decide
    have z0I : (0 : Int32).toInt = 0 := by decide
    by_cases q : b.testBit j = true
    · obtain ⟨q3, q4⟩ := q1 q
      rw [q4]
      by_cases q5 : D 28 j ≤ v5
      · rw [if_pos q5]
        refine ih (j + 1) v4 v5 (by omega) (skip (fun _ _ => ?_)) h5' n (by omega)
        rcases h5 with ⟨z1, z2⟩ | ⟨x, z1, z2, z3, z4⟩
        · exfalso
          rw [z2, i_le, m1I] at q5
          rw [i_lt, z0I] at q3
          omega
        · refine ⟨x, z2, z1, ?_⟩
          rw [z3, i_le] at q5
          unfold aft
          rw [i_lt, i_eq]
          omega
      · rw [if_neg q5, ix_in (vp4 hj4), nI_cl (by omega), eleft]
        by_cases q6 : D 3 j - D 4 j < cost
        · rw [if_pos q6]
          exact ih (j + 1) v4 v5 (by omega) (skip (fun _ z => absurd q6 (Int32.not_lt.mpr z))) h5' n (by omega)
        · rw [if_neg q6]
          have hpay : cost ≤ D 3 j - D 4 j := Int32.not_lt.mp q6
          refine ih (j + 1) (nI j) (D 28 j) (by omega) (Or.inr ⟨j, rfl, by omega, q, hpay, fun i hi hbi hp => ?_⟩) (Or.inr ⟨j, by omega, rfl, rfl, q3⟩) n (by omega)
          by_cases q7 : i = j
          · exact Or.inl q7
          · right
            rcases hl with ⟨e, hl⟩ | ⟨x, e, hx, hbx, hsx, hax⟩
            · exact absurd hp (hl i (by omega) hbi)
            · have h9 : aft (D 28) j x := by
                rcases h5 with ⟨z1, z2⟩ | ⟨x', z1, z2, z3, z4⟩
                · exfalso
                  have := nI_pos (n := x) (by omega)
                  rw [← e, z1] at this; exact this m1_neg
                · have : x = x' := (nI_eq (by omega) (by omega)).mp (e.symm.trans z2)
                  subst this
                  rw [z3, i_le] at q5
                  unfold aft
                  rw [i_lt]
                  left; omega
              rcases hax i (by omega) hbi hp with z | z
              · rw [z]; exact h9
              · exact aft_tr h9 z
    · have q' : b.testBit j = false := by simpa using q
      rw [q2 q']
      have : (-1 : Int32) ≤ v5 := by
        rcases h5 with ⟨z1, z2⟩ | ⟨x, z1, z2, z3, z4⟩
        · rw [z2]; decide
        · rw [z3, i_le, m1I]; rw [i_lt, z0I] at z4; omega
      rw [if_pos this]
      exact ih (j + 1) v4 v5 (by omega) (skip (fun z => absurd z q)) h5' n (by omega)
