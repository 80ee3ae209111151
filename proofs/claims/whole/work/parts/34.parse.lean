/-! the text read: what both readers find -/
theorem up2_up2 (M : Mem) (x k : Nat) (v w : Int32) : up2 (up2 M x k v) x k w = up2 M x k w := by
  funext a b
  rw [up2_if, up2_if, up2_if]
  by_cases h : a = x ∧ b = k
  · rw [if_pos h, if_pos h]
  · rw [if_neg h, if_neg h, if_neg h]
def skp (T : Nat → Int32) (z : Nat) : Nat → Nat → Nat
  | 0, p => p
  | f + 1, p => if z ≤ p then p else if T p = 32 then skp T z f (p + 1) else p
def sk (T : Nat → Int32) (z p : Nat) : Nat := skp T z (z - p) p
theorem sk_end {T : Nat → Int32} {z p : Nat} (h : z ≤ p) : sk T z p = p := by
  unfold sk
  rw [show z - p = 0 by omega]; rfl
theorem sk_blank {T : Nat → Int32} {z p : Nat} (h : p < z) (hb : T p = 32) : sk T z p = sk T z (p + 1) := by
  unfold sk
  obtain ⟨f, hf⟩ : ∃ f, z - p = f + 1 := ⟨z - p - 1, by omega⟩
  rw [hf, show z - (p + 1) = f by omega]
  show (if z ≤ p then p else if T p = 32 then skp T z f (p + 1) else p) = _
  rw [if_neg (by omega), if_pos hb]
theorem sk_stop {T : Nat → Int32} {z p : Nat} (h : p < z) (hb : ¬ T p = 32) : sk T z p = p := by
  unfold sk
  obtain ⟨f, hf⟩ : ∃ f, z - p = f + 1 := ⟨z - p - 1, by omega⟩
  rw [hf]
  show (if z ≤ p then p else if T p = 32 then skp T z f (p + 1) else p) = _
  rw [if_neg (by omega), if_neg hb]
theorem sk_all (T : Nat → Int32) (z : Nat) : ∀ m p, z - p ≤ m → p ≤ z → p ≤ sk T z p ∧ sk T z p ≤ z ∧ (sk T z p < z → ¬ T (sk T z p) = 32) := by
  intro m
  induction m with
  | zero =>
    intro p h1 h2
    rw [sk_end (by omega)]
    exact ⟨Nat.le_refl _, h2, fun q => by omega⟩
  | succ m ih =>
    intro p h1 h2
    by_cases h : p < z
    · by_cases hb : T p = 32
      · rw [sk_blank h hb]
        obtain ⟨a, b, c⟩ := ih (p + 1) (by omega) (by omega)
        exact ⟨by omega, b, c⟩
      · rw [sk_stop h hb]
        exact ⟨Nat.le_refl _, h2, fun _ => hb⟩
    · rw [sk_end (by omega)]
      exact ⟨Nat.le_refl _, h2, fun q => by omega⟩
theorem sk_ge {T : Nat → Int32} {z p : Nat} (h : p ≤ z) : p ≤ sk T z p := (sk_all T z (z - p) p (Nat.le_refl _) h).1
theorem sk_le {T : Nat → Int32} {z p : Nat} (h : p ≤ z) : sk T z p ≤ z := (sk_all T z (z - p) p (Nat.le_refl _) h).2.1
theorem sk_nb {T : Nat → Int32} {z p : Nat} (h : p ≤ z) (h2 : sk T z p < z) : ¬ T (sk T z p) = 32 := (sk_all T z (z - p) p (Nat.le_refl _) h).2.2 h2
theorem sk_idem {T : Nat → Int32} {z p : Nat} (h : p ≤ z) : sk T z (sk T z p) = sk T z p := by
  by_cases q : sk T z p < z
  · exact sk_stop q (sk_nb h q)
  · exact sk_end (by omega)
def TOk (T : Nat → Int32) (z : Nat) : Prop := z ≤ 120 ∧ ∀ q, q < 120 → ∃ c, c < 128 ∧ T q = nI c
def cT (T : Nat → Int32) (z : Nat) (M : Mem) : Prop := M 2 1 = nI z ∧ ∀ q, q < 120 → M 40 q = T q
def mT (T : Nat → Int32) (z : Nat) (M : Mem) : Prop := M 0 38 = nI z ∧ ∀ q, q < 120 → M 30 q = T q
/-- the class's reading at place p -/
def cQ (M : Mem) (p : Nat) : Mem := up2 M 2 7 (nI p)
theorem cQ_7 (M : Mem) (p : Nat) : cQ M p 2 7 = nI p := up2_at _ _ _ _
theorem cQ_k {M : Mem} {p k : Nat} (h : k ≠ 7) : cQ M p 2 k = M 2 k := up2_nk h
theorem cQ_r {M : Mem} {p x : Nat} (h : x ≠ 2) : cQ M p x = M x := up2_row h
theorem cQ_w (M : Mem) (p q : Nat) : up2 (cQ M p) 2 7 (nI q) = cQ M q := up2_up2 _ _ _ _ _
theorem cQ_of {M : Mem} {p : Nat} (h : M 2 7 = nI p) : cQ M p = M := by unfold cQ; rw [← h]; exact up2_self M 2 7
theorem le_nI {a b : Nat} (ha : a < 1000) (hb : b < 1000) : nI a ≤ nI b ↔ a ≤ b := nI_leI (by omega) (by omega)
theorem lt_nI {a b : Nat} (ha : a < 1000) (hb : b < 1000) : nI a < nI b ↔ a < b := nI_ltI (by omega) (by omega)
section CR
variable {T : Nat → Int32} {z : Nat} {M : Mem}
theorem c_skL (hT : TOk T z) (hM : cT T z M) : ∀ m p, z - p ≤ m → p ≤ z → ∀ n, m < n → fX4_skipBlanks_L0 n (cQ M p) = some (cQ M (sk T z p)) := by
  obtain ⟨hz, hc⟩ := hT
  obtain ⟨h1, h2⟩ := hM
  intro m
  induction m with
  | zero =>
    intro p hp hpz n hn
    obtain ⟨n, rfl⟩ : ∃ k, n = k + 1 := ⟨n - 1, by omega⟩
    rw [fX4_skipBlanks_L0, cQ_7, cQ_k (by decide), h1, if_pos ((le_nI (by omega) (by omega)).mpr (by omega)), sk_end (by omega)]
  | succ m ih =>
    intro p hp hpz n hn
    obtain ⟨n, rfl⟩ : ∃ k, n = k + 1 := ⟨n - 1, by omega⟩
    rw [fX4_skipBlanks_L0, cQ_7, cQ_k (by decide), h1]
    by_cases h : p < z
    · rw [if_neg (fun q => by have := (le_nI (by omega) (by omega)).mp q; omega), ix_in (vp120 (by omega)), nI_cl (by omega), cQ_r (by decide), h2 p (by omega)]
      by_cases hb : T p = 32
      · rw [if_pos hb, nI_1]
        show fX4_skipBlanks_L0 n (up2 (cQ M p) 2 7 (nI (p + 1))) = _
        rw [cQ_w, ih (p + 1) (by omega) (by omega) n (by omega), sk_blank h hb]
      · rw [if_neg hb, sk_stop h hb]
    · rw [if_pos ((le_nI (by omega) (by omega)).mpr (by omega)), sk_end (by omega)]
theorem c_sk (hT : TOk T z) (hM : cT T z M) {p : Nat} (hp : p ≤ z) : fX4_skipBlanks (cQ M p) = some (cQ M (sk T z p)) := by
  unfold fX4_skipBlanks
  rw [c_skL hT hM z p (by omega) hp FUEL (fuel_gt _ (by have := hT.1; omega)), bnd1_s]
def fgr (T : Nat → Int32) (z p : Nat) : Bool := decide (p < z) && decide ((48 : Int32) ≤ T p) && decide (T p ≤ (57 : Int32))
theorem fgr_i {p : Nat} : fgr T z p = true ↔ (p < z ∧ (48 : Int32) ≤ T p ∧ T p ≤ (57 : Int32)) := by
  unfold fgr
  rw [Bool.and_eq_true, Bool.and_eq_true, decide_eq_true_eq, decide_eq_true_eq, decide_eq_true_eq, and_assoc]
theorem fgr_d {p : Nat} (h : fgr T z p = true) : ∃ d, d ≤ 9 ∧ T p = nI (48 + d) ∧ T p - 48 = nI d := by
  obtain ⟨h1, h2, h3⟩ := fgr_i.mp h
  have h0 : ¬ T p < 0 := fun q => by
    rw [i_lt] at q; rw [i_le] at h2
    have e1 : (48 : Int32).toInt = 48 := rfl
    have e2 : (0 : Int32).toInt = 0 := rfl
    omega
  obtain ⟨c, hc, e⟩ := nI_of h0
  rw [e] at h2 h3
  have a1 : 48 ≤ c := (nI_leI (a := 48) (by decide) hc).mp h2
  have a2 : c ≤ 57 := (nI_leI (b := 57) hc (by decide)).mp h3
  refine ⟨c - 48, by omega, by rw [e, show 48 + (c - 48) = c by omega], ?_⟩
  rw [e]
  exact pk_sub a1
theorem c_fig (hT : TOk T z) (hM : cT T z M) {p : Nat} (hp : p ≤ z) : fX4_isFigureNext (cQ M p) = some (if fgr T z p = true then 1 else 0) := by
  obtain ⟨hz, hc⟩ := hT
  obtain ⟨h1, h2⟩ := hM
  unfold fX4_isFigureNext
  rw [cQ_7, cQ_k (by decide), h1]
  by_cases h : p < z
  · rw [if_neg (fun q => by have := (le_nI (by omega) (by omega)).mp q; omega), ix_in (vp120 (by omega)), nI_cl (by omega), cQ_r (by decide), h2 p (by omega)]
    by_cases a : T p < 48
    · rw [if_pos a, if_neg (fun q => Int32.not_le.mpr a (fgr_i.mp q).2.1)]
    · rw [if_neg a]
      by_cases b : 57 < T p
      · rw [if_pos b, if_neg (fun q => Int32.not_le.mpr b (fgr_i.mp q).2.2)]
      · rw [if_neg b, if_pos (fgr_i.mpr ⟨h, Int32.not_lt.mp a, Int32.not_lt.mp b⟩)]
  · rw [if_pos ((le_nI (by omega) (by omega)).mpr (by omega)), if_neg (fun q => h (fgr_i.mp q).1)]
def pFig (T : Nat → Int32) (z : Nat) (n : Int32) (p : Nat) : Int32 × Nat := if fgr T z (sk T z p) = true ∧ T (sk T z p) - 48 < n then (T (sk T z p) - 48, sk T z p + 1) else (-1, sk T z p)
theorem c_readFig (hT : TOk T z) (hM : cT T z M) {p : Nat} (hp : p ≤ z) (n : Int32) : fX4_readFigure n (cQ M p) = some ((pFig T z n p).1, cQ M (pFig T z n p).2) := by
  unfold fX4_readFigure pFig
  rw [c_sk hT hM hp, bnd1_s, c_fig hT hM (sk_le hp), bnd1_s]
  have hz := hT.1
  have hq := sk_le (T := T) hp
  by_cases h : fgr T z (sk T z p) = true
  · have h3 := (fgr_i.mp h).1
    rw [if_pos h, if_neg (by decide), cQ_7, ix_in (vp120 (by omega)), nI_cl (by omega), cQ_r (by decide), hM.2 _ (by omega)]
    by_cases h2 : T (sk T z p) - 48 < n
    · rw [if_pos h2, if_pos ⟨h, h2⟩, nI_1]
      show some (_, up2 (cQ M (sk T z p)) 2 7 _) = _
      rw [cQ_w]
    · rw [if_neg h2, if_neg (fun q => h2 q.2)]
  · rw [if_neg h, if_pos rfl, if_neg (fun q => h q.1)]
def pNum (T : Nat → Int32) (z : Nat) (mx : Int32) (p : Nat) : Int32 × Nat :=
  if fgr T z (sk T z p) = true then
    (if fgr T z (sk T z p + 1) = true then
      (if fgr T z (sk T z p + 2) = true then (-1, sk T z p)
       else if (T (sk T z p) - 48) * 10 + T (sk T z p + 1) - 48 ≤ mx then ((T (sk T z p) - 48) * 10 + T (sk T z p + 1) - 48, sk T z p + 2) else (-1, sk T z p))
     else if T (sk T z p) - 48 ≤ mx then (T (sk T z p) - 48, sk T z p + 1) else (-1, sk T z p))
  else (-1, sk T z p)
theorem c_nstop (hT : TOk T z) (hM : cT T z M) {p q : Nat} {mx v : Int32} {n : Nat} (hp : p ≤ z) (h : fgr T z p = false ∨ p = q + 3) : fX4_readNumber_L11 (n + 1) mx (nI q) v (cQ M p) = some (v, cQ M p) := by
  have hz := hT.1
  rw [fX4_readNumber_L11, c_fig hT hM hp, bnd1_s]
  by_cases hf : fgr T z p = true
  · rw [if_pos hf, if_neg (by decide)]
    have hq : p = q + 3 := by
      rcases h with h | h
      · rw [h] at hf; cases hf
      · exact h
    rw [cQ_7, show nI q + (3 : Int32) = nI (q + 3) from nI_add q 3, if_pos ((le_nI (by omega) (by omega)).mpr (by omega))]
  · rw [if_neg hf, if_pos rfl]
theorem c_ngo (hT : TOk T z) (hM : cT T z M) {p q : Nat} {mx v : Int32} {n : Nat} (hp : p ≤ z) (h : fgr T z p = true) (hq : p < q + 3) (hqz : q ≤ z) : fX4_readNumber_L11 (n + 1) mx (nI q) v (cQ M p) = fX4_readNumber_L11 n mx (nI q) (v * 10 + T p - 48) (cQ M (p + 1)) := by
  have hz := hT.1
  have h3 := (fgr_i.mp h).1
  rw [fX4_readNumber_L11, c_fig hT hM hp, bnd1_s, if_pos h, if_neg (by decide), cQ_7, show nI q + (3 : Int32) = nI (q + 3) from nI_add q 3, if_neg (fun w => by have := (le_nI (by omega) (by omega)).mp w; omega), ix_in (vp120 (by omega)), nI_1, nI_cl (by omega), cQ_r (by decide), hM.2 p (by omega)]
  show fX4_readNumber_L11 n mx (nI q) _ (up2 (cQ M p) 2 7 (nI (p + 1))) = _
  rw [cQ_w]
theorem z10 (v : Int32) : 0 * 10 + v - 48 = v - 48 := by
  rw [show (0 : Int32) * 10 = 0 from rfl, Int32.zero_add]
theorem c_readNum (hT : TOk T z) (hM : cT T z M) {p : Nat} (hp : p ≤ z) (mx : Int32) : fX4_readNumber mx (cQ M p) = some ((pNum T z mx p).1, cQ M (pNum T z mx p).2) := by
  have hz := hT.1
  have hq := sk_le (T := T) hp
  unfold fX4_readNumber pNum
  rw [c_sk hT hM hp, bnd1_s, cQ_7, show FUEL = 4092 + 1 + 1 + 1 + 1 from rfl]
  generalize sk T z p = q at hq
  have back : ∀ r : Nat, wr (cQ M r) 2 7 (nI q) (fun M24 => some ((-1 : Int32), M24)) = some (-1, cQ M q) := fun r => by
    show some ((-1 : Int32), up2 (cQ M r) 2 7 (nI q)) = _
    rw [cQ_w]
  by_cases h0 : fgr T z q = true
  · rw [if_pos h0, c_ngo hT hM hq h0 (by omega) hq, z10]
    have l0 := (fgr_i.mp h0).1
    by_cases h1 : fgr T z (q + 1) = true
    · rw [if_pos h1, c_ngo hT hM (by omega) h1 (by omega) hq]
      have l1 := (fgr_i.mp h1).1
      by_cases h2 : fgr T z (q + 2) = true
      · have l2 := (fgr_i.mp h2).1
        rw [if_pos h2, c_ngo hT hM (by omega) h2 (by omega) hq, c_nstop hT hM (by omega) (Or.inr rfl), bnd2_s, cQ_7, pk_sub (by omega), show q + 1 + 1 + 1 - q = 3 by omega, if_neg (by decide), if_pos (by decide), back]
      · rw [if_neg h2, c_nstop hT hM (by omega) (Or.inl (by simpa using h2)), bnd2_s, cQ_7, pk_sub (by omega), show q + 1 + 1 - q = 2 by omega, if_neg (by decide), if_neg (by decide), back]
        by_cases h3 : (T q - 48) * 10 + T (q + 1) - 48 ≤ mx
        · rw [if_pos h3, if_pos h3]
        · rw [if_neg h3, if_neg h3]
    · rw [if_neg h1, c_nstop hT hM (by omega) (Or.inl (by simpa using h1)), bnd2_s, cQ_7, pk_sub (by omega), show q + 1 - q = 1 by omega, if_neg (by decide), if_neg (by decide), back]
      by_cases h3 : T q - 48 ≤ mx
      · rw [if_pos h3, if_pos h3]
      · rw [if_neg h3, if_neg h3]
  · rw [if_neg h0, c_nstop hT hM (by omega) (Or.inl (by simpa using h0)), bnd2_s, cQ_7, pk_sub (by omega), show q - q = 0 by omega, if_pos (by decide), back]
end CR
