/-! the two memories side by side: which place of the reference is which of the class -/
theorem up2_at (M : Mem) (x k : Nat) (v : Int32) : up2 M x k v x k = v := by simp [up2, upd]
theorem up2_nx {M : Mem} {x k y j : Nat} {v : Int32} (h : y ≠ x) : up2 M x k v y j = M y j := by simp [up2, h]
theorem up2_nk {M : Mem} {x k y j : Nat} {v : Int32} (h : j ≠ k) : up2 M x k v y j = M y j := by
  by_cases e : y = x
  · subst e; simp [up2, upd, h]
  · simp [up2, e]
theorem up2_or {M : Mem} {x k y j : Nat} {v : Int32} (h : ¬ (y = x ∧ j = k)) : up2 M x k v y j = M y j := by
  by_cases e : y = x
  · exact up2_nk (fun q => h ⟨e, q⟩)
  · exact up2_nx e
theorem up2_if (M : Mem) (x k y j : Nat) (v : Int32) : up2 M x k v y j = if y = x ∧ j = k then v else M y j := by
  by_cases h : y = x ∧ j = k
  · rw [if_pos h, h.1, h.2, up2_at]
  · rw [if_neg h, up2_or h]
theorem up2_comm {M : Mem} {x k y j : Nat} {v w : Int32} (h : ¬ (x = y ∧ k = j)) : up2 (up2 M x k v) y j w = up2 (up2 M y j w) x k v := by
  funext a b
  rw [up2_if, up2_if, up2_if, up2_if]
  by_cases h1 : a = y ∧ b = j
  · have h2 : ¬ (a = x ∧ b = k) := fun q => h ⟨q.1.symm.trans h1.1, q.2.symm.trans h1.2⟩
    rw [if_pos h1, if_neg h2, if_pos h1]
  · rw [if_neg h1, if_neg h1]
def sfld (d : Nat) : Nat := if d = 9 then 0 else if d = 10 then 1 else if d = 11 then 2 else if d = 12 then 3 else if d = 13 then 4 else if d = 14 then 5 else if d = 15 then 7 else if d = 17 then 8 else 9
def ccel (d : Nat) : Nat := if d = 19 then 29 else if d = 20 then 31 else if d = 21 then 30 else if d = 22 then 32 else 33
def pos (d k : Nat) : Option (Nat × Nat) :=
  if d = 0 then (if k = 1 then some (1, 0) else if k = 2 then some (1, 1) else if k = 3 then some (1, 2) else if k = 4 then some (1, 3) else if k = 22 then some (28, 5) else if k = 38 then some (2, 1) else none)
  else if d = 1 then (if k < 3 then some (0, 2 + k) else none)
  else if d < 8 then (if k < 4 then some (24 + k, d - 2) else none)
  else if d = 8 then (if k < 24 then some (4 + k / 4, k % 4) else none)
  else if d = 16 then (if k < 24 then some (17 + k / 4, k % 4) else none)
  else if d < 19 then (if k < 6 then some (11 + k, sfld d) else none)
  else if d < 24 then (if k < 60 then some (ccel d, k) else none)
  else if d = 29 then (if k < 6 then some (1, 10 + k) else none)
  else if d = 30 then (if k < 120 then some (40, k) else none)
  else none
def sinv (j : Nat) : Nat := if j = 0 then 9 else if j = 1 then 10 else if j = 2 then 11 else if j = 3 then 12 else if j = 4 then 13 else if j = 5 then 14 else if j = 7 then 15 else if j = 8 then 17 else 18
def pinv (c j : Nat) : Nat × Nat :=
  if c = 0 then (1, j - 2) else if c = 1 then (if j = 0 then (0, 1) else if j = 1 then (0, 2) else if j = 2 then (0, 3) else if j = 3 then (0, 4) else (29, j - 10))
  else if c = 2 then (0, 38) else if c < 10 then (8, 4 * (c - 4) + j) else if c < 17 then (sinv j, c - 11) else if c < 23 then (16, 4 * (c - 17) + j)
  else if c < 28 then (j + 2, c - 24) else if c = 28 then (0, 22) else if c = 29 then (19, j) else if c = 30 then (21, j) else if c = 31 then (20, j) else if c = 32 then (22, j) else if c = 33 then (23, j) else (30, j)
theorem pos_dom {d k : Nat} {q : Nat × Nat} (h : pos d k = some q) : d < 31 ∧ k < 120 := by
  by_cases hd : d < 31
  · refine ⟨hd, ?_⟩
    unfold pos at h
    repeat' split at h
    all_goals first | (cases h; done) | omega
  · unfold pos at h
    rw [if_neg (by omega), if_neg (by omega), if_neg (by omega), if_neg (by omega), if_neg (by omega), if_neg (by omega), if_neg (by omega), if_neg (by omega), if_neg (by omega)] at h
    cases h
def pos_chk (d k : Nat) : Bool := match pos d k with
  | none => true
  | some q => decide (pinv q.1 q.2 = (d, k)) && decide (q.1 < 34 ∨ q.1 = 40)
theorem pos_all : ∀ d, d < 31 → ∀ k, k < 120 → pos_chk d k = true := by decide +kernel
theorem pos_ok {d k : Nat} {q : Nat × Nat} (h : pos d k = some q) : pinv q.1 q.2 = (d, k) ∧ (q.1 < 34 ∨ q.1 = 40) := by
  obtain ⟨h1, h2⟩ := pos_dom h
  have h3 := pos_all d h1 k h2
  unfold pos_chk at h3
  rw [h] at h3
  simp only [Bool.and_eq_true, decide_eq_true_eq] at h3
  exact h3
theorem pos_inj {d k d' k' : Nat} {q : Nat × Nat} (h : pos d k = some q) (h' : pos d' k' = some q) : d = d' ∧ k = k' := by
  have e := (pos_ok h).1.symm.trans (pos_ok h').1
  exact ⟨congrArg Prod.fst e, congrArg Prod.snd e⟩
theorem pos_nd {d k : Nat} {q : Nat × Nat} (h : pos d k = some q) : d < 24 ∨ d = 29 ∨ d = 30 := by
  unfold pos at h
  repeat' split at h
  all_goals first | (cases h; done) | omega
theorem p_tick : pos 0 4 = some (1, 3) := rfl
theorem p_wide : pos 0 3 = some (1, 2) := rfl
theorem p_ns : pos 0 1 = some (1, 0) := rfl
theorem p_g : pos 0 2 = some (1, 1) := rfl
theorem p_cn : pos 0 22 = some (28, 5) := rfl
theorem p_size : pos 0 38 = some (2, 1) := rfl
theorem p_ref {k : Nat} (h : k < 3) : pos 1 k = some (0, 2 + k) := by simp [pos, h]
theorem p_gate {d k : Nat} (h1 : 2 ≤ d) (h2 : d < 8) (h : k < 4) : pos d k = some (24 + k, d - 2) := by
  unfold pos
  rw [if_neg (by omega), if_neg (by omega), if_pos h2, if_pos h]
theorem p_gain {i j : Nat} (hi : i < 6) (hj : j < 4) : pos 8 (4 * i + j) = some (4 + i, j) := by
  unfold pos
  rw [if_neg (by omega), if_neg (by omega), if_neg (by omega), if_pos rfl, if_pos (by omega), show (4 * i + j) / 4 = i by omega, show (4 * i + j) % 4 = j by omega]
theorem p_marg {i j : Nat} (hi : i < 6) (hj : j < 4) : pos 16 (4 * i + j) = some (17 + i, j) := by
  unfold pos
  rw [if_neg (by omega), if_neg (by omega), if_neg (by omega), if_neg (by omega), if_pos rfl, if_pos (by omega), show (4 * i + j) / 4 = i by omega, show (4 * i + j) % 4 = j by omega]
theorem p_snd {d k : Nat} (h1 : 9 ≤ d) (h2 : d < 19) (h3 : d ≠ 16) (h : k < 6) : pos d k = some (11 + k, sfld d) := by
  unfold pos
  rw [if_neg (by omega), if_neg (by omega), if_neg (by omega), if_neg (by omega), if_neg h3, if_pos h2, if_pos h]
theorem p_cp {d k : Nat} (h1 : 19 ≤ d) (h2 : d < 24) (h : k < 60) : pos d k = some (ccel d, k) := by
  unfold pos
  rw [if_neg (by omega), if_neg (by omega), if_neg (by omega), if_neg (by omega), if_neg (by omega), if_neg (by omega), if_pos h2, if_pos h]
theorem p_sum {k : Nat} (h : k < 6) : pos 29 k = some (1, 10 + k) := by simp [pos, h]
theorem p_txt {k : Nat} (h : k < 120) : pos 30 k = some (40, k) := by simp [pos, h]
def Rel (C D : Mem) : Prop := ∀ d k c j, pos d k = some (c, j) → C c j = D d k
theorem Rel.wr {C D : Mem} (h : Rel C D) {d k c j : Nat} (hp : pos d k = some (c, j)) (v : Int32) : Rel (up2 C c j v) (up2 D d k v) := by
  intro d1 k1 c1 j1 h1
  by_cases e : d1 = d ∧ k1 = k
  · obtain ⟨rfl, rfl⟩ := e
    cases hp.symm.trans h1
    rw [up2_at, up2_at]
  · have e2 : ¬ (c1 = c ∧ j1 = j) := fun q => e (pos_inj h1 (by rw [q.1, q.2]; exact hp))
    rw [up2_or e, up2_or e2]
    exact h d1 k1 c1 j1 h1
theorem Rel.wrC {C D : Mem} (h : Rel C D) {c j : Nat} (hp : ∀ d k, pos d k ≠ some (c, j)) (v : Int32) : Rel (up2 C c j v) D := by
  intro d1 k1 c1 j1 h1
  have e2 : ¬ (c1 = c ∧ j1 = j) := fun q => hp d1 k1 (by rw [h1, q.1, q.2])
  rw [up2_or e2]
  exact h d1 k1 c1 j1 h1
theorem Rel.wrD {C D : Mem} (h : Rel C D) {d k : Nat} (hp : pos d k = none) (v : Int32) : Rel C (up2 D d k v) := by
  intro d1 k1 c1 j1 h1
  have e2 : ¬ (d1 = d ∧ k1 = k) := fun q => by rw [q.1, q.2, hp] at h1; cases h1
  rw [up2_or e2]
  exact h d1 k1 c1 j1 h1
/-- ranges of what the reference keeps -/
def rng (N : Nat) (v : Int32) : Prop := ∃ n : Nat, n ≤ N ∧ v = nI n
def okv (d k : Nat) (v : Int32) : Prop :=
  if d = 0 then (k = 38 → rng 120 v)
  else if d = 9 then rng 5 v
  else if d = 10 then rng 4 v
  else if d = 11 then rng 63 v
  else if d = 12 then rng 1 v
  else if d = 13 then (v = -2 ∨ v = -1 ∨ rng 63 v)
  else if d = 14 then rng 63 v
  else if d = 15 then rng 4 v
  else if d = 16 then ¬ v < 0
  else if d = 19 then rng 5 v
  else if d = 21 then (v = -1 ∨ rng 63 v)
  else if d = 22 then ¬ v < 0
  else (d = 30 → rng 127 v)
def Okv (D : Mem) : Prop := ∀ d k, okv d k (D d k)
theorem Okv.wr {D : Mem} (h : Okv D) {d k : Nat} {v : Int32} (hv : okv d k v) : Okv (up2 D d k v) := by
  intro d1 k1
  by_cases e : d1 = d ∧ k1 = k
  · obtain ⟨rfl, rfl⟩ := e
    rw [up2_at]; exact hv
  · rw [up2_or e]; exact h d1 k1
/-- what a window of the reference has heard, and the class's row for it: a the class's place, w the reference's -/
def WinAt (g a w : Nat) (C D : Mem) : Prop :=
  C 35 a = D 24 w ∧ C 36 a = D 25 w ∧ C 37 a = D 26 w ∧ (∃ i, i < 6 ∧ D 24 w = nI i) ∧ (D 25 w = -1 ∨ rng 63 (D 25 w)) ∧
  ∃ b : Nat, b < 2 ^ g ∧ 0 < b ∧ D 27 w = nI b ∧ ∀ j, j < 4 → (b.testBit j = true → ¬ D 28 (4 * w + j) < 0 ∧ C 38 (4 * a + j) = D 28 (4 * w + j)) ∧ (b.testBit j = false → C 38 (4 * a + j) = -1)
def WinO (g s W : Nat) (C D : Mem) : Prop :=
  s ≤ W ∧ W ≤ 390 ∧ C 34 4 = nI W ∧ D 0 28 = nI (W - s) ∧ (∀ w, w < W - s → WinAt g (s + w) w C D) ∧
  ∀ w1 w2, w1 < w2 → w2 < W - s → ¬ (D 24 w1 = D 24 w2 ∧ D 25 w1 = D 25 w2)
/-- the whole relation: ns senders, g gates, cn copies, W windows of the class, s of them closed already -/
def Iz (ns g cn s W : Nat) (C D : Mem) : Prop :=
  Rel C D ∧ Okv D ∧ (D 0 1 = nI ns ∧ 1 ≤ ns ∧ ns ≤ 6) ∧ (D 0 2 = nI g ∧ 1 ≤ g ∧ g ≤ 4) ∧ (D 0 22 = nI cn ∧ cn ≤ 60 ∧ ∀ k, k < cn → ∃ a, a < g ∧ D 20 k = nI a) ∧ WinO g s W C D
theorem WinAt.cong {g a w : Nat} {C D C' D' : Mem} (h : WinAt g a w C D) (hC : ∀ x, 35 ≤ x → x ≤ 38 → C' x = C x) (hD : ∀ x, 24 ≤ x → x ≤ 28 → D' x = D x) : WinAt g a w C' D' := by
  unfold WinAt at h ⊢
  rw [hC 35 (by omega) (by omega), hC 36 (by omega) (by omega), hC 37 (by omega) (by omega), hC 38 (by omega) (by omega), hD 24 (by omega) (by omega), hD 25 (by omega) (by omega), hD 26 (by omega) (by omega), hD 27 (by omega) (by omega), hD 28 (by omega) (by omega)]
  exact h
theorem WinO.cong {g s W : Nat} {C D C' D' : Mem} (h : WinO g s W C D) (hC : ∀ x, 35 ≤ x → x ≤ 38 → C' x = C x) (hC4 : C' 34 4 = C 34 4) (hD : ∀ x, 24 ≤ x → x ≤ 28 → D' x = D x) (hD4 : D' 0 28 = D 0 28) : WinO g s W C' D' := by
  obtain ⟨h1, h2, h3, h4, h5, h6⟩ := h
  refine ⟨h1, h2, by rw [hC4]; exact h3, by rw [hD4]; exact h4, fun w hw => (h5 w hw).cong hC hD, ?_⟩
  rw [hD 24 (by omega) (by omega), hD 25 (by omega) (by omega)]
  exact h6
theorem up2_row {M : Mem} {x k y : Nat} {v : Int32} (h : y ≠ x) : up2 M x k v y = M y := if_neg h
theorem Iz.wr {ns g cn s W : Nat} {C D : Mem} (h : Iz ns g cn s W C D) {d k c j : Nat} (hp : pos d k = some (c, j)) (hd : d ≠ 20) (hk : d = 0 → 3 ≤ k ∧ k ≠ 22) {v : Int32} (hv : okv d k v) : Iz ns g cn s W (up2 C c j v) (up2 D d k v) := by
  obtain ⟨h1, h2, h3, h4, h5, h6⟩ := h
  have hn := pos_nd hp
  have hc := (pos_ok hp).2
  have e0 : ∀ q, (q < 3 ∨ q = 22) → up2 D d k v 0 q = D 0 q := fun q hq => up2_or (fun e => by have := hk e.1.symm; omega)
  have e28 : up2 D d k v 0 28 = D 0 28 := up2_or (fun e => by
    rw [← e.1, ← e.2] at hp; cases hp)
  refine ⟨h1.wr hp v, h2.wr hv, ?_, ?_, ?_, ?_⟩
  · rw [e0 1 (by omega)]; exact h3
  · rw [e0 2 (by omega)]; exact h4
  · rw [e0 22 (by omega), up2_row (fun e => hd e.symm)]; exact h5
  · refine h6.cong (fun x hx hy => up2_row (by omega)) (up2_nx (by omega)) (fun x hx hy => up2_row (by omega)) e28
theorem Iz.wr1 {ns g cn s W : Nat} {C D : Mem} (h : Iz ns g cn s W C D) {d k c j : Nat} (hp : pos d k = some (c, j)) (hd : d ≠ 20) (h0 : d ≠ 0) {v : Int32} (hv : okv d k v) : Iz ns g cn s W (up2 C c j v) (up2 D d k v) := h.wr hp hd (fun q => absurd q h0) hv
theorem Iz.wrC {ns g cn s W : Nat} {C D : Mem} (h : Iz ns g cn s W C D) {c j : Nat} (hp : ∀ d k, pos d k ≠ some (c, j)) (hc : c ≠ 34 ∧ c ≠ 35 ∧ c ≠ 36 ∧ c ≠ 37 ∧ c ≠ 38) (v : Int32) : Iz ns g cn s W (up2 C c j v) D := by
  obtain ⟨h1, h2, h3, h4, h5, h6⟩ := h
  exact ⟨h1.wrC hp v, h2, h3, h4, h5, h6.cong (fun x hx hy => up2_row (by omega)) (up2_nx (by omega)) (fun x hx hy => rfl) rfl⟩
theorem Iz.wrD {ns g cn s W : Nat} {C D : Mem} (h : Iz ns g cn s W C D) {k : Nat} (hk : 35 ≤ k ∧ k ≠ 38) (v : Int32) : Iz ns g cn s W C (up2 D 0 k v) := by
  obtain ⟨h1, h2, h3, h4, h5, h6⟩ := h
  have hp : pos 0 k = none := by
    unfold pos
    rw [if_pos rfl, if_neg (by omega), if_neg (by omega), if_neg (by omega), if_neg (by omega), if_neg (by omega), if_neg (by omega)]
  refine ⟨h1.wrD hp v, h2.wr ?_, ?_, ?_, ?_, h6.cong (fun x hx hy => rfl) rfl (fun x hx hy => up2_row (by omega)) (up2_nk (by omega))⟩
  · unfold okv; rw [if_pos rfl]; intro e; omega
  · rw [up2_nk (by omega)]; exact h3
  · rw [up2_nk (by omega)]; exact h4
  · rw [up2_nk (by omega), up2_row (by omega)]; exact h5
