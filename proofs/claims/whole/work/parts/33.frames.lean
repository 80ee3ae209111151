/-! what the net and the house leave as it was: the text, the orders, the reference's reading -/
def Fr (P : Nat → Nat → Prop) (M M' : Mem) : Prop := ∀ c k, P c k → M' c k = M c k
theorem Fr.trans {P : Nat → Nat → Prop} {M M1 M2 : Mem} (h : Fr P M M1) (h2 : Fr P M1 M2) : Fr P M M2 := fun c k hp => (h2 c k hp).trans (h c k hp)
def FC (c _ : Nat) : Prop := c = 2 ∨ 40 ≤ c
def FM (c k : Nat) : Prop := c = 30 ∨ (c = 0 ∧ (k < 4 ∨ 37 < k))
theorem fr_wr {P : Nat → Nat → Prop} {M0 M : Mem} {x k : Nat} {v : Int32} {α : Type} {K : Mem → Option α} {r : α} {G : Prop} (h0 : Fr P M0 M) (hx : ¬ P x k) (hf : wr M x k v K = some r) (kk : ∀ M1, Fr P M0 M1 → K M1 = some r → G) : G :=
  kk _ (fun c j hp => by rw [up2_or (fun e => hx (by rw [← e.1, ← e.2]; exact hp))]; exact h0 c j hp) hf
theorem fr_ix {i : Int32} {n : Nat} {α : Type} {K : Option α} {r : α} {G : Prop} (hf : ix i n K = some r) (kk : i.toNatClampNeg < n → K = some r → G) : G := by
  obtain ⟨h1, h2⟩ := ix_some hf
  exact kk (Nat.not_le.mp fun q => h1 (Or.inr q)) h2
theorem fr_ite {c : Prop} [Decidable c] {α : Type} {X Y : Option α} {r : α} {G : Prop} (hf : (if c then X else Y) = some r) (k1 : X = some r → G) (k2 : Y = some r → G) : G := by
  by_cases h : c
  · rw [if_pos h] at hf; exact k1 hf
  · rw [if_neg h] at hf; exact k2 hf
theorem fr_cpy {P : Nat → Nat → Prop} {M0 M : Mem} {x0 n0 x1 n1 : Nat} {sp dp n : Int32} {α : Type} {K : Mem → Option α} {r : α} {G : Prop} (h0 : Fr P M0 M) (hx : ∀ k, ¬ P x1 k) (hf : cpy M x0 n0 x1 n1 sp dp n K = some r) (kk : ∀ M1, Fr P M0 M1 → K M1 = some r → G) : G := by
  unfold cpy at hf
  refine fr_ite hf (fun hf => by cases hf) (fun hf => ?_)
  refine kk _ (fun c j hp => ?_) hf
  show (if c = x1 then _ else M c) j = _
  rw [if_neg (fun e => hx j (by rw [← e]; exact hp))]
  exact h0 c j hp
theorem fs_fX6_open_L43 : ∀ (n : Nat) (v4 : Int32) (M : Mem) (M' : Mem), fX6_open_L43 n v4 M = some M' → Fr FC M M' := by
  intro n
  induction n with
  | zero =>
    intro v4 M M' hf
    cases hf
  | succ n ih =>
    intro v4 M M' hf
    rw [fX6_open_L43] at hf
    have h0 : Fr FC M M := fun _ _ _ => rfl
    refine fr_ite hf (fun hf => ?_) (fun hf => ?_)
    · cases hf
      exact h0
    · refine fr_ix hf (fun hi1 hf => ?_)
      refine fr_wr h0 (by unfold FC; omega) hf (fun M15 h0 hf => ?_)
      exact h0.trans (ih _ _ _ hf)
theorem fr_fX6_open_L43 {n : Nat} {v4 : Int32} {M : Mem} {M' : Mem} (hf : fX6_open_L43 n v4 M = some M') : Fr FC M M' := fs_fX6_open_L43 n _ _ _  hf
theorem fr_fX6_open {v1 : Int32} {v2 : Int32} {v3 : Int32} {M : Mem} {M' : Mem} (hf : fX6_open v1 v2 v3 M = some M') : Fr FC M M' := by
  unfold fX6_open at hf
  have h0 : Fr FC M M := fun _ _ _ => rfl
  refine fr_ite hf (fun hf => ?_) (fun hf => ?_)
  · cases hf
    exact h0
  · refine fr_ix hf (fun hi1 hf => ?_)
    refine fr_wr h0 (by unfold FC; omega) hf (fun M2 h0 hf => ?_)
    refine fr_ix hf (fun hi2 hf => ?_)
    refine fr_wr h0 (by unfold FC; omega) hf (fun M6 h0 hf => ?_)
    refine fr_ix hf (fun hi3 hf => ?_)
    refine fr_wr h0 (by unfold FC; omega) hf (fun M10 h0 hf => ?_)
    obtain ⟨M20, hb4, hf⟩ := bnd1_some hf
    have h0 := h0.trans (fr_fX6_open_L43 hb4)
    refine fr_wr h0 (by unfold FC; omega) hf (fun M24 h0 hf => ?_)
    cases hf
    exact h0
theorem fr_fX6_hear {v1 : Int32} {v2 : Int32} {v3 : Int32} {M : Mem} {M' : Mem} (hf : fX6_hear v1 v2 v3 M = some M') : Fr FC M M' := by
  unfold fX6_hear at hf
  have h0 : Fr FC M M := fun _ _ _ => rfl
  refine fr_ite hf (fun hf => ?_) (fun hf => ?_)
  · cases hf
    exact h0
  · refine fr_ite hf (fun hf => ?_) (fun hf => ?_)
    · cases hf
      exact h0
    · refine fr_ix hf (fun hi1 hf => ?_)
      refine fr_wr h0 (by unfold FC; omega) hf (fun M3 h0 hf => ?_)
      cases hf
      exact h0
theorem fr_fX2_bring {v1 : Int32} {M : Mem} {M' : Mem} (hf : fX2_bring v1 M = some M') : Fr FC M M' := by
  unfold fX2_bring at hf
  have h0 : Fr FC M M := fun _ _ _ => rfl
  refine fr_ix hf (fun hi1 hf => ?_)
  obtain ⟨t7, hb2, hf⟩ := bnd1_some hf
  refine fr_ite hf (fun hf => ?_) (fun hf => ?_)
  · refine jn_go0 (Fr FC M M') hf (fun hf => ?_) (fun j12 Jj12 hf => ?_)
    · obtain ⟨M16, hb3, hf⟩ := bnd1_some hf
      have h0 := h0.trans (fr_fX6_open hb3)
      obtain ⟨M20, hb4, hf⟩ := bnd1_some hf
      have h0 := h0.trans (fr_fX6_hear hb4)
      cases hf
      exact h0
    · refine fr_ite hf (fun hf => ?_) (fun hf => ?_)
      · exact Jj12 hf
      · refine fr_ix hf (fun hi5 hf => ?_)
        refine fr_ite hf (fun hf => ?_) (fun hf => ?_)
        · refine fr_wr h0 (by unfold FC; omega) hf (fun M25 h0 hf => ?_)
          cases hf
          exact h0
        · exact Jj12 hf
  · obtain ⟨M33, hb6, hf⟩ := bnd1_some hf
    have h0 := h0.trans (fr_fX6_hear hb6)
    refine fr_wr h0 (by unfold FC; omega) hf (fun M34 h0 hf => ?_)
    cases hf
    exact h0
theorem fr_fX0_move {v1 : Int32} {v2 : Int32} {M : Mem} {M' : Mem} (hf : fX0_move v1 v2 M = some M') : Fr FC M M' := by
  unfold fX0_move at hf
  have h0 : Fr FC M M := fun _ _ _ => rfl
  refine fr_ix hf (fun hi1 hf => ?_)
  refine fr_ix hf (fun hi2 hf => ?_)
  refine fr_wr h0 (by unfold FC; omega) hf (fun M3 h0 hf => ?_)
  refine fr_wr h0 (by unfold FC; omega) hf (fun M6 h0 hf => ?_)
  refine fr_wr h0 (by unfold FC; omega) hf (fun M9 h0 hf => ?_)
  refine fr_wr h0 (by unfold FC; omega) hf (fun M12 h0 hf => ?_)
  refine fr_wr h0 (by unfold FC; omega) hf (fun M15 h0 hf => ?_)
  cases hf
  exact h0
theorem fs_fX2_bringCopies_L4 : ∀ (n : Nat) (v1 : Int32) (v2 : Int32) (M : Mem) (r0 : Int32) (M' : Mem), fX2_bringCopies_L4 n v1 v2 M = some (r0, M') → Fr FC M M' := by
  intro n
  induction n with
  | zero =>
    intro v1 v2 M r0 M' hf
    cases hf
  | succ n ih =>
    intro v1 v2 M r0 M' hf
    rw [fX2_bringCopies_L4] at hf
    have h0 : Fr FC M M := fun _ _ _ => rfl
    refine fr_ite hf (fun hf => ?_) (fun hf => ?_)
    · cases hf
      exact h0
    · refine fr_ix hf (fun hi1 hf => ?_)
      refine fr_ite hf (fun hf => ?_) (fun hf => ?_)
      · obtain ⟨M13, hb2, hf⟩ := bnd1_some hf
        have h0 := h0.trans (fr_fX2_bring hb2)
        exact h0.trans (ih _ _ _ _ _ hf)
      · obtain ⟨M7, hb3, hf⟩ := bnd1_some hf
        have h0 := h0.trans (fr_fX0_move hb3)
        exact h0.trans (ih _ _ _ _ _ hf)
theorem fr_fX2_bringCopies_L4 {n : Nat} {v1 : Int32} {v2 : Int32} {M : Mem} {r0 : Int32} {M' : Mem} (hf : fX2_bringCopies_L4 n v1 v2 M = some (r0, M')) : Fr FC M M' := fs_fX2_bringCopies_L4 n _ _ _ _ _  hf
theorem fr_fX2_bringCopies {M : Mem} {M' : Mem} (hf : fX2_bringCopies M = some M') : Fr FC M M' := by
  unfold fX2_bringCopies at hf
  have h0 : Fr FC M M := fun _ _ _ => rfl
  obtain ⟨w17, M18, hb1, hf⟩ := bnd2_some hf
  have h0 := h0.trans (fr_fX2_bringCopies_L4 hb1)
  refine fr_wr h0 (by unfold FC; omega) hf (fun M22 h0 hf => ?_)
  cases hf
  exact h0
theorem fr_fX2_sendAnswer {v1 : Int32} {x2 : Nat} {M : Mem} {r0 : Int32} {M' : Mem} (hx2 : 3 ≤ x2 ∧ x2 < 30) (hf : fX2_sendAnswer v1 x2 M = some (r0, M')) : Fr FC M M' := by
  unfold fX2_sendAnswer at hf
  have h0 : Fr FC M M := fun _ _ _ => rfl
  obtain ⟨w22, hb1, hf⟩ := bnd1_some hf
  refine fr_ite hf (fun hf => ?_) (fun hf => ?_)
  · refine fr_wr h0 (by unfold FC; omega) hf (fun M36 h0 hf => ?_)
    cases hf
    exact h0
  · refine fr_ix hf (fun hi2 hf => ?_)
    refine fr_wr h0 (by unfold FC; omega) hf (fun M27 h0 hf => ?_)
    refine fr_wr h0 (by unfold FC; omega) hf (fun M30 h0 hf => ?_)
    refine fr_wr h0 (by unfold FC; omega) hf (fun M33 h0 hf => ?_)
    cases hf
    exact h0
theorem fr_fX2_takeJoining {v1 : Int32} {x2 : Nat} {M : Mem} {M' : Mem} (hx2 : 3 ≤ x2 ∧ x2 < 30) (hf : fX2_takeJoining v1 x2 M = some M') : Fr FC M M' := by
  unfold fX2_takeJoining at hf
  have h0 : Fr FC M M := fun _ _ _ => rfl
  refine fr_wr h0 (by unfold FC; omega) hf (fun M1 h0 hf => ?_)
  refine fr_wr h0 (by unfold FC; omega) hf (fun M4 h0 hf => ?_)
  refine fr_wr h0 (by unfold FC; omega) hf (fun M7 h0 hf => ?_)
  obtain ⟨t14, M13, hb1, hf⟩ := bnd2_some hf
  have h0 := h0.trans (fr_fX2_sendAnswer (by omega) hb1)
  refine fr_ite hf (fun hf => ?_) (fun hf => ?_)
  · cases hf
    exact h0
  · refine fr_wr h0 (by unfold FC; omega) hf (fun M15 h0 hf => ?_)
    refine fr_wr h0 (by unfold FC; omega) hf (fun M18 h0 hf => ?_)
    cases hf
    exact h0
theorem fr_fX3_takeLetter {x : Nat} {v1 : Int32} {v2 : Int32} {M : Mem} {M' : Mem} (hx : 3 ≤ x ∧ x < 30) (hf : fX3_takeLetter x v1 v2 M = some M') : Fr FC M M' := by
  unfold fX3_takeLetter at hf
  have h0 : Fr FC M M := fun _ _ _ => rfl
  refine fr_wr h0 (by unfold FC; omega) hf (fun M4 h0 hf => ?_)
  refine fr_wr h0 (by unfold FC; omega) hf (fun M7 h0 hf => ?_)
  refine fr_wr h0 (by unfold FC; omega) hf (fun M10 h0 hf => ?_)
  refine jn_go1 (fun (M13 : Mem) => Fr FC M M13 → Fr FC M M') hf (fun M13 hf h0 => ?_) (fun j17 Jj17 hf => ?_)
  · refine fr_ix hf (fun hi1 hf => ?_)
    refine fr_wr h0 (by unfold FC; omega) hf (fun M19 h0 hf => ?_)
    refine fr_wr h0 (by unfold FC; omega) hf (fun M22 h0 hf => ?_)
    cases hf
    exact h0
  · refine fr_ite hf (fun hf => ?_) (fun hf => ?_)
    · exact Jj17 _ hf h0
    · refine fr_cpy h0 (fun k => by unfold FC; omega) hf (fun M25 h0 hf => ?_)
      refine fr_wr h0 (by unfold FC; omega) hf (fun M28 h0 hf => ?_)
      exact Jj17 _ hf h0
theorem fs_fX5_find_L16 : ∀ (n : Nat) (v4 : Int32) (M : Mem) (r0 : Int32) (M' : Mem), fX5_find_L16 n v4 M = some (r0, M') → Fr FC M M' := by
  intro n
  induction n with
  | zero =>
    intro v4 M r0 M' hf
    cases hf
  | succ n ih =>
    intro v4 M r0 M' hf
    rw [fX5_find_L16] at hf
    have h0 : Fr FC M M := fun _ _ _ => rfl
    refine fr_ite hf (fun hf => ?_) (fun hf => ?_)
    · cases hf
      exact h0
    · refine fr_ite hf (fun hf => ?_) (fun hf => ?_)
      · cases hf
        exact h0
      · refine fr_wr h0 (by unfold FC; omega) hf (fun M8 h0 hf => ?_)
        exact h0.trans (ih _ _ _ _ hf)
theorem fr_fX5_find_L16 {n : Nat} {v4 : Int32} {M : Mem} {r0 : Int32} {M' : Mem} (hf : fX5_find_L16 n v4 M = some (r0, M')) : Fr FC M M' := fs_fX5_find_L16 n _ _ _ _  hf
theorem fs_fX5_find_L46 : ∀ (n : Nat) (v4 : Int32) (M : Mem) (r0 : Int32) (M' : Mem), fX5_find_L46 n v4 M = some (r0, M') → Fr FC M M' := by
  intro n
  induction n with
  | zero =>
    intro v4 M r0 M' hf
    cases hf
  | succ n ih =>
    intro v4 M r0 M' hf
    rw [fX5_find_L46] at hf
    have h0 : Fr FC M M := fun _ _ _ => rfl
    refine fr_ite hf (fun hf => ?_) (fun hf => ?_)
    · cases hf
      exact h0
    · refine fr_ite hf (fun hf => ?_) (fun hf => ?_)
      · cases hf
        exact h0
      · refine fr_wr h0 (by unfold FC; omega) hf (fun M19 h0 hf => ?_)
        exact h0.trans (ih _ _ _ _ hf)
theorem fr_fX5_find_L46 {n : Nat} {v4 : Int32} {M : Mem} {r0 : Int32} {M' : Mem} (hf : fX5_find_L46 n v4 M = some (r0, M')) : Fr FC M M' := fs_fX5_find_L46 n _ _ _ _  hf
theorem fs_fX5_find_L75 : ∀ (n : Nat) (v4 : Int32) (M : Mem) (r0 : Int32) (M' : Mem), fX5_find_L75 n v4 M = some (r0, M') → Fr FC M M' := by
  intro n
  induction n with
  | zero =>
    intro v4 M r0 M' hf
    cases hf
  | succ n ih =>
    intro v4 M r0 M' hf
    rw [fX5_find_L75] at hf
    have h0 : Fr FC M M := fun _ _ _ => rfl
    refine fr_ite hf (fun hf => ?_) (fun hf => ?_)
    · cases hf
      exact h0
    · refine fr_ite hf (fun hf => ?_) (fun hf => ?_)
      · cases hf
        exact h0
      · refine fr_wr h0 (by unfold FC; omega) hf (fun M30 h0 hf => ?_)
        exact h0.trans (ih _ _ _ _ hf)
theorem fr_fX5_find_L75 {n : Nat} {v4 : Int32} {M : Mem} {r0 : Int32} {M' : Mem} (hf : fX5_find_L75 n v4 M = some (r0, M')) : Fr FC M M' := fs_fX5_find_L75 n _ _ _ _  hf
theorem fs_fX5_find_L104 : ∀ (n : Nat) (v4 : Int32) (M : Mem) (M' : Mem), fX5_find_L104 n v4 M = some M' → Fr FC M M' := by
  intro n
  induction n with
  | zero =>
    intro v4 M M' hf
    cases hf
  | succ n ih =>
    intro v4 M M' hf
    rw [fX5_find_L104] at hf
    have h0 : Fr FC M M := fun _ _ _ => rfl
    refine fr_ite hf (fun hf => ?_) (fun hf => ?_)
    · cases hf
      exact h0
    · refine fr_ite hf (fun hf => ?_) (fun hf => ?_)
      · cases hf
        exact h0
      · refine fr_wr h0 (by unfold FC; omega) hf (fun M41 h0 hf => ?_)
        exact h0.trans (ih _ _ _ hf)
theorem fr_fX5_find_L104 {n : Nat} {v4 : Int32} {M : Mem} {M' : Mem} (hf : fX5_find_L104 n v4 M = some M') : Fr FC M M' := fs_fX5_find_L104 n _ _ _  hf
theorem fr_fX5_find {v1 : Int32} {v2 : Int32} {v3 : Int32} {M : Mem} {M' : Mem} (hf : fX5_find v1 v2 v3 M = some M') : Fr FC M M' := by
  unfold fX5_find at hf
  have h0 : Fr FC M M := fun _ _ _ => rfl
  refine fr_wr h0 (by unfold FC; omega) hf (fun M1 h0 hf => ?_)
  refine fr_wr h0 (by unfold FC; omega) hf (fun M4 h0 hf => ?_)
  obtain ⟨w14, M15, hb1, hf⟩ := bnd2_some hf
  have h0 := h0.trans (fr_fX5_find_L16 hb1)
  obtain ⟨w25, M26, hb2, hf⟩ := bnd2_some hf
  have h0 := h0.trans (fr_fX5_find_L46 hb2)
  obtain ⟨w36, M37, hb3, hf⟩ := bnd2_some hf
  have h0 := h0.trans (fr_fX5_find_L75 hb3)
  obtain ⟨M47, hb4, hf⟩ := bnd1_some hf
  have h0 := h0.trans (fr_fX5_find_L104 hb4)
  cases hf
  exact h0
theorem fr_fX2_takeLetter {v1 : Int32} {x2 : Nat} {M : Mem} {M' : Mem} (hx2 : 3 ≤ x2 ∧ x2 < 30) (hf : fX2_takeLetter v1 x2 M = some M') : Fr FC M M' := by
  unfold fX2_takeLetter at hf
  have h0 : Fr FC M M := fun _ _ _ => rfl
  obtain ⟨t4, hb1, hf⟩ := bnd1_some hf
  refine fr_wr h0 (by unfold FC; omega) hf (fun M6 h0 hf => ?_)
  refine fr_ix hf (fun hi2 hf => ?_)
  refine fr_wr h0 (by unfold FC; omega) hf (fun M10 h0 hf => ?_)
  refine fr_ix hf (fun hi3 hf => ?_)
  obtain ⟨t17, hb4, hf⟩ := bnd1_some hf
  obtain ⟨M21, hb5, hf⟩ := bnd1_some hf
  have h0 := h0.trans (fr_fX3_takeLetter (by omega) hb5)
  refine fr_ite hf (fun hf => ?_) (fun hf => ?_)
  · obtain ⟨t25, hb6, hf⟩ := bnd1_some hf
    obtain ⟨M29, hb7, hf⟩ := bnd1_some hf
    have h0 := h0.trans (fr_fX5_find hb7)
    refine jn_go0 (Fr FC M M') hf (fun hf => ?_) (fun j33 Jj33 hf => ?_)
    · refine fr_wr h0 (by unfold FC; omega) hf (fun M34 h0 hf => ?_)
      obtain ⟨t41, M40, hb8, hf⟩ := bnd2_some hf
      have h0 := h0.trans (fr_fX2_sendAnswer (by omega) hb8)
      refine fr_ite hf (fun hf => ?_) (fun hf => ?_)
      · cases hf
        exact h0
      · refine fr_ite hf (fun hf => ?_) (fun hf => ?_)
        · refine fr_wr h0 (by unfold FC; omega) hf (fun M42 h0 hf => ?_)
          refine fr_wr h0 (by unfold FC; omega) hf (fun M45 h0 hf => ?_)
          cases hf
          exact h0
        · cases hf
          exact h0
    · refine fr_ite hf (fun hf => ?_) (fun hf => ?_)
      · refine fr_ite hf (fun hf => ?_) (fun hf => ?_)
        · cases hf
          exact h0
        · exact Jj33 hf
      · exact Jj33 hf
  · cases hf
    exact h0
theorem fs_fX2_closeWindows_L4 : ∀ (n : Nat) (v1 : Int32) (v2 : Int32) (M : Mem) (r0 : Int32) (r1 : Int32) (M' : Mem), fX2_closeWindows_L4 n v1 v2 M = some (r0, r1, M') → Fr FC M M' := by
  intro n
  induction n with
  | zero =>
    intro v1 v2 M r0 r1 M' hf
    cases hf
  | succ n ih =>
    intro v1 v2 M r0 r1 M' hf
    rw [fX2_closeWindows_L4] at hf
    have h0 : Fr FC M M := fun _ _ _ => rfl
    refine fr_ite hf (fun hf => ?_) (fun hf => ?_)
    · cases hf
      exact h0
    · refine fr_ix hf (fun hi1 hf => ?_)
      refine fr_ite hf (fun hf => ?_) (fun hf => ?_)
      · cases hf
        exact h0
      · refine fr_ix hf (fun hi2 hf => ?_)
        refine fr_ite hf (fun hf => ?_) (fun hf => ?_)
        · obtain ⟨M24, hb3, hf⟩ := bnd1_some hf
          have h0 := h0.trans (fr_fX2_takeJoining (by omega) hb3)
          exact h0.trans (ih _ _ _ _ _ _ hf)
        · refine fr_ite hf (fun hf => ?_) (fun hf => ?_)
          · refine fr_wr h0 (by unfold FC; omega) hf (fun M10 h0 hf => ?_)
            exact h0.trans (ih _ _ _ _ _ _ hf)
          · obtain ⟨M17, hb4, hf⟩ := bnd1_some hf
            have h0 := h0.trans (fr_fX2_takeLetter (by omega) hb4)
            exact h0.trans (ih _ _ _ _ _ _ hf)
theorem fr_fX2_closeWindows_L4 {n : Nat} {v1 : Int32} {v2 : Int32} {M : Mem} {r0 : Int32} {r1 : Int32} {M' : Mem} (hf : fX2_closeWindows_L4 n v1 v2 M = some (r0, r1, M')) : Fr FC M M' := fs_fX2_closeWindows_L4 n _ _ _ _ _ _  hf
theorem fr_fX6_dropFirst {v1 : Int32} {M : Mem} {M' : Mem} (hf : fX6_dropFirst v1 M = some M') : Fr FC M M' := by
  unfold fX6_dropFirst at hf
  have h0 : Fr FC M M := fun _ _ _ => rfl
  refine fr_ite hf (fun hf => ?_) (fun hf => ?_)
  · cases hf
    exact h0
  · refine fr_ite hf (fun hf => ?_) (fun hf => ?_)
    · cases hf
      exact h0
    · refine fr_cpy h0 (fun k => by unfold FC; omega) hf (fun M2 h0 hf => ?_)
      refine fr_cpy h0 (fun k => by unfold FC; omega) hf (fun M5 h0 hf => ?_)
      refine fr_cpy h0 (fun k => by unfold FC; omega) hf (fun M8 h0 hf => ?_)
      refine fr_cpy h0 (fun k => by unfold FC; omega) hf (fun M11 h0 hf => ?_)
      refine fr_wr h0 (by unfold FC; omega) hf (fun M14 h0 hf => ?_)
      cases hf
      exact h0
theorem fr_fX2_closeWindows {M : Mem} {r0 : Int32} {M' : Mem} (hf : fX2_closeWindows M = some (r0, M')) : Fr FC M M' := by
  unfold fX2_closeWindows at hf
  have h0 : Fr FC M M := fun _ _ _ => rfl
  obtain ⟨w30, w31, M32, hb1, hf⟩ := bnd3_some hf
  have h0 := h0.trans (fr_fX2_closeWindows_L4 hb1)
  obtain ⟨M39, hb2, hf⟩ := bnd1_some hf
  have h0 := h0.trans (fr_fX6_dropFirst hb2)
  cases hf
  exact h0
theorem fs_fX2_refillBudgets_L2 : ∀ (n : Nat) (v1 : Int32) (M : Mem) (M' : Mem), fX2_refillBudgets_L2 n v1 M = some M' → Fr FC M M' := by
  intro n
  induction n with
  | zero =>
    intro v1 M M' hf
    cases hf
  | succ n ih =>
    intro v1 M M' hf
    rw [fX2_refillBudgets_L2] at hf
    have h0 : Fr FC M M := fun _ _ _ => rfl
    refine fr_ite hf (fun hf => ?_) (fun hf => ?_)
    · cases hf
      exact h0
    · refine fr_ix hf (fun hi1 hf => ?_)
      refine fr_wr h0 (by unfold FC; omega) hf (fun M3 h0 hf => ?_)
      exact h0.trans (ih _ _ _ hf)
theorem fr_fX2_refillBudgets_L2 {n : Nat} {v1 : Int32} {M : Mem} {M' : Mem} (hf : fX2_refillBudgets_L2 n v1 M = some M') : Fr FC M M' := fs_fX2_refillBudgets_L2 n _ _ _  hf
theorem fr_fX2_refillBudgets {M : Mem} {M' : Mem} (hf : fX2_refillBudgets M = some M') : Fr FC M M' := by
  unfold fX2_refillBudgets at hf
  have h0 : Fr FC M M := fun _ _ _ => rfl
  obtain ⟨M8, hb1, hf⟩ := bnd1_some hf
  have h0 := h0.trans (fr_fX2_refillBudgets_L2 hb1)
  cases hf
  exact h0
theorem fs_fX2_passTicks_L4 : ∀ (n : Nat) (v1 : Int32) (v2 : Int32) (v3 : Int32) (M : Mem) (r0 : Int32) (M' : Mem), fX2_passTicks_L4 n v1 v2 v3 M = some (r0, M') → Fr FC M M' := by
  intro n
  induction n with
  | zero =>
    intro v1 v2 v3 M r0 M' hf
    cases hf
  | succ n ih =>
    intro v1 v2 v3 M r0 M' hf
    rw [fX2_passTicks_L4] at hf
    have h0 : Fr FC M M := fun _ _ _ => rfl
    refine fr_ite hf (fun hf => ?_) (fun hf => ?_)
    · cases hf
      exact h0
    · refine fr_wr h0 (by unfold FC; omega) hf (fun M3 h0 hf => ?_)
      refine jn_go1 (fun (M6 : Mem) => Fr FC M M6 → Fr FC M M') hf (fun M6 hf h0 => ?_) (fun j10 Jj10 hf => ?_)
      · obtain ⟨M14, hb1, hf⟩ := bnd1_some hf
        have h0 := h0.trans (fr_fX2_bringCopies hb1)
        obtain ⟨t19, M18, hb2, hf⟩ := bnd2_some hf
        have h0 := h0.trans (fr_fX2_closeWindows hb2)
        exact h0.trans (ih _ _ _ _ _ _ hf)
      · refine fr_ite hf (fun hf => ?_) (fun hf => ?_)
        · obtain ⟨M25, hb3, hf⟩ := bnd1_some hf
          have h0 := h0.trans (fr_fX2_refillBudgets hb3)
          exact Jj10 _ hf h0
        · exact Jj10 _ hf h0
theorem fr_fX2_passTicks_L4 {n : Nat} {v1 : Int32} {v2 : Int32} {v3 : Int32} {M : Mem} {r0 : Int32} {M' : Mem} (hf : fX2_passTicks_L4 n v1 v2 v3 M = some (r0, M')) : Fr FC M M' := fs_fX2_passTicks_L4 n _ _ _ _ _ _  hf
theorem fr_fX2_passTicks {v1 : Int32} {M : Mem} {r0 : Int32} {M' : Mem} (hf : fX2_passTicks v1 M = some (r0, M')) : Fr FC M M' := by
  unfold fX2_passTicks at hf
  have h0 : Fr FC M M := fun _ _ _ => rfl
  obtain ⟨w28, M29, hb1, hf⟩ := bnd2_some hf
  have h0 := h0.trans (fr_fX2_passTicks_L4 hb1)
  cases hf
  exact h0
theorem fr_fX3_nextLetter {x : Nat} {M : Mem} {r0 : Int32} {M' : Mem} (hx : 3 ≤ x ∧ x < 30) (hf : fX3_nextLetter x M = some (r0, M')) : Fr FC M M' := by
  unfold fX3_nextLetter at hf
  have h0 : Fr FC M M := fun _ _ _ => rfl
  refine fr_ite hf (fun hf => ?_) (fun hf => ?_)
  · refine fr_wr h0 (by unfold FC; omega) hf (fun M7 h0 hf => ?_)
    cases hf
    exact h0
  · refine fr_wr h0 (by unfold FC; omega) hf (fun M1 h0 hf => ?_)
    refine fr_wr h0 (by unfold FC; omega) hf (fun M4 h0 hf => ?_)
    cases hf
    exact h0
theorem fr_fX0_add {v1 : Int32} {v2 : Int32} {v3 : Int32} {v4 : Int32} {v5 : Int32} {M : Mem} {M' : Mem} (hf : fX0_add v1 v2 v3 v4 v5 M = some M') : Fr FC M M' := by
  unfold fX0_add at hf
  have h0 : Fr FC M M := fun _ _ _ => rfl
  refine fr_ite hf (fun hf => ?_) (fun hf => ?_)
  · cases hf
    exact h0
  · refine fr_ix hf (fun hi1 hf => ?_)
    refine fr_wr h0 (by unfold FC; omega) hf (fun M2 h0 hf => ?_)
    refine fr_ix hf (fun hi2 hf => ?_)
    refine fr_wr h0 (by unfold FC; omega) hf (fun M6 h0 hf => ?_)
    refine fr_ix hf (fun hi3 hf => ?_)
    refine fr_wr h0 (by unfold FC; omega) hf (fun M10 h0 hf => ?_)
    refine fr_ix hf (fun hi4 hf => ?_)
    refine fr_wr h0 (by unfold FC; omega) hf (fun M14 h0 hf => ?_)
    refine fr_ix hf (fun hi5 hf => ?_)
    refine fr_wr h0 (by unfold FC; omega) hf (fun M18 h0 hf => ?_)
    refine fr_wr h0 (by unfold FC; omega) hf (fun M21 h0 hf => ?_)
    cases hf
    exact h0
theorem fs_fX2_spread_L5 : ∀ (n : Nat) (v1 : Int32) (v2 : Int32) (v3 : Int32) (v4 : Int32) (M : Mem) (r0 : Int32) (M' : Mem), fX2_spread_L5 n v1 v2 v3 v4 M = some (r0, M') → Fr FC M M' := by
  intro n
  induction n with
  | zero =>
    intro v1 v2 v3 v4 M r0 M' hf
    cases hf
  | succ n ih =>
    intro v1 v2 v3 v4 M r0 M' hf
    rw [fX2_spread_L5] at hf
    have h0 : Fr FC M M := fun _ _ _ => rfl
    refine fr_ite hf (fun hf => ?_) (fun hf => ?_)
    · cases hf
      exact h0
    · obtain ⟨t6, hb1, hf⟩ := bnd1_some hf
      refine fr_ite hf (fun hf => ?_) (fun hf => ?_)
      · exact h0.trans (ih _ _ _ _ _ _ _ hf)
      · refine fr_ix hf (fun hi2 hf => ?_)
        obtain ⟨M13, hb3, hf⟩ := bnd1_some hf
        have h0 := h0.trans (fr_fX0_add hb3)
        refine fr_wr h0 (by unfold FC; omega) hf (fun M14 h0 hf => ?_)
        exact h0.trans (ih _ _ _ _ _ _ _ hf)
theorem fr_fX2_spread_L5 {n : Nat} {v1 : Int32} {v2 : Int32} {v3 : Int32} {v4 : Int32} {M : Mem} {r0 : Int32} {M' : Mem} (hf : fX2_spread_L5 n v1 v2 v3 v4 M = some (r0, M')) : Fr FC M M' := fs_fX2_spread_L5 n _ _ _ _ _ _ _  hf
theorem fr_fX2_spread {v1 : Int32} {v2 : Int32} {M : Mem} {r0 : Int32} {M' : Mem} (hf : fX2_spread v1 v2 M = some (r0, M')) : Fr FC M M' := by
  unfold fX2_spread at hf
  have h0 : Fr FC M M := fun _ _ _ => rfl
  obtain ⟨w21, M22, hb1, hf⟩ := bnd2_some hf
  have h0 := h0.trans (fr_fX2_spread_L5 hb1)
  cases hf
  exact h0
theorem fr_fX2_sendNext {v1 : Int32} {M : Mem} {r0 : Int32} {M' : Mem} (hf : fX2_sendNext v1 M = some (r0, M')) : Fr FC M M' := by
  unfold fX2_sendNext at hf
  have h0 : Fr FC M M := fun _ _ _ => rfl
  refine fr_ix hf (fun hi1 hf => ?_)
  obtain ⟨t6, M5, hb2, hf⟩ := bnd2_some hf
  have h0 := h0.trans (fr_fX3_nextLetter (by omega) hb2)
  obtain ⟨t11, M10, hb3, hf⟩ := bnd2_some hf
  have h0 := h0.trans (fr_fX2_spread hb3)
  cases hf
  exact h0
theorem fr_fX2_sendLastAgain {v1 : Int32} {M : Mem} {r0 : Int32} {M' : Mem} (hf : fX2_sendLastAgain v1 M = some (r0, M')) : Fr FC M M' := by
  unfold fX2_sendLastAgain at hf
  have h0 : Fr FC M M := fun _ _ _ => rfl
  refine fr_ix hf (fun hi1 hf => ?_)
  obtain ⟨t6, M5, hb2, hf⟩ := bnd2_some hf
  have h0 := h0.trans (fr_fX2_spread hb2)
  cases hf
  exact h0
theorem fr_fX3_becomeNew {x : Nat} {M : Mem} {M' : Mem} (hx : 3 ≤ x ∧ x < 30) (hf : fX3_becomeNew x M = some M') : Fr FC M M' := by
  unfold fX3_becomeNew at hf
  have h0 : Fr FC M M := fun _ _ _ => rfl
  refine fr_wr h0 (by unfold FC; omega) hf (fun M1 h0 hf => ?_)
  refine fr_wr h0 (by unfold FC; omega) hf (fun M4 h0 hf => ?_)
  refine fr_wr h0 (by unfold FC; omega) hf (fun M7 h0 hf => ?_)
  refine fr_wr h0 (by unfold FC; omega) hf (fun M10 h0 hf => ?_)
  refine fr_wr h0 (by unfold FC; omega) hf (fun M13 h0 hf => ?_)
  cases hf
  exact h0
theorem fs_fX8_oneTick_L23 : ∀ (n : Nat) (v1 : Int32) (M : Mem) (M' : Mem), fX8_oneTick_L23 n v1 M = some M' → Fr FM M M' := by
  intro n
  induction n with
  | zero =>
    intro v1 M M' hf
    cases hf
  | succ n ih =>
    intro v1 M M' hf
    rw [fX8_oneTick_L23] at hf
    have h0 : Fr FM M M := fun _ _ _ => rfl
    refine fr_ite hf (fun hf => ?_) (fun hf => ?_)
    · cases hf
      exact h0
    · refine fr_ix hf (fun hi1 hf => ?_)
      refine fr_wr h0 (by unfold FM; omega) hf (fun M29 h0 hf => ?_)
      exact h0.trans (ih _ _ _ hf)
theorem fr_fX8_oneTick_L23 {n : Nat} {v1 : Int32} {M : Mem} {M' : Mem} (hf : fX8_oneTick_L23 n v1 M = some M') : Fr FM M M' := fs_fX8_oneTick_L23 n _ _ _  hf
theorem fr_fX8_hearsIn {v1 : Int32} {v2 : Int32} {v3 : Int32} {M : Mem} {M' : Mem} (hf : fX8_hearsIn v1 v2 v3 M = some M') : Fr FM M M' := by
  unfold fX8_hearsIn at hf
  have h0 : Fr FM M M := fun _ _ _ => rfl
  refine fr_ix hf (fun hi1 hf => ?_)
  refine jn_go1 (fun (t2 : Int32) => Fr FM M M') hf (fun t2 hf => ?_) (fun j6 Jj6 hf => ?_)
  · refine jn_go1 (fun (t9 : Int32) => Fr FM M M') hf (fun t9 hf => ?_) (fun j13 Jj13 hf => ?_)
    · refine fr_ix hf (fun hi2 hf => ?_)
      refine fr_wr h0 (by unfold FM; omega) hf (fun M15 h0 hf => ?_)
      refine fr_wr h0 (by unfold FM; omega) hf (fun M18 h0 hf => ?_)
      cases hf
      exact h0
    · refine fr_ite hf (fun hf => ?_) (fun hf => ?_)
      · exact Jj13 _ hf
      · refine fr_ix hf (fun hi3 hf => ?_)
        refine fr_ite hf (fun hf => ?_) (fun hf => ?_)
        · exact Jj13 _ hf
        · exact Jj13 _ hf
  · refine fr_ite hf (fun hf => ?_) (fun hf => ?_)
    · exact Jj6 _ hf
    · exact Jj6 _ hf
theorem fr_fX8_comes {v1 : Int32} {M : Mem} {M' : Mem} (hf : fX8_comes v1 M = some M') : Fr FM M M' := by
  unfold fX8_comes at hf
  have h0 : Fr FM M M := fun _ _ _ => rfl
  refine fr_ix hf (fun hi1 hf => ?_)
  obtain ⟨t6, hb2, hf⟩ := bnd1_some hf
  refine fr_ite hf (fun hf => ?_) (fun hf => ?_)
  · refine jn_go0 (Fr FM M M') hf (fun hf => ?_) (fun j11 Jj11 hf => ?_)
    · refine fr_ix hf (fun hi3 hf => ?_)
      refine fr_wr h0 (by unfold FM; omega) hf (fun M13 h0 hf => ?_)
      refine fr_ix hf (fun hi4 hf => ?_)
      refine fr_wr h0 (by unfold FM; omega) hf (fun M17 h0 hf => ?_)
      refine fr_ix hf (fun hi5 hf => ?_)
      refine fr_wr h0 (by unfold FM; omega) hf (fun M21 h0 hf => ?_)
      refine fr_ix hf (fun hi6 hf => ?_)
      refine fr_wr h0 (by unfold FM; omega) hf (fun M25 h0 hf => ?_)
      obtain ⟨M31, hb7, hf⟩ := bnd1_some hf
      have h0 := h0.trans (fr_fX8_hearsIn hb7)
      refine fr_wr h0 (by unfold FM; omega) hf (fun M32 h0 hf => ?_)
      cases hf
      exact h0
    · refine fr_ite hf (fun hf => ?_) (fun hf => ?_)
      · exact Jj11 hf
      · obtain ⟨t38, hb8, hf⟩ := bnd1_some hf
        refine fr_ite hf (fun hf => ?_) (fun hf => ?_)
        · refine fr_wr h0 (by unfold FM; omega) hf (fun M39 h0 hf => ?_)
          cases hf
          exact h0
        · exact Jj11 hf
  · refine fr_wr h0 (by unfold FM; omega) hf (fun M44 h0 hf => ?_)
    obtain ⟨M50, hb9, hf⟩ := bnd1_some hf
    have h0 := h0.trans (fr_fX8_hearsIn hb9)
    cases hf
    exact h0
theorem fs_fX8_allCome_L4 : ∀ (n : Nat) (v1 : Int32) (v2 : Int32) (M : Mem) (r0 : Int32) (M' : Mem), fX8_allCome_L4 n v1 v2 M = some (r0, M') → Fr FM M M' := by
  intro n
  induction n with
  | zero =>
    intro v1 v2 M r0 M' hf
    cases hf
  | succ n ih =>
    intro v1 v2 M r0 M' hf
    rw [fX8_allCome_L4] at hf
    have h0 : Fr FM M M := fun _ _ _ => rfl
    refine fr_ite hf (fun hf => ?_) (fun hf => ?_)
    · cases hf
      exact h0
    · refine fr_ix hf (fun hi1 hf => ?_)
      refine fr_ite hf (fun hf => ?_) (fun hf => ?_)
      · obtain ⟨M25, hb2, hf⟩ := bnd1_some hf
        have h0 := h0.trans (fr_fX8_comes hb2)
        exact h0.trans (ih _ _ _ _ _ hf)
      · refine fr_ix hf (fun hi3 hf => ?_)
        refine fr_wr h0 (by unfold FM; omega) hf (fun M5 h0 hf => ?_)
        refine fr_wr h0 (by unfold FM; omega) hf (fun M8 h0 hf => ?_)
        refine fr_wr h0 (by unfold FM; omega) hf (fun M11 h0 hf => ?_)
        refine fr_wr h0 (by unfold FM; omega) hf (fun M14 h0 hf => ?_)
        refine fr_wr h0 (by unfold FM; omega) hf (fun M17 h0 hf => ?_)
        exact h0.trans (ih _ _ _ _ _ hf)
theorem fr_fX8_allCome_L4 {n : Nat} {v1 : Int32} {v2 : Int32} {M : Mem} {r0 : Int32} {M' : Mem} (hf : fX8_allCome_L4 n v1 v2 M = some (r0, M')) : Fr FM M M' := fs_fX8_allCome_L4 n _ _ _ _ _  hf
theorem fr_fX8_allCome {M : Mem} {M' : Mem} (hf : fX8_allCome M = some M') : Fr FM M M' := by
  unfold fX8_allCome at hf
  have h0 : Fr FM M M := fun _ _ _ => rfl
  obtain ⟨w29, M30, hb1, hf⟩ := bnd2_some hf
  have h0 := h0.trans (fr_fX8_allCome_L4 hb1)
  refine fr_wr h0 (by unfold FM; omega) hf (fun M34 h0 hf => ?_)
  cases hf
  exact h0
theorem fr_fX8_answers {v1 : Int32} {M : Mem} {r0 : Int32} {M' : Mem} (hf : fX8_answers v1 M = some (r0, M')) : Fr FM M M' := by
  unfold fX8_answers at hf
  have h0 : Fr FM M M := fun _ _ _ => rfl
  refine fr_ix hf (fun hi1 hf => ?_)
  obtain ⟨t6, hb2, hf⟩ := bnd1_some hf
  obtain ⟨w16, hb3, hf⟩ := bnd1_some hf
  refine fr_ite hf (fun hf => ?_) (fun hf => ?_)
  · refine fr_wr h0 (by unfold FM; omega) hf (fun M30 h0 hf => ?_)
    cases hf
    exact h0
  · refine fr_ix hf (fun hi4 hf => ?_)
    refine fr_wr h0 (by unfold FM; omega) hf (fun M21 h0 hf => ?_)
    refine fr_wr h0 (by unfold FM; omega) hf (fun M24 h0 hf => ?_)
    refine fr_wr h0 (by unfold FM; omega) hf (fun M27 h0 hf => ?_)
    cases hf
    exact h0
theorem fs_fX8_notes_L17 : ∀ (n : Nat) (v1 : Int32) (v2 : Int32) (v3 : Int32) (v4 : Int32) (M : Mem) (M' : Mem), fX8_notes_L17 n v1 v2 v3 v4 M = some M' → Fr FM M M' := by
  intro n
  induction n with
  | zero =>
    intro v1 v2 v3 v4 M M' hf
    cases hf
  | succ n ih =>
    intro v1 v2 v3 v4 M M' hf
    rw [fX8_notes_L17] at hf
    have h0 : Fr FM M M := fun _ _ _ => rfl
    refine fr_ite hf (fun hf => ?_) (fun hf => ?_)
    · cases hf
      exact h0
    · refine fr_ix hf (fun hi1 hf => ?_)
      refine fr_ix hf (fun hi2 hf => ?_)
      refine fr_wr h0 (by unfold FM; omega) hf (fun M18 h0 hf => ?_)
      exact h0.trans (ih _ _ _ _ _ _ hf)
theorem fr_fX8_notes_L17 {n : Nat} {v1 : Int32} {v2 : Int32} {v3 : Int32} {v4 : Int32} {M : Mem} {M' : Mem} (hf : fX8_notes_L17 n v1 v2 v3 v4 M = some M') : Fr FM M M' := fs_fX8_notes_L17 n _ _ _ _ _ _  hf
theorem fr_fX8_notes {v1 : Int32} {v2 : Int32} {M : Mem} {M' : Mem} (hf : fX8_notes v1 v2 M = some M') : Fr FM M M' := by
  unfold fX8_notes at hf
  have h0 : Fr FM M M := fun _ _ _ => rfl
  refine fr_ix hf (fun hi1 hf => ?_)
  refine jn_go1 (fun (M3 : Mem) => Fr FM M M3 → Fr FM M M') hf (fun M3 hf h0 => ?_) (fun j7 Jj7 hf => ?_)
  · refine fr_ix hf (fun hi2 hf => ?_)
    refine fr_wr h0 (by unfold FM; omega) hf (fun M9 h0 hf => ?_)
    refine fr_wr h0 (by unfold FM; omega) hf (fun M12 h0 hf => ?_)
    cases hf
    exact h0
  · refine fr_ite hf (fun hf => ?_) (fun hf => ?_)
    · obtain ⟨M23, hb3, hf⟩ := bnd1_some hf
      have h0 := h0.trans (fr_fX8_notes_L17 hb3)
      refine fr_wr h0 (by unfold FM; omega) hf (fun M27 h0 hf => ?_)
      exact Jj7 _ hf h0
    · exact Jj7 _ hf h0
theorem fs_fX8_reckons_L65 : ∀ (n : Nat) (v2 : Int32) (M : Mem) (r0 : Int32) (M' : Mem), fX8_reckons_L65 n v2 M = some (r0, M') → Fr FM M M' := by
  intro n
  induction n with
  | zero =>
    intro v2 M r0 M' hf
    cases hf
  | succ n ih =>
    intro v2 M r0 M' hf
    rw [fX8_reckons_L65] at hf
    have h0 : Fr FM M M := fun _ _ _ => rfl
    refine fr_ite hf (fun hf => ?_) (fun hf => ?_)
    · cases hf
      exact h0
    · refine fr_ite hf (fun hf => ?_) (fun hf => ?_)
      · cases hf
        exact h0
      · refine fr_wr h0 (by unfold FM; omega) hf (fun M23 h0 hf => ?_)
        exact h0.trans (ih _ _ _ _ hf)
theorem fr_fX8_reckons_L65 {n : Nat} {v2 : Int32} {M : Mem} {r0 : Int32} {M' : Mem} (hf : fX8_reckons_L65 n v2 M = some (r0, M')) : Fr FM M M' := fs_fX8_reckons_L65 n _ _ _ _  hf
theorem fs_fX8_reckons_L94 : ∀ (n : Nat) (v2 : Int32) (M : Mem) (r0 : Int32) (M' : Mem), fX8_reckons_L94 n v2 M = some (r0, M') → Fr FM M M' := by
  intro n
  induction n with
  | zero =>
    intro v2 M r0 M' hf
    cases hf
  | succ n ih =>
    intro v2 M r0 M' hf
    rw [fX8_reckons_L94] at hf
    have h0 : Fr FM M M := fun _ _ _ => rfl
    refine fr_ite hf (fun hf => ?_) (fun hf => ?_)
    · cases hf
      exact h0
    · refine fr_ite hf (fun hf => ?_) (fun hf => ?_)
      · cases hf
        exact h0
      · refine fr_wr h0 (by unfold FM; omega) hf (fun M34 h0 hf => ?_)
        exact h0.trans (ih _ _ _ _ hf)
theorem fr_fX8_reckons_L94 {n : Nat} {v2 : Int32} {M : Mem} {r0 : Int32} {M' : Mem} (hf : fX8_reckons_L94 n v2 M = some (r0, M')) : Fr FM M M' := fs_fX8_reckons_L94 n _ _ _ _  hf
theorem fs_fX8_reckons_L122 : ∀ (n : Nat) (v2 : Int32) (M : Mem) (r0 : Int32) (M' : Mem), fX8_reckons_L122 n v2 M = some (r0, M') → Fr FM M M' := by
  intro n
  induction n with
  | zero =>
    intro v2 M r0 M' hf
    cases hf
  | succ n ih =>
    intro v2 M r0 M' hf
    rw [fX8_reckons_L122] at hf
    have h0 : Fr FM M M := fun _ _ _ => rfl
    refine fr_ite hf (fun hf => ?_) (fun hf => ?_)
    · cases hf
      exact h0
    · refine fr_ite hf (fun hf => ?_) (fun hf => ?_)
      · cases hf
        exact h0
      · refine fr_wr h0 (by unfold FM; omega) hf (fun M45 h0 hf => ?_)
        exact h0.trans (ih _ _ _ _ hf)
theorem fr_fX8_reckons_L122 {n : Nat} {v2 : Int32} {M : Mem} {r0 : Int32} {M' : Mem} (hf : fX8_reckons_L122 n v2 M = some (r0, M')) : Fr FM M M' := fs_fX8_reckons_L122 n _ _ _ _  hf
theorem fs_fX8_reckons_L150 : ∀ (n : Nat) (v2 : Int32) (M : Mem) (M' : Mem), fX8_reckons_L150 n v2 M = some M' → Fr FM M M' := by
  intro n
  induction n with
  | zero =>
    intro v2 M M' hf
    cases hf
  | succ n ih =>
    intro v2 M M' hf
    rw [fX8_reckons_L150] at hf
    have h0 : Fr FM M M := fun _ _ _ => rfl
    refine fr_ite hf (fun hf => ?_) (fun hf => ?_)
    · cases hf
      exact h0
    · refine fr_ite hf (fun hf => ?_) (fun hf => ?_)
      · cases hf
        exact h0
      · refine fr_wr h0 (by unfold FM; omega) hf (fun M56 h0 hf => ?_)
        exact h0.trans (ih _ _ _ hf)
theorem fr_fX8_reckons_L150 {n : Nat} {v2 : Int32} {M : Mem} {M' : Mem} (hf : fX8_reckons_L150 n v2 M = some M') : Fr FM M M' := fs_fX8_reckons_L150 n _ _ _  hf
theorem fr_fX8_reckons {v1 : Int32} {M : Mem} {M' : Mem} (hf : fX8_reckons v1 M = some M') : Fr FM M M' := by
  unfold fX8_reckons at hf
  have h0 : Fr FM M M := fun _ _ _ => rfl
  obtain ⟨w11, hb1, hf⟩ := bnd1_some hf
  refine fr_ix hf (fun hi2 hf => ?_)
  refine fr_wr h0 (by unfold FM; omega) hf (fun M17 h0 hf => ?_)
  refine fr_wr h0 (by unfold FM; omega) hf (fun M20 h0 hf => ?_)
  obtain ⟨w29, M30, hb3, hf⟩ := bnd2_some hf
  have h0 := h0.trans (fr_fX8_reckons_L65 hb3)
  obtain ⟨w40, M41, hb4, hf⟩ := bnd2_some hf
  have h0 := h0.trans (fr_fX8_reckons_L94 hb4)
  obtain ⟨w51, M52, hb5, hf⟩ := bnd2_some hf
  have h0 := h0.trans (fr_fX8_reckons_L122 hb5)
  obtain ⟨M62, hb6, hf⟩ := bnd1_some hf
  have h0 := h0.trans (fr_fX8_reckons_L150 hb6)
  cases hf
  exact h0
theorem fr_fX8_adapts {v1 : Int32} {M : Mem} {M' : Mem} (hf : fX8_adapts v1 M = some M') : Fr FM M M' := by
  unfold fX8_adapts at hf
  have h0 : Fr FM M M := fun _ _ _ => rfl
  obtain ⟨M4, hb1, hf⟩ := bnd1_some hf
  have h0 := h0.trans (fr_fX8_reckons hb1)
  refine fr_ix hf (fun hi2 hf => ?_)
  refine jn_go0 (Fr FM M M') hf (fun hf => ?_) (fun j11 Jj11 hf => ?_)
  · refine fr_wr h0 (by unfold FM; omega) hf (fun M12 h0 hf => ?_)
    obtain ⟨t19, M18, hb3, hf⟩ := bnd2_some hf
    have h0 := h0.trans (fr_fX8_answers hb3)
    refine fr_ite hf (fun hf => ?_) (fun hf => ?_)
    · cases hf
      exact h0
    · refine fr_ite hf (fun hf => ?_) (fun hf => ?_)
      · refine fr_wr h0 (by unfold FM; omega) hf (fun M20 h0 hf => ?_)
        refine fr_wr h0 (by unfold FM; omega) hf (fun M23 h0 hf => ?_)
        cases hf
        exact h0
      · cases hf
        exact h0
  · refine fr_ite hf (fun hf => ?_) (fun hf => ?_)
    · refine fr_ite hf (fun hf => ?_) (fun hf => ?_)
      · cases hf
        exact h0
      · exact Jj11 hf
    · exact Jj11 hf
theorem fr_fX8_closes {M : Mem} {r0 : Int32} {M' : Mem} (hf : fX8_closes M = some (r0, M')) : Fr FM M M' := by
  unfold fX8_closes at hf
  have h0 : Fr FM M M := fun _ _ _ => rfl
  refine fr_ite hf (fun hf => ?_) (fun hf => ?_)
  · refine fr_ix hf (fun hi1 hf => ?_)
    refine fr_wr h0 (by unfold FM; omega) hf (fun M48 h0 hf => ?_)
    refine fr_wr h0 (by unfold FM; omega) hf (fun M51 h0 hf => ?_)
    refine fr_wr h0 (by unfold FM; omega) hf (fun M54 h0 hf => ?_)
    obtain ⟨t61, M60, hb2, hf⟩ := bnd2_some hf
    have h0 := h0.trans (fr_fX8_answers hb2)
    refine fr_ite hf (fun hf => ?_) (fun hf => ?_)
    · cases hf
      exact h0
    · refine fr_wr h0 (by unfold FM; omega) hf (fun M62 h0 hf => ?_)
      refine fr_wr h0 (by unfold FM; omega) hf (fun M65 h0 hf => ?_)
      cases hf
      exact h0
  · obtain ⟨t6, hb3, hf⟩ := bnd1_some hf
    refine fr_ite hf (fun hf => ?_) (fun hf => ?_)
    · refine fr_wr h0 (by unfold FM; omega) hf (fun M43 h0 hf => ?_)
      cases hf
      exact h0
    · refine fr_ix hf (fun hi4 hf => ?_)
      obtain ⟨t11, hb5, hf⟩ := bnd1_some hf
      refine fr_wr h0 (by unfold FM; omega) hf (fun M12 h0 hf => ?_)
      refine fr_wr h0 (by unfold FM; omega) hf (fun M15 h0 hf => ?_)
      refine fr_wr h0 (by unfold FM; omega) hf (fun M18 h0 hf => ?_)
      refine fr_wr h0 (by unfold FM; omega) hf (fun M21 h0 hf => ?_)
      obtain ⟨t27, hb6, hf⟩ := bnd1_some hf
      refine fr_ix hf (fun hi7 hf => ?_)
      refine fr_wr h0 (by unfold FM; omega) hf (fun M30 h0 hf => ?_)
      refine fr_ix hf (fun hi8 hf => ?_)
      obtain ⟨M37, hb9, hf⟩ := bnd1_some hf
      have h0 := h0.trans (fr_fX8_notes hb9)
      refine fr_ite hf (fun hf => ?_) (fun hf => ?_)
      · obtain ⟨M41, hb10, hf⟩ := bnd1_some hf
        have h0 := h0.trans (fr_fX8_adapts hb10)
        cases hf
        exact h0
      · cases hf
        exact h0
theorem fs_fX8_firstGoes_L78 : ∀ (n : Nat) (v1 : Int32) (v2 : Int32) (M : Mem) (M' : Mem), fX8_firstGoes_L78 n v1 v2 M = some M' → Fr FM M M' := by
  intro n
  induction n with
  | zero =>
    intro v1 v2 M M' hf
    cases hf
  | succ n ih =>
    intro v1 v2 M M' hf
    rw [fX8_firstGoes_L78] at hf
    have h0 : Fr FM M M := fun _ _ _ => rfl
    refine fr_ite hf (fun hf => ?_) (fun hf => ?_)
    · cases hf
      exact h0
    · refine fr_ix hf (fun hi1 hf => ?_)
      refine fr_ix hf (fun hi2 hf => ?_)
      refine fr_wr h0 (by unfold FM; omega) hf (fun M22 h0 hf => ?_)
      exact h0.trans (ih _ _ _ _ hf)
theorem fr_fX8_firstGoes_L78 {n : Nat} {v1 : Int32} {v2 : Int32} {M : Mem} {M' : Mem} (hf : fX8_firstGoes_L78 n v1 v2 M = some M') : Fr FM M M' := fs_fX8_firstGoes_L78 n _ _ _ _  hf
theorem fs_fX8_firstGoes_L12 : ∀ (n : Nat) (v1 : Int32) (M : Mem) (M' : Mem), fX8_firstGoes_L12 n v1 M = some M' → Fr FM M M' := by
  intro n
  induction n with
  | zero =>
    intro v1 M M' hf
    cases hf
  | succ n ih =>
    intro v1 M M' hf
    rw [fX8_firstGoes_L12] at hf
    have h0 : Fr FM M M := fun _ _ _ => rfl
    refine fr_ite hf (fun hf => ?_) (fun hf => ?_)
    · cases hf
      exact h0
    · refine fr_ix hf (fun hi1 hf => ?_)
      refine fr_ix hf (fun hi2 hf => ?_)
      refine fr_wr h0 (by unfold FM; omega) hf (fun M7 h0 hf => ?_)
      refine fr_wr h0 (by unfold FM; omega) hf (fun M10 h0 hf => ?_)
      refine fr_wr h0 (by unfold FM; omega) hf (fun M13 h0 hf => ?_)
      refine fr_wr h0 (by unfold FM; omega) hf (fun M16 h0 hf => ?_)
      obtain ⟨M27, hb3, hf⟩ := bnd1_some hf
      have h0 := h0.trans (fr_fX8_firstGoes_L78 hb3)
      exact h0.trans (ih _ _ _ hf)
theorem fr_fX8_firstGoes_L12 {n : Nat} {v1 : Int32} {M : Mem} {M' : Mem} (hf : fX8_firstGoes_L12 n v1 M = some M') : Fr FM M M' := fs_fX8_firstGoes_L12 n _ _ _  hf
theorem fr_fX8_firstGoes {M : Mem} {M' : Mem} (hf : fX8_firstGoes M = some M') : Fr FM M M' := by
  unfold fX8_firstGoes at hf
  have h0 : Fr FM M M := fun _ _ _ => rfl
  refine fr_wr h0 (by unfold FM; omega) hf (fun M1 h0 hf => ?_)
  obtain ⟨M34, hb1, hf⟩ := bnd1_some hf
  have h0 := h0.trans (fr_fX8_firstGoes_L12 hb1)
  cases hf
  exact h0
theorem fs_fX8_oneTick_L47 : ∀ (n : Nat) (v1 : Int32) (M : Mem) (r0 : Int32) (M' : Mem), fX8_oneTick_L47 n v1 M = some (r0, M') → Fr FM M M' := by
  intro n
  induction n with
  | zero =>
    intro v1 M r0 M' hf
    cases hf
  | succ n ih =>
    intro v1 M r0 M' hf
    rw [fX8_oneTick_L47] at hf
    have h0 : Fr FM M M := fun _ _ _ => rfl
    refine fr_ite hf (fun hf => ?_) (fun hf => ?_)
    · cases hf
      exact h0
    · refine fr_ite hf (fun hf => ?_) (fun hf => ?_)
      · cases hf
        exact h0
      · obtain ⟨t13, M12, hb1, hf⟩ := bnd2_some hf
        have h0 := h0.trans (fr_fX8_closes hb1)
        obtain ⟨M18, hb2, hf⟩ := bnd1_some hf
        have h0 := h0.trans (fr_fX8_firstGoes hb2)
        exact h0.trans (ih _ _ _ _ hf)
theorem fr_fX8_oneTick_L47 {n : Nat} {v1 : Int32} {M : Mem} {r0 : Int32} {M' : Mem} (hf : fX8_oneTick_L47 n v1 M = some (r0, M')) : Fr FM M M' := fs_fX8_oneTick_L47 n _ _ _ _  hf
theorem fr_fX8_oneTick {M : Mem} {r0 : Int32} {M' : Mem} (hf : fX8_oneTick M = some (r0, M')) : Fr FM M M' := by
  unfold fX8_oneTick at hf
  have h0 : Fr FM M M := fun _ _ _ => rfl
  refine fr_wr h0 (by unfold FM; omega) hf (fun M1 h0 hf => ?_)
  refine fr_ite hf (fun hf => ?_) (fun hf => ?_)
  · obtain ⟨M34, hb1, hf⟩ := bnd1_some hf
    have h0 := h0.trans (fr_fX8_oneTick_L23 hb1)
    obtain ⟨M41, hb2, hf⟩ := bnd1_some hf
    have h0 := h0.trans (fr_fX8_allCome hb2)
    obtain ⟨w43, M44, hb3, hf⟩ := bnd2_some hf
    have h0 := h0.trans (fr_fX8_oneTick_L47 hb3)
    cases hf
    exact h0
  · obtain ⟨M7, hb4, hf⟩ := bnd1_some hf
    have h0 := h0.trans (fr_fX8_allCome hb4)
    obtain ⟨w21, M22, hb5, hf⟩ := bnd2_some hf
    have h0 := h0.trans (fr_fX8_oneTick_L47 hb5)
    cases hf
    exact h0
theorem fs_fX8_goBy_L4 : ∀ (n : Nat) (v1 : Int32) (v2 : Int32) (v3 : Int32) (M : Mem) (r0 : Int32) (M' : Mem), fX8_goBy_L4 n v1 v2 v3 M = some (r0, M') → Fr FM M M' := by
  intro n
  induction n with
  | zero =>
    intro v1 v2 v3 M r0 M' hf
    cases hf
  | succ n ih =>
    intro v1 v2 v3 M r0 M' hf
    rw [fX8_goBy_L4] at hf
    have h0 : Fr FM M M := fun _ _ _ => rfl
    refine fr_ite hf (fun hf => ?_) (fun hf => ?_)
    · cases hf
      exact h0
    · obtain ⟨t7, M6, hb1, hf⟩ := bnd2_some hf
      have h0 := h0.trans (fr_fX8_oneTick hb1)
      exact h0.trans (ih _ _ _ _ _ _ hf)
theorem fr_fX8_goBy_L4 {n : Nat} {v1 : Int32} {v2 : Int32} {v3 : Int32} {M : Mem} {r0 : Int32} {M' : Mem} (hf : fX8_goBy_L4 n v1 v2 v3 M = some (r0, M')) : Fr FM M M' := fs_fX8_goBy_L4 n _ _ _ _ _ _  hf
theorem fr_fX8_goBy {v1 : Int32} {M : Mem} {r0 : Int32} {M' : Mem} (hf : fX8_goBy v1 M = some (r0, M')) : Fr FM M M' := by
  unfold fX8_goBy at hf
  have h0 : Fr FM M M := fun _ _ _ => rfl
  obtain ⟨w11, M12, hb1, hf⟩ := bnd2_some hf
  have h0 := h0.trans (fr_fX8_goBy_L4 hb1)
  cases hf
  exact h0
theorem fs_fX8_goes_L5 : ∀ (n : Nat) (v1 : Int32) (v2 : Int32) (v3 : Int32) (v4 : Int32) (M : Mem) (r0 : Int32) (M' : Mem), fX8_goes_L5 n v1 v2 v3 v4 M = some (r0, M') → Fr FM M M' := by
  intro n
  induction n with
  | zero =>
    intro v1 v2 v3 v4 M r0 M' hf
    cases hf
  | succ n ih =>
    intro v1 v2 v3 v4 M r0 M' hf
    rw [fX8_goes_L5] at hf
    have h0 : Fr FM M M := fun _ _ _ => rfl
    refine fr_ite hf (fun hf => ?_) (fun hf => ?_)
    · cases hf
      exact h0
    · obtain ⟨t6, hb1, hf⟩ := bnd1_some hf
      refine fr_ite hf (fun hf => ?_) (fun hf => ?_)
      · exact h0.trans (ih _ _ _ _ _ _ _ hf)
      · refine fr_ix hf (fun hi2 hf => ?_)
        refine fr_wr h0 (by unfold FM; omega) hf (fun M10 h0 hf => ?_)
        refine fr_ix hf (fun hi3 hf => ?_)
        refine fr_wr h0 (by unfold FM; omega) hf (fun M14 h0 hf => ?_)
        refine fr_ix hf (fun hi4 hf => ?_)
        refine fr_wr h0 (by unfold FM; omega) hf (fun M18 h0 hf => ?_)
        refine fr_ix hf (fun hi5 hf => ?_)
        refine fr_wr h0 (by unfold FM; omega) hf (fun M22 h0 hf => ?_)
        refine fr_ix hf (fun hi6 hf => ?_)
        refine fr_ix hf (fun hi7 hf => ?_)
        refine fr_wr h0 (by unfold FM; omega) hf (fun M27 h0 hf => ?_)
        refine fr_wr h0 (by unfold FM; omega) hf (fun M30 h0 hf => ?_)
        refine fr_wr h0 (by unfold FM; omega) hf (fun M33 h0 hf => ?_)
        exact h0.trans (ih _ _ _ _ _ _ _ hf)
theorem fr_fX8_goes_L5 {n : Nat} {v1 : Int32} {v2 : Int32} {v3 : Int32} {v4 : Int32} {M : Mem} {r0 : Int32} {M' : Mem} (hf : fX8_goes_L5 n v1 v2 v3 v4 M = some (r0, M')) : Fr FM M M' := fs_fX8_goes_L5 n _ _ _ _ _ _ _  hf
theorem fr_fX8_goes {v1 : Int32} {v2 : Int32} {M : Mem} {r0 : Int32} {M' : Mem} (hf : fX8_goes v1 v2 M = some (r0, M')) : Fr FM M M' := by
  unfold fX8_goes at hf
  have h0 : Fr FM M M := fun _ _ _ => rfl
  obtain ⟨w40, M41, hb1, hf⟩ := bnd2_some hf
  have h0 := h0.trans (fr_fX8_goes_L5 hb1)
  cases hf
  exact h0
theorem fr_fX8_sendsNow {v1 : Int32} {M : Mem} {r0 : Int32} {M' : Mem} (hf : fX8_sendsNow v1 M = some (r0, M')) : Fr FM M M' := by
  unfold fX8_sendsNow at hf
  have h0 : Fr FM M M := fun _ _ _ => rfl
  refine fr_ix hf (fun hi1 hf => ?_)
  refine jn_go1 (fun (t2 : Int32) => Fr FM M M') hf (fun t2 hf => ?_) (fun j6 Jj6 hf => ?_)
  · refine fr_wr h0 (by unfold FM; omega) hf (fun M8 h0 hf => ?_)
    refine fr_ite hf (fun hf => ?_) (fun hf => ?_)
    · refine fr_wr h0 (by unfold FM; omega) hf (fun M19 h0 hf => ?_)
      obtain ⟨t26, M25, hb2, hf⟩ := bnd2_some hf
      have h0 := h0.trans (fr_fX8_goes hb2)
      cases hf
      exact h0
    · refine fr_wr h0 (by unfold FM; omega) hf (fun M11 h0 hf => ?_)
      obtain ⟨t18, M17, hb3, hf⟩ := bnd2_some hf
      have h0 := h0.trans (fr_fX8_goes hb3)
      cases hf
      exact h0
  · refine fr_ite hf (fun hf => ?_) (fun hf => ?_)
    · exact Jj6 _ hf
    · exact Jj6 _ hf
theorem fr_fX8_comesNew {v1 : Int32} {M : Mem} {M' : Mem} (hf : fX8_comesNew v1 M = some M') : Fr FM M M' := by
  unfold fX8_comesNew at hf
  have h0 : Fr FM M M := fun _ _ _ => rfl
  refine fr_ix hf (fun hi1 hf => ?_)
  refine fr_wr h0 (by unfold FM; omega) hf (fun M2 h0 hf => ?_)
  refine fr_wr h0 (by unfold FM; omega) hf (fun M5 h0 hf => ?_)
  refine fr_wr h0 (by unfold FM; omega) hf (fun M8 h0 hf => ?_)
  refine fr_wr h0 (by unfold FM; omega) hf (fun M11 h0 hf => ?_)
  refine fr_wr h0 (by unfold FM; omega) hf (fun M14 h0 hf => ?_)
  cases hf
  exact h0
