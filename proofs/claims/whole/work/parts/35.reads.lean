/-! the reference's reading at place p -/
def mQ (M : Mem) (p : Nat) (a b c d : Int32) : Mem := up2 (up2 (up2 (up2 (up2 M 0 39 (nI p)) 0 40 a) 0 41 b) 0 42 c) 0 43 d
theorem wr_s {α : Type} (M : Mem) (x k : Nat) (v : Int32) (K : Mem → Option α) : wr M x k v K = K (up2 M x k v) := rfl
section MQ
variable {M : Mem} {p : Nat} {a b c d : Int32}
theorem mQ_39 : mQ M p a b c d 0 39 = nI p := by
  unfold mQ
  rw [up2_nk (by decide), up2_nk (by decide), up2_nk (by decide), up2_nk (by decide), up2_at]
theorem mQ_40 : mQ M p a b c d 0 40 = a := by
  unfold mQ
  rw [up2_nk (by decide), up2_nk (by decide), up2_nk (by decide), up2_at]
theorem mQ_41 : mQ M p a b c d 0 41 = b := by
  unfold mQ
  rw [up2_nk (by decide), up2_nk (by decide), up2_at]
theorem mQ_42 : mQ M p a b c d 0 42 = c := by
  unfold mQ
  rw [up2_nk (by decide), up2_at]
theorem mQ_43 : mQ M p a b c d 0 43 = d := by
  unfold mQ
  rw [up2_at]
theorem mQ_o {x k : Nat} (h : ¬ (x = 0 ∧ 39 ≤ k ∧ k ≤ 43)) : mQ M p a b c d x k = M x k := by
  unfold mQ
  rw [up2_or (by omega), up2_or (by omega), up2_or (by omega), up2_or (by omega), up2_or (by omega)]
theorem mQ_w39 (q : Nat) : up2 (mQ M p a b c d) 0 39 (nI q) = mQ M q a b c d := by
  unfold mQ
  rw [up2_comm (x := 0) (k := 43) (by decide), up2_comm (x := 0) (k := 42) (by decide), up2_comm (x := 0) (k := 41) (by decide), up2_comm (x := 0) (k := 40) (by decide), up2_up2]
theorem mQ_w40 (v : Int32) : up2 (mQ M p a b c d) 0 40 v = mQ M p v b c d := by
  unfold mQ
  rw [up2_comm (x := 0) (k := 43) (by decide), up2_comm (x := 0) (k := 42) (by decide), up2_comm (x := 0) (k := 41) (by decide), up2_up2]
theorem mQ_w41 (v : Int32) : up2 (mQ M p a b c d) 0 41 v = mQ M p a v c d := by
  unfold mQ
  rw [up2_comm (x := 0) (k := 43) (by decide), up2_comm (x := 0) (k := 42) (by decide), up2_up2]
theorem mQ_w42 (v : Int32) : up2 (mQ M p a b c d) 0 42 v = mQ M p a b v d := by
  unfold mQ
  rw [up2_comm (x := 0) (k := 43) (by decide), up2_up2]
theorem mQ_w43 (v : Int32) : up2 (mQ M p a b c d) 0 43 v = mQ M p a b c v := by
  unfold mQ
  rw [up2_up2]
end MQ
theorem mQ_of {M : Mem} {p : Nat} (h : M 0 39 = nI p) : mQ M p (M 0 40) (M 0 41) (M 0 42) (M 0 43) = M := by
  unfold mQ
  rw [← h, up2_self, up2_self, up2_self, up2_self, up2_self]
theorem in48 : ∀ c, c < 128 → (fX8_in (nI c - 48) 0 9 = 0 ↔ ¬ ((48 : Int32) ≤ nI c ∧ nI c ≤ 57)) := by decide +kernel
section MR
variable {T : Nat → Int32} {z : Nat} {M : Mem}
theorem m_skL (hT : TOk T z) (hM : mT T z M) (a b c d : Int32) : ∀ m p, z - p ≤ m → p ≤ z → ∀ n, m < n → fX8_here_L0 n (mQ M p a b c d) = some (mQ M (sk T z p) a b c d) := by
  obtain ⟨hz, hc⟩ := hT
  obtain ⟨h1, h2⟩ := hM
  intro m
  induction m with
  | zero =>
    intro p hp hpz n hn
    obtain ⟨n, rfl⟩ : ∃ k, n = k + 1 := ⟨n - 1, by omega⟩
    rw [fX8_here_L0, mQ_39, mQ_o (by omega), h1, if_pos ((le_nI (by omega) (by omega)).mpr (by omega)), sk_end (by omega)]
  | succ m ih =>
    intro p hp hpz n hn
    obtain ⟨n, rfl⟩ : ∃ k, n = k + 1 := ⟨n - 1, by omega⟩
    rw [fX8_here_L0, mQ_39, mQ_o (x := 0) (k := 38) (by omega), h1]
    by_cases h : p < z
    · rw [if_neg (fun q => by have := (le_nI (by omega) (by omega)).mp q; omega), ix_in (vp120 (by omega)), nI_cl (by omega), mQ_o (x := 30) (by omega), h2 p (by omega)]
      by_cases hb : T p = 32
      · rw [if_pos hb, nI_1]
        show fX8_here_L0 n (up2 (mQ M p a b c d) 0 39 (nI (p + 1))) = _
        rw [mQ_w39, ih (p + 1) (by omega) (by omega) n (by omega), sk_blank h hb]
      · rw [if_neg hb, sk_stop h hb]
    · rw [if_pos ((le_nI (by omega) (by omega)).mpr (by omega)), sk_end (by omega)]
theorem m_here (hT : TOk T z) (hM : mT T z M) {p : Nat} (hp : p ≤ z) (a b c d : Int32) : fX8_here (mQ M p a b c d) = some (if sk T z p < z then T (sk T z p) else -1, mQ M (sk T z p) a b c d) := by
  have hz := hT.1
  have hq := sk_le (T := T) hp
  unfold fX8_here
  rw [m_skL hT hM a b c d z p (by omega) hp FUEL (fuel_gt _ (by omega)), bnd1_s, mQ_39, mQ_o (x := 0) (k := 38) (by omega), hM.1]
  by_cases h : sk T z p < z
  · rw [if_neg (fun q => by have := (le_nI (by omega) (by omega)).mp q; omega), ix_in (vp120 (by omega)), nI_cl (by omega), mQ_o (x := 30) (by omega), hM.2 _ (by omega), if_pos h]
  · rw [if_pos ((le_nI (by omega) (by omega)).mpr (by omega)), if_neg h]
theorem m_one (hT : TOk T z) (hM : mT T z M) {p : Nat} (hp : p ≤ z) (n a b c d : Int32) : ((pFig T z n p).1 = -1 ∧ fX8_readsOne n (mQ M p a b c d) = some (0, mQ M (pFig T z n p).2 a b c d)) ∨ (¬ (pFig T z n p).1 = -1 ∧ fX8_readsOne n (mQ M p a b c d) = some (1, mQ M (pFig T z n p).2 (pFig T z n p).1 b c d)) := by
  have hz := hT.1
  have hq := sk_le (T := T) hp
  unfold fX8_readsOne pFig
  rw [m_here hT hM hp, bnd2_s]
  by_cases h : fgr T z (sk T z p) = true
  · have hi := fgr_i.mp h
    obtain ⟨e, he, e1, e2⟩ := fgr_d h
    obtain ⟨k, hk, ek⟩ := hT.2 (sk T z p) (by omega)
    have hin : ¬ fX8_in (T (sk T z p) - 48) 0 9 = 0 := fun q => by
      rw [ek] at q hi
      exact (in48 k hk).mp q hi.2
    rw [if_pos hi.1, if_neg hin]
    by_cases h2 : T (sk T z p) - 48 < n
    · rw [if_pos h2, if_pos ⟨h, h2⟩]
      refine Or.inr ⟨?_, ?_⟩
      · show ¬ T (sk T z p) - 48 = -1
        rw [e2]
        intro q
        have : nI e < 0 := by rw [q]; decide
        exact nI_pos (by omega) this
      · rw [mQ_39, nI_1]
        show some ((1 : Int32), up2 (up2 (mQ M (sk T z p) a b c d) 0 39 (nI (sk T z p + 1))) 0 40 _) = _
        rw [mQ_w39, mQ_w40]
    · rw [if_neg h2, if_neg (fun q => h2 q.2)]
      exact Or.inl ⟨rfl, rfl⟩
  · rw [if_neg (fun q : fgr T z (sk T z p) = true ∧ _ => h q.1)]
    refine Or.inl ⟨rfl, ?_⟩
    rw [if_pos]
    by_cases h3 : sk T z p < z
    · rw [if_pos h3]
      obtain ⟨k, hk, ek⟩ := hT.2 (sk T z p) (by omega)
      rw [ek]
      refine (in48 k hk).mpr (fun q => h (fgr_i.mpr ⟨h3, ?_⟩))
      rw [ek]; exact q
    · rw [if_neg h3]; decide
theorem m_nstop (hM : mT T z M) (hz : z ≤ 120) {p : Nat} {mx q v : Int32} {n : Nat} {a b c d : Int32} (hp : p ≤ z) (h : fgr T z p = false) : fX8_readsNumber_L28 (n + 1) mx q v (mQ M p a b c d) = some (v, mQ M p a b c d) := by
  rw [fX8_readsNumber_L28, mQ_39, mQ_o (x := 0) (k := 38) (by omega), hM.1]
  by_cases h3 : p < z
  · rw [if_neg (fun q => by have := (le_nI (by omega) (by omega)).mp q; omega), ix_in (vp120 (by omega)), nI_cl (by omega), mQ_o (x := 30) (by omega), hM.2 p (by omega), if_pos]
    rw [in_z]
    by_cases a1 : T p < 48
    · exact Or.inl a1
    · refine Or.inr (Int32.not_le.mp fun q => ?_)
      rw [fgr_i.mpr ⟨h3, Int32.not_lt.mp a1, q⟩] at h
      cases h
  · rw [if_pos ((le_nI (by omega) (by omega)).mpr (by omega))]
theorem m_ngo (hM : mT T z M) (hz : z ≤ 120) {p : Nat} {mx q v : Int32} {n : Nat} {a b c d : Int32} (h : fgr T z p = true) : fX8_readsNumber_L28 (n + 1) mx q v (mQ M p a b c d) = fX8_readsNumber_L28 n mx q (v + 1) (mQ M (p + 1) (if 2 ≤ v then a else 10 * a + T p - 48) b c d) := by
  have hi := fgr_i.mp h
  rw [fX8_readsNumber_L28, mQ_39, mQ_o (x := 0) (k := 38) (by omega), hM.1, if_neg (fun q => by have := (le_nI (by omega) (by omega)).mp q; omega), ix_in (vp120 (by omega)), nI_cl (by omega), mQ_o (x := 30) (by omega), hM.2 p (by omega), if_neg (in_neg (Int32.not_lt.mpr hi.2.1) (Int32.not_lt.mpr hi.2.2)), mQ_40]
  dsimp only [jn]
  have key : ∀ w : Int32, (wr (mQ M p a b c d) 0 40 w fun M23 => wr M23 0 39 (M23 0 39 + 1) fun M27 => fX8_readsNumber_L28 n mx q (v + 1) M27) = fX8_readsNumber_L28 n mx q (v + 1) (mQ M (p + 1) w b c d) := fun w => by
    show fX8_readsNumber_L28 n mx q (v + 1) (up2 (up2 (mQ M p a b c d) 0 40 w) 0 39 (up2 (mQ M p a b c d) 0 40 w 0 39 + 1)) = _
    rw [mQ_w40, mQ_39, nI_1, mQ_w39]
  by_cases h2 : (2 : Int32) ≤ v
  · rw [if_pos h2, if_pos h2]; exact key a
  · rw [if_neg h2, if_neg h2]; exact key _
theorem m_nlong (hM : mT T z M) (hz : z ≤ 120) (mx q a b c d : Int32) : ∀ m p k, z - p ≤ m → p ≤ z → 3 ≤ k → k + m ≤ 200 → ∀ n, m < n → ∃ w p', 3 ≤ w ∧ w ≤ 200 ∧ fX8_readsNumber_L28 n mx q (nI k) (mQ M p a b c d) = some (nI w, mQ M p' a b c d) := by
  intro m
  induction m with
  | zero =>
    intro p k hp hpz hk hk2 n hn
    obtain ⟨n, rfl⟩ : ∃ k, n = k + 1 := ⟨n - 1, by omega⟩
    refine ⟨k, p, hk, by omega, m_nstop hM hz hpz ?_⟩
    cases e : fgr T z p with
    | false => rfl
    | true => have := (fgr_i.mp e).1; omega
  | succ m ih =>
    intro p k hp hpz hk hk2 n hn
    obtain ⟨n, rfl⟩ : ∃ k, n = k + 1 := ⟨n - 1, by omega⟩
    cases e : fgr T z p with
    | false => exact ⟨k, p, hk, by omega, m_nstop hM hz hpz e⟩
    | true =>
      have := (fgr_i.mp e).1
      obtain ⟨w, p', h1, h2, h3⟩ := ih (p + 1) (k + 1) (by omega) (by omega) (by omega) (by omega) n (by omega)
      refine ⟨w, p', h1, h2, ?_⟩
      rw [m_ngo hM hz e, nI_1, if_pos (show (2 : Int32) ≤ nI k from (le_nI (a := 2) (by omega) (by omega)).mpr (by omega))]
      exact h3
theorem dg_ne {e : Nat} (he : e ≤ 99) : ¬ nI e = -1 := by
  intro q
  have : nI e < 0 := by rw [q]; decide
  exact nI_pos (by omega) this
theorem two_d {v w : Int32} {d e : Nat} (h1 : v - 48 = nI d) (h2 : w = nI (48 + e)) : (v - 48) * 10 + w - 48 = nI (10 * d + e) := by
  rw [h1, h2, show (10 : Int32) = nI 10 from rfl, pk_mul, nI_add, show (48 : Int32) = nI 48 from rfl, pk_sub (by omega)]
  congr 1; omega
theorem m_num (hT : TOk T z) (hM : mT T z M) {p : Nat} (hp : p ≤ z) (mx a b c d : Int32) : ((pNum T z mx p).1 = -1 ∧ ∃ a', fX8_readsNumber mx (mQ M p a b c d) = some (0, mQ M (pNum T z mx p).2 a' b c d)) ∨ (¬ (pNum T z mx p).1 = -1 ∧ fX8_readsNumber mx (mQ M p a b c d) = some (1, mQ M (pNum T z mx p).2 (pNum T z mx p).1 b c d)) := by
  have hz := hT.1
  have hq := sk_le (T := T) hp
  unfold fX8_readsNumber pNum
  rw [m_here hT hM hp, bnd2_s, mQ_39, show FUEL = 4093 + 1 + 1 + 1 from rfl]
  generalize sk T z p = q at hq
  have back : ∀ (r : Nat) (w : Int32), wr (mQ M r w b c d) 0 39 (nI q) (fun M24 => some ((0 : Int32), M24)) = some (0, mQ M q w b c d) := fun r w => by
    show some ((0 : Int32), up2 (mQ M r w b c d) 0 39 (nI q)) = _
    rw [mQ_w39]
  by_cases h0 : fgr T z q = true
  · have hi := fgr_i.mp h0
    obtain ⟨d0, hd0, t0, s0⟩ := fgr_d h0
    rw [if_pos h0, if_pos hi.1, if_neg (in_neg (Int32.not_lt.mpr hi.2.1) (Int32.not_lt.mpr hi.2.2))]
    rw [wr_s, mQ_w40, m_ngo hM hz h0, if_neg (show ¬ (2 : Int32) ≤ 0 by decide), show (10 : Int32) * 0 + T q - 48 = T q - 48 by rw [show (10 : Int32) * 0 = 0 from rfl, Int32.zero_add], show (0 : Int32) + 1 = nI 1 from rfl]
    by_cases h1 : fgr T z (q + 1) = true
    · obtain ⟨d1, hd1, t1, s1⟩ := fgr_d h1
      have l1 := (fgr_i.mp h1).1
      rw [if_pos h1, m_ngo hM hz h1, if_neg (show ¬ (2 : Int32) ≤ nI 1 by decide), show nI 1 + 1 = nI 2 from rfl, Int32.mul_comm 10]
      by_cases h2 : fgr T z (q + 2) = true
      · rw [if_pos h2, m_ngo hM hz h2, if_pos (show (2 : Int32) ≤ nI 2 by decide), show nI 2 + 1 = nI 3 from rfl]
        have l2 := (fgr_i.mp h2).1
        obtain ⟨w, p', w1, w2, w3⟩ := m_nlong hM hz mx (nI q) ((T q - 48) * 10 + T (q + 1) - 48) b c d z (q + 1 + 1 + 1) 3 (by omega) (by omega) (by omega) (by omega) 4093 (by omega)
        rw [w3, bnd2_s, if_pos (show (2 : Int32) < nI w from (lt_nI (a := 2) (by omega) (by omega)).mpr (by omega))]
        exact Or.inl ⟨rfl, _, back _ _⟩
      · rw [if_neg h2, m_nstop hM hz (by omega) (by simpa using h2), bnd2_s, if_neg (show ¬ (2 : Int32) < nI 2 by decide), mQ_40]
        by_cases h3 : (T q - 48) * 10 + T (q + 1) - 48 ≤ mx
        · rw [if_pos h3, if_pos h3]
          refine Or.inr ⟨?_, rfl⟩
          show ¬ (T q - 48) * 10 + T (q + 1) - 48 = -1
          rw [two_d s0 t1]
          exact dg_ne (by omega)
        · rw [if_neg h3, if_neg h3]
          exact Or.inl ⟨rfl, _, back _ _⟩
    · rw [if_neg h1, m_nstop hM hz (by omega) (by simpa using h1), bnd2_s, if_neg (show ¬ (2 : Int32) < nI 1 by decide), mQ_40]
      by_cases h3 : T q - 48 ≤ mx
      · rw [if_pos h3, if_pos h3]
        refine Or.inr ⟨?_, rfl⟩
        show ¬ T q - 48 = -1
        rw [s0]
        exact dg_ne (by omega)
      · rw [if_neg h3, if_neg h3]
        exact Or.inl ⟨rfl, _, back _ _⟩
  · rw [if_neg h0]
    refine Or.inl ⟨rfl, a, ?_⟩
    rw [if_pos]
    by_cases h3 : q < z
    · rw [if_pos h3, in_z]
      by_cases a1 : T q < 48
      · exact Or.inl a1
      · exact Or.inr (Int32.not_le.mp fun w => h0 (fgr_i.mpr ⟨h3, Int32.not_lt.mp a1, w⟩))
    · rw [if_neg h3]; decide
end MR
/-! what a reading that is kept has found -/
section PF
variable {T : Nat → Int32} {z : Nat}
theorem pFig_le {n : Int32} {p : Nat} (hp : p ≤ z) : p ≤ (pFig T z n p).2 ∧ (pFig T z n p).2 ≤ z := by
  have h1 := sk_ge (T := T) hp
  have h2 := sk_le (T := T) hp
  unfold pFig
  by_cases h : fgr T z (sk T z p) = true ∧ T (sk T z p) - 48 < n
  · rw [if_pos h]
    have := (fgr_i.mp h.1).1
    exact ⟨by show p ≤ sk T z p + 1; omega, by show sk T z p + 1 ≤ z; omega⟩
  · rw [if_neg h]; exact ⟨h1, h2⟩
theorem pFig_ok {N : Nat} (hN : N ≤ 10) {p : Nat} (hp : p ≤ z) (h : ¬ (pFig T z (nI N) p).1 = -1) : (∃ i, i < N ∧ (pFig T z (nI N) p).1 = nI i) ∧ p + 1 ≤ (pFig T z (nI N) p).2 := by
  have h1 := sk_ge (T := T) hp
  unfold pFig at h ⊢
  by_cases q : fgr T z (sk T z p) = true ∧ T (sk T z p) - 48 < nI N
  · rw [if_pos q]
    obtain ⟨e, he, e1, e2⟩ := fgr_d q.1
    refine ⟨⟨e, ?_, e2⟩, by show p + 1 ≤ sk T z p + 1; omega⟩
    have := q.2
    rw [e2] at this
    exact (lt_nI (by omega) (by omega)).mp this
  · rw [if_neg q] at h
    exact absurd rfl h
theorem pNum_le {n : Int32} {p : Nat} (hp : p ≤ z) : p ≤ (pNum T z n p).2 ∧ (pNum T z n p).2 ≤ z := by
  have h1 := sk_ge (T := T) hp
  have h2 := sk_le (T := T) hp
  unfold pNum
  generalize sk T z p = q at h1 h2
  by_cases a : fgr T z q = true
  · have := (fgr_i.mp a).1
    rw [if_pos a]
    by_cases b : fgr T z (q + 1) = true
    · have := (fgr_i.mp b).1
      rw [if_pos b]
      by_cases d : fgr T z (q + 2) = true
      · rw [if_pos d]; exact ⟨h1, h2⟩
      · rw [if_neg d]
        by_cases e : (T q - 48) * 10 + T (q + 1) - 48 ≤ n
        · rw [if_pos e]; exact ⟨by show p ≤ q + 2; omega, by show q + 2 ≤ z; omega⟩
        · rw [if_neg e]; exact ⟨h1, h2⟩
    · rw [if_neg b]
      by_cases e : T q - 48 ≤ n
      · rw [if_pos e]; exact ⟨by show p ≤ q + 1; omega, by show q + 1 ≤ z; omega⟩
      · rw [if_neg e]; exact ⟨h1, h2⟩
  · rw [if_neg a]; exact ⟨h1, h2⟩
theorem pNum_ok {N : Nat} (hN : N ≤ 99) {p : Nat} (hp : p ≤ z) (h : ¬ (pNum T z (nI N) p).1 = -1) : (∃ i, i ≤ N ∧ (pNum T z (nI N) p).1 = nI i) ∧ p + 1 ≤ (pNum T z (nI N) p).2 := by
  have h1 := sk_ge (T := T) hp
  unfold pNum at h ⊢
  generalize sk T z p = q at h1 h
  by_cases a : fgr T z q = true
  · obtain ⟨d0, hd0, t0, s0⟩ := fgr_d a
    rw [if_pos a] at h ⊢
    by_cases b : fgr T z (q + 1) = true
    · obtain ⟨d1, hd1, t1, s1⟩ := fgr_d b
      rw [if_pos b] at h ⊢
      by_cases d : fgr T z (q + 2) = true
      · rw [if_pos d] at h; exact absurd rfl h
      · rw [if_neg d] at h ⊢
        by_cases e : (T q - 48) * 10 + T (q + 1) - 48 ≤ nI N
        · rw [if_pos e]
          refine ⟨⟨10 * d0 + d1, ?_, two_d s0 t1⟩, by show p + 1 ≤ q + 2; omega⟩
          rw [two_d s0 t1] at e
          exact (le_nI (by omega) (by omega)).mp e
        · rw [if_neg e] at h; exact absurd rfl h
    · rw [if_neg b] at h ⊢
      by_cases e : T q - 48 ≤ nI N
      · rw [if_pos e]
        refine ⟨⟨d0, ?_, s0⟩, by show p + 1 ≤ q + 1; omega⟩
        rw [s0] at e
        exact (le_nI (by omega) (by omega)).mp e
      · rw [if_neg e] at h; exact absurd rfl h
  · rw [if_neg a] at h; exact absurd rfl h
end PF
