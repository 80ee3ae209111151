/-! both sides run together -/
def LR {α β : Type} (a : Option α) (b : Option β) (Q : α → β → Prop) : Prop := ∃ x y, a = some x ∧ b = some y ∧ Q x y
section LRS
variable {α β γ δ ε : Type}
theorem LR.ret {Q : α → β → Prop} {x : α} {y : β} (h : Q x y) : LR (some x) (some y) Q := ⟨x, y, rfl, rfl, h⟩
theorem LR.ixl {Q : α → β → Prop} {i : Int32} {n : Nat} {K : Option α} {b : Option β} (h : vp_in i n) (k : LR K b Q) : LR (ix i n K) b Q := by rw [ix_in h]; exact k
theorem LR.ixr {Q : α → β → Prop} {i : Int32} {n : Nat} {K : Option β} {a : Option α} (h : vp_in i n) (k : LR a K Q) : LR a (ix i n K) Q := by rw [ix_in h]; exact k
theorem LR.wl {Q : α → β → Prop} {M : Mem} {x j : Nat} {v : Int32} {K : Mem → Option α} {b : Option β} (k : LR (K (up2 M x j v)) b Q) : LR (wr M x j v K) b Q := k
theorem LR.wr {Q : α → β → Prop} {M : Mem} {x j : Nat} {v : Int32} {K : Mem → Option β} {a : Option α} (k : LR a (K (up2 M x j v)) Q) : LR a (wr M x j v K) Q := k
theorem LR.b11 {Q : γ → δ → Prop} {R : α → β → Prop} {a : Option α} {b : Option β} {K : α → Option γ} {K' : β → Option δ} (h : LR a b R) (k : ∀ x y, R x y → LR (K x) (K' y) Q) : LR (bnd1 a K) (bnd1 b K') Q := by
  obtain ⟨x, y, rfl, rfl, h⟩ := h; exact k x y h
theorem LR.b22 {A1 A2 B1 B2 : Type} {Q : γ → δ → Prop} {R : A1 × A2 → B1 × B2 → Prop} {a : Option (A1 × A2)} {b : Option (B1 × B2)} {K : A1 → A2 → Option γ} {K' : B1 → B2 → Option δ} (h : LR a b R) (k : ∀ x1 x2 y1 y2, R (x1, x2) (y1, y2) → LR (K x1 x2) (K' y1 y2) Q) : LR (bnd2 a K) (bnd2 b K') Q := by
  obtain ⟨⟨x1, x2⟩, ⟨y1, y2⟩, rfl, rfl, h⟩ := h; exact k x1 x2 y1 y2 h
theorem LR.b21 {A1 A2 : Type} {Q : γ → δ → Prop} {R : A1 × A2 → β → Prop} {a : Option (A1 × A2)} {b : Option β} {K : A1 → A2 → Option γ} {K' : β → Option δ} (h : LR a b R) (k : ∀ x1 x2 y, R (x1, x2) y → LR (K x1 x2) (K' y) Q) : LR (bnd2 a K) (bnd1 b K') Q := by
  obtain ⟨⟨x1, x2⟩, y, rfl, rfl, h⟩ := h; exact k x1 x2 y h
theorem LR.bl1 {Q : γ → δ → Prop} {a : Option α} {x : α} {K : α → Option γ} {b : Option δ} (h : a = some x) (k : LR (K x) b Q) : LR (bnd1 a K) b Q := by subst h; exact k
theorem LR.br1 {Q : γ → δ → Prop} {a : Option γ} {b : Option β} {y : β} {K : β → Option δ} (h : b = some y) (k : LR a (K y) Q) : LR a (bnd1 b K) Q := by subst h; exact k
theorem LR.bl2 {A1 A2 : Type} {Q : γ → δ → Prop} {a : Option (A1 × A2)} {x1 : A1} {x2 : A2} {K : A1 → A2 → Option γ} {b : Option δ} (h : a = some (x1, x2)) (k : LR (K x1 x2) b Q) : LR (bnd2 a K) b Q := by subst h; exact k
theorem LR.br2 {A1 A2 : Type} {Q : γ → δ → Prop} {b : Option (A1 × A2)} {x1 : A1} {x2 : A2} {K : A1 → A2 → Option δ} {a : Option γ} (h : b = some (x1, x2)) (k : LR a (K x1 x2) Q) : LR a (bnd2 b K) Q := by subst h; exact k
theorem LR.imp {Q Q' : α → β → Prop} {a : Option α} {b : Option β} (h : LR a b Q) (k : ∀ x y, Q x y → Q' x y) : LR a b Q' := by
  obtain ⟨x, y, h1, h2, h3⟩ := h; exact ⟨x, y, h1, h2, k x y h3⟩
theorem LR.ite {Q : α → β → Prop} {P P' : Prop} [Decidable P] [Decidable P'] {X Y : Option α} {X' Y' : Option β} (e : P ↔ P') (ht : P → LR X X' Q) (hf : ¬ P → LR Y Y' Q) : LR (if P then X else Y) (if P' then X' else Y') Q := by
  by_cases h : P
  · rw [if_pos h, if_pos (e.mp h)]; exact ht h
  · rw [if_neg h, if_neg (fun q => h (e.mpr q))]; exact hf h
end LRS
def Ix (C D : Mem) : Prop := ∃ ns g cn W, Iz ns g cn 0 W C D
def Rz : Int32 × Mem → Int32 × Mem → Prop := fun x y => x.1 = y.1 ∧ Ix x.2 y.2
/-! numbers -/
theorem i_lt (a b : Int32) : a < b ↔ a.toInt < b.toInt := Int32.lt_iff_toInt_lt
theorem i_le (a b : Int32) : a ≤ b ↔ a.toInt ≤ b.toInt := Int32.le_iff_toInt_le
theorem i_eq (a b : Int32) : a = b ↔ a.toInt = b.toInt := Int32.toInt_inj.symm
theorem in_z {v a b : Int32} : fX8_in v a b = 0 ↔ (v < a ∨ b < v) := by
  unfold fX8_in
  by_cases h1 : v < a
  · rw [if_pos h1]; exact ⟨fun _ => Or.inl h1, fun _ => rfl⟩
  · rw [if_neg h1]
    by_cases h2 : b < v
    · rw [if_pos h2]; exact ⟨fun _ => Or.inr h2, fun _ => rfl⟩
    · rw [if_neg h2]; exact ⟨fun h => absurd h (by decide), fun h => (h.elim h1 h2).elim⟩
theorem in_pos {v a b : Int32} (h : v < a ∨ b < v) : fX8_in v a b = 0 := in_z.mpr h
theorem in_neg {v a b : Int32} (h1 : ¬ v < a) (h2 : ¬ b < v) : ¬ fX8_in v a b = 0 := fun h => (in_z.mp h).elim h1 h2
theorem nI_toI {n : Nat} (h : n < 2147483648) : (nI n).toInt = n := nI_toInt h
theorem nI_cl {n : Nat} (h : n < 2147483648) : (nI n).toNatClampNeg = n := nI_clamp h
theorem bnd_of {v : Int32} {n : Nat} (hn : n < 2147483648) (h0 : ¬ v < 0) (h1 : v < nI n) : ∃ i, i < n ∧ v = nI i := by
  obtain ⟨j, hj, rfl⟩ := nI_of h0
  exact ⟨j, (nI_ltI hj hn).mp h1, rfl⟩
theorem rng_le {N M : Nat} {v : Int32} (h : rng N v) (hm : N ≤ M) : rng M v := by
  obtain ⟨n, h1, h2⟩ := h; exact ⟨n, Nat.le_trans h1 hm, h2⟩
theorem rng_of {v : Int32} {N : Nat} (hN : N < 2147483648) (h0 : ¬ v < 0) (h1 : v ≤ nI N) : rng N v := by
  obtain ⟨j, hj, rfl⟩ := nI_of h0
  exact ⟨j, (nI_leI hj hN).mp h1, rfl⟩
theorem vp4 {i : Nat} (h : i < 4) : vp_in (nI i) 4 := vp_in_nI h (by decide)
theorem vp6 {i : Nat} (h : i < 6) : vp_in (nI i) 6 := vp_in_nI h (by decide)
theorem vp24 {i : Nat} (h : i < 24) : vp_in (nI i) 24 := vp_in_nI h (by decide)
theorem vp60 {i : Nat} (h : i < 60) : vp_in (nI i) 60 := vp_in_nI h (by decide)
theorem vp120 {i : Nat} (h : i < 120) : vp_in (nI i) 120 := vp_in_nI h (by decide)
theorem vp390 {i : Nat} (h : i < 390) : vp_in (nI i) 390 := vp_in_nI h (by decide)
theorem vp1560 {i : Nat} (h : i < 1560) : vp_in (nI i) 1560 := vp_in_nI h (by decide)
theorem n4 (i j : Nat) : (4 : Int32) * nI i + nI j = nI (4 * i + j) := by
  rw [show (4 : Int32) = nI 4 from rfl, pk_mul, nI_add]
theorem n4' (i j : Nat) : nI i * (4 : Int32) + nI j = nI (4 * i + j) := by
  rw [show (4 : Int32) = nI 4 from rfl, pk_mul, nI_add, Nat.mul_comm]
/-! what both know -/
section KN
variable {ns g cn s W : Nat} {C D : Mem}
theorem Iz.rd (h : Iz ns g cn s W C D) {d k c j : Nat} (hp : pos d k = some (c, j)) : C c j = D d k := h.1 d k c j hp
theorem Iz.ns_ (h : Iz ns g cn s W C D) : C 1 0 = D 0 1 := h.rd p_ns
theorem Iz.g_ (h : Iz ns g cn s W C D) : C 1 1 = D 0 2 := h.rd p_g
theorem Iz.wide_ (h : Iz ns g cn s W C D) : C 1 2 = D 0 3 := h.rd p_wide
theorem Iz.tick_ (h : Iz ns g cn s W C D) : C 1 3 = D 0 4 := h.rd p_tick
theorem Iz.cn_ (h : Iz ns g cn s W C D) : C 28 5 = D 0 22 := h.rd p_cn
theorem Iz.size_ (h : Iz ns g cn s W C D) : C 2 1 = D 0 38 := h.rd p_size
theorem Iz.nsI (h : Iz ns g cn s W C D) : D 0 1 = nI ns := h.2.2.1.1
theorem Iz.ns1 (h : Iz ns g cn s W C D) : 1 ≤ ns ∧ ns ≤ 6 := h.2.2.1.2
theorem Iz.gI (h : Iz ns g cn s W C D) : D 0 2 = nI g := h.2.2.2.1.1
theorem Iz.g1 (h : Iz ns g cn s W C D) : 1 ≤ g ∧ g ≤ 4 := h.2.2.2.1.2
theorem Iz.cnI (h : Iz ns g cn s W C D) : D 0 22 = nI cn := h.2.2.2.2.1.1
theorem Iz.cn1 (h : Iz ns g cn s W C D) : cn ≤ 60 := h.2.2.2.2.1.2.1
theorem Iz.ok (h : Iz ns g cn s W C D) : Okv D := h.2.1
theorem Iz.win (h : Iz ns g cn s W C D) : WinO g s W C D := h.2.2.2.2.2
theorem lt_pred {n : Nat} {v : Int32} (h1 : 1 ≤ n) (h2 : n ≤ 6) : nI n - 1 < v ↔ nI n ≤ v := by
  obtain ⟨m, rfl⟩ : ∃ m, n = m + 1 := ⟨n - 1, by omega⟩
  rw [nI_pred, i_lt, i_le, nI_toI (by omega), nI_toI (by omega)]
  omega
theorem Iz.isS (h : Iz ns g cn s W C D) (v : Int32) : fX7_isSender v C = fX8_isSender v D := by
  unfold fX7_isSender fX8_isSender fX8_in
  rw [h.ns_, h.nsI]
  by_cases h1 : v < 0
  · rw [if_pos h1, if_pos h1]
  · rw [if_neg h1, if_neg h1]
    by_cases h2 : nI ns ≤ v
    · rw [if_pos h2, if_pos ((lt_pred h.ns1.1 h.ns1.2).mpr h2)]
    · rw [if_neg h2, if_neg (fun q => h2 ((lt_pred h.ns1.1 h.ns1.2).mp q))]
theorem Iz.isG (h : Iz ns g cn s W C D) (v : Int32) : fX7_isGate v C = fX8_isGate v D := by
  unfold fX7_isGate fX8_isGate fX8_in
  have hg := h.g1
  rw [h.g_, h.gI]
  by_cases h1 : v < 0
  · rw [if_pos h1, if_pos h1]
  · rw [if_neg h1, if_neg h1]
    by_cases h2 : nI g ≤ v
    · rw [if_pos h2, if_pos ((lt_pred hg.1 (by omega)).mpr h2)]
    · rw [if_neg h2, if_neg (fun q => h2 ((lt_pred hg.1 (by omega)).mp q))]
theorem Iz.sIn (h : Iz ns g cn s W C D) {v : Int32} (hv : ¬ fX8_isSender v D = 0) : ∃ i, i < ns ∧ v = nI i := by
  rw [← h.isS v] at hv
  unfold fX7_isSender at hv
  rw [h.ns_, h.nsI] at hv
  by_cases h1 : v < 0
  · rw [if_pos h1] at hv; exact absurd rfl hv
  · rw [if_neg h1] at hv
    by_cases h2 : nI ns ≤ v
    · rw [if_pos h2] at hv; exact absurd rfl hv
    · have := h.ns1
      exact bnd_of (by omega) h1 (Int32.not_le.mp h2)
theorem Iz.gIn (h : Iz ns g cn s W C D) {v : Int32} (hv : ¬ fX8_isGate v D = 0) : ∃ i, i < g ∧ v = nI i := by
  rw [← h.isG v] at hv
  unfold fX7_isGate at hv
  rw [h.g_, h.gI] at hv
  by_cases h1 : v < 0
  · rw [if_pos h1] at hv; exact absurd rfl hv
  · rw [if_neg h1] at hv
    by_cases h2 : nI g ≤ v
    · rw [if_pos h2] at hv; exact absurd rfl hv
    · have := h.g1
      exact bnd_of (by omega) h1 (Int32.not_le.mp h2)
theorem Iz.snd (h : Iz ns g cn s W C D) {d i : Nat} (h1 : 9 ≤ d) (h2 : d < 19) (h3 : d ≠ 16) (hi : i < 6) : C (11 + i) (sfld d) = D d i := h.rd (p_snd h1 h2 h3 hi)
theorem Iz.gat (h : Iz ns g cn s W C D) {d i : Nat} (h1 : 2 ≤ d) (h2 : d < 8) (hi : i < 4) : C (24 + i) (d - 2) = D d i := h.rd (p_gate h1 h2 hi)
theorem Iz.ix (h : Iz ns g cn 0 W C D) : Ix C D := ⟨_, _, _, _, h⟩
end KN
theorem okT {d k : Nat} {v : Int32} (h : d ≠ 0) (h1 : d ≠ 9) (h2 : d ≠ 10) (h3 : d ≠ 11) (h4 : d ≠ 12) (h5 : d ≠ 13) (h6 : d ≠ 14) (h7 : d ≠ 15) (h8 : d ≠ 16) (h9 : d ≠ 19) (h10 : d ≠ 21) (h11 : d ≠ 22) (h12 : d ≠ 30) : okv d k v := by
  unfold okv
  rw [if_neg h, if_neg h1, if_neg h2, if_neg h3, if_neg h4, if_neg h5, if_neg h6, if_neg h7, if_neg h8, if_neg h9, if_neg h10, if_neg h11]
  exact fun q => absurd q h12
theorem lr_bad {C D : Mem} (h : Ix C D) : LR (bnd2 (fX7_refuseBad C) fun t M => some (t, M)) (bnd2 (fX8_bad D) fun t M => some (t, M)) Rz := by
  obtain ⟨ns, g, cn, W, h⟩ := h
  refine LR.ret (Q := Rz) ⟨rfl, ?_⟩
  show Ix (up2 C 0 2 (C 0 2 + 1)) (up2 D 1 0 (D 1 0 + 1))
  rw [show C 0 2 = D 1 0 from h.rd (p_ref (k := 0) (by decide))]
  exact (h.wr (p_ref (k := 0) (by decide)) (by decide) (by decide) (by simp [okv])).ix
theorem lr_no {C D : Mem} (h : Ix C D) : LR (bnd2 (fX7_refuseNo C) fun t M => some (t, M)) (bnd2 (fX8_no D) fun t M => some (t, M)) Rz := by
  obtain ⟨ns, g, cn, W, h⟩ := h
  refine LR.ret (Q := Rz) ⟨rfl, ?_⟩
  show Ix (up2 C 0 3 (C 0 3 + 1)) (up2 D 1 1 (D 1 1 + 1))
  rw [show C 0 3 = D 1 1 from h.rd (p_ref (k := 1) (by decide))]
  exact (h.wr (p_ref (k := 1) (by decide)) (by decide) (by decide) (by simp [okv])).ix
theorem lr_full {C D : Mem} (h : Ix C D) : LR (bnd2 (fX7_refuseFull C) fun t M => some (t, M)) (bnd2 (fX8_full D) fun t M => some (t, M)) Rz := by
  obtain ⟨ns, g, cn, W, h⟩ := h
  refine LR.ret (Q := Rz) ⟨rfl, ?_⟩
  show Ix (up2 C 0 4 (C 0 4 + 1)) (up2 D 1 2 (D 1 2 + 1))
  rw [show C 0 4 = D 1 2 from h.rd (p_ref (k := 2) (by decide))]
  exact (h.wr (p_ref (k := 2) (by decide)) (by decide) (by decide) (by simp [okv])).ix
/-! gain, hears, margin, of, at, all, copy, told, type, clear, renews, gate, sender -/
theorem lr_marginAt {ns g cn s W : Nat} {C D : Mem} (h : Iz ns g cn s W C D) {i j : Nat} (hi : i < 6) (hj : j < 4) : ∃ v, fX2_marginAt (nI i) (nI j) C = some v ∧ fX8_marginOf (nI i) (nI j) D = some v := by
  unfold fX2_marginAt fX8_marginOf
  rw [ix_in (vp6 hi), ix_in (vp4 hj), n4, ix_in (vp24 (by omega)), ix_in (vp6 hi), nI_cl (by omega), nI_cl (by omega), nI_cl (by omega), h.rd (p_gain hi hj), show C (11 + i) 1 = D 10 i from h.snd (d := 10) (by decide) (by decide) (by decide) hi, show C (11 + i) 0 = D 9 i from h.snd (d := 9) (by decide) (by decide) (by decide) hi]
  exact ⟨_, rfl, rfl⟩
theorem lr_gain {C D : Mem} (h : Ix C D) (v1 v2 v3 : Int32) : LR (fX7_gain v1 v2 v3 C) (fX8_gain v1 v2 v3 D) Rz := by
  have hb := lr_bad h
  obtain ⟨ns, g, cn, W, h⟩ := h
  unfold fX7_gain fX8_gain
  rw [h.isS, h.isG]
  refine LR.ite Iff.rfl (fun _ => hb) (fun hs => ?_)
  refine LR.ite Iff.rfl (fun _ => hb) (fun hg => ?_)
  obtain ⟨i, hi, rfl⟩ := h.sIn hs
  obtain ⟨j, hj, rfl⟩ := h.gIn hg
  have := h.ns1
  have := h.g1
  by_cases h3 : v3 < 0
  · rw [if_pos h3, if_pos (in_pos (Or.inl h3))]; exact hb
  · rw [if_neg h3]
    by_cases h4 : v3 ≤ 60
    · rw [if_pos h4, if_neg (in_neg h3 (Int32.not_lt.mpr h4)), ix_in (vp6 (by omega)), ix_in (vp4 (by omega)), n4, ix_in (vp24 (by omega)), nI_cl (by omega), nI_cl (by omega), nI_cl (by omega)]
      have hp := p_gain (i := i) (j := j) (by omega) (by omega)
      refine LR.ret (Q := Rz) ⟨h.rd hp, (h.wr1 hp (by decide) (by decide) (by simp [okv])).ix⟩
    · rw [if_neg h4, if_pos (in_pos (Or.inr (Int32.not_le.mp h4)))]; exact hb
theorem lr_hears {C D : Mem} (h : Ix C D) (v1 v2 : Int32) : LR (fX7_hears v1 v2 C) (fX8_hears v1 v2 D) Rz := by
  have h0 := h
  obtain ⟨ns, g, cn, W, h⟩ := h
  unfold fX7_hears fX8_hears jn
  rw [h.isS, h.isG]
  have hb : LR (wr C 0 2 (C 0 2 + 1) fun M => some ((-2000 : Int32), M)) (wr D 1 (0 : Int32).toNatClampNeg (D 1 (0 : Int32).toNatClampNeg + 1) fun M => some ((-2000 : Int32), M)) Rz := by
    refine LR.ret (Q := Rz) ⟨rfl, ?_⟩
    show Ix (up2 C 0 2 (C 0 2 + 1)) (up2 D 1 0 (D 1 0 + 1))
    rw [show C 0 2 = D 1 0 from h.rd (p_ref (k := 0) (by decide))]
    exact (h.wr (p_ref (k := 0) (by decide)) (by decide) (by decide) (by simp [okv])).ix
  refine LR.ite Iff.rfl (fun _ => hb) (fun hs => ?_)
  refine LR.ite Iff.rfl (fun _ => hb) (fun hg => ?_)
  obtain ⟨i, hi, rfl⟩ := h.sIn hs
  obtain ⟨j, hj, rfl⟩ := h.gIn hg
  have := h.ns1
  have := h.g1
  obtain ⟨v, e1, e2⟩ := lr_marginAt h (i := i) (j := j) (by omega) (by omega)
  refine LR.bl1 e1 (LR.br1 e2 (LR.ret (Q := Rz) ⟨rfl, h0⟩))
theorem lr_clear {C D : Mem} (h : Ix C D) : LR (fX7_clear C) (fX8_clear D) Rz := by
  obtain ⟨ns, g, cn, W, h⟩ := h
  refine LR.ret (Q := Rz) ⟨h.size_, (h.wr p_size (by decide) (by decide) ?_).ix⟩
  simp only [okv, if_true]
  exact fun _ => ⟨0, by decide, rfl⟩
theorem Iz.sz {ns g cn s W : Nat} {C D : Mem} (h : Iz ns g cn s W C D) : rng 120 (D 0 38) := by
  have := h.ok 0 38
  unfold okv at this
  rw [if_pos rfl] at this
  exact this rfl
theorem lr_type {C D : Mem} (h : Ix C D) (v1 : Int32) : LR (fX7_type v1 C) (fX8_type v1 D) Rz := by
  have hb := lr_bad h
  have hfu := lr_full h
  obtain ⟨ns, g, cn, W, h⟩ := h
  unfold fX7_type fX8_type
  by_cases h3 : v1 < 0
  · rw [if_pos h3, if_pos (in_pos (Or.inl h3))]; exact hb
  · rw [if_neg h3]
    by_cases h4 : v1 ≤ 127
    · rw [if_pos h4, if_neg (in_neg h3 (Int32.not_lt.mpr h4)), h.size_]
      obtain ⟨z, hz, e⟩ := h.sz
      by_cases h5 : z < 120
      · rw [e, if_pos (show nI z < (120 : Int32) from (nI_ltI (by omega) (by decide) : nI z < nI 120 ↔ _).mpr h5), if_neg (show ¬ nI z = (120 : Int32) from fun q => by have := (nI_eq (a := z) (b := 120) (by omega) (by decide)).mp q; omega), ix_in (vp120 h5), ix_in (vp120 h5), nI_cl (by omega)]
        refine LR.wl (LR.wr (LR.wl (LR.wr ?_)))
        have k1 := h.wr1 (p_txt h5) (by decide) (by decide) (v := v1) (fun _ => rng_of (N := 127) (by decide) h3 h4)
        rw [k1.size_]
        have e2 : up2 D 30 z v1 0 38 = nI z := by rw [up2_nx (by decide)]; exact e
        have k2 := k1.wr p_size (by decide) (by decide) (v := up2 D 30 z v1 0 38 + 1) (by
          simp only [okv, if_true]
          rw [e2]
          exact fun _ => ⟨z + 1, by omega, nI_1 z⟩)
        refine LR.ret (Q := Rz) ⟨by rw [up2_at, up2_at], k2.ix⟩
      · have hz2 : z = 120 := by omega
        subst hz2
        rw [e, if_neg (show ¬ nI 120 < (120 : Int32) by decide), if_pos (show nI 120 = (120 : Int32) from rfl)]; exact hfu
    · rw [if_neg h4, if_pos (in_pos (Or.inr (Int32.not_le.mp h4)))]; exact hb
