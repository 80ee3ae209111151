/-! of, margin, at, all, copy, told, renews, gate, sender -/
theorem up2_self (M : Mem) (x k : Nat) : up2 M x k (M x k) = M := by
  funext a b
  rw [up2_if]
  by_cases h : a = x ∧ b = k
  · rw [if_pos h, h.1, h.2]
  · rw [if_neg h]
theorem ofBy_eq {ns g cn s W : Nat} {C D : Mem} (h : Iz ns g cn s W C D) {i : Nat} (hi : i < 6) (v : Int32) : fX8_ofBy (nI i) v D = some (fX3_value (11 + i) v C) := by
  unfold fX8_ofBy fX3_value
  rw [show C (11 + i) 0 = D 9 i from h.snd (d := 9) (by decide) (by decide) (by decide) hi, show C (11 + i) 1 = D 10 i from h.snd (d := 10) (by decide) (by decide) (by decide) hi, show C (11 + i) 2 = D 11 i from h.snd (d := 11) (by decide) (by decide) (by decide) hi, show C (11 + i) 3 = D 12 i from h.snd (d := 12) (by decide) (by decide) (by decide) hi, show C (11 + i) 5 = D 14 i from h.snd (d := 14) (by decide) (by decide) (by decide) hi, show C (11 + i) 7 = D 15 i from h.snd (d := 15) (by decide) (by decide) (by decide) hi, show C (11 + i) 8 = D 17 i from h.snd (d := 17) (by decide) (by decide) (by decide) hi, show C (11 + i) 9 = D 18 i from h.snd (d := 18) (by decide) (by decide) (by decide) hi]
  simp only [ix_in (vp6 hi), nI_cl (show i < 2147483648 by omega), apply_ite some]
theorem lr_of {C D : Mem} (h : Ix C D) (v1 v2 : Int32) : LR (fX7_of v1 v2 C) (fX8_of v1 v2 D) Rz := by
  have hb := lr_bad h
  have h0 := h
  obtain ⟨ns, g, cn, W, h⟩ := h
  unfold fX7_of fX8_of
  rw [h.isS]
  refine LR.ite Iff.rfl (fun _ => hb) (fun hs => ?_)
  obtain ⟨i, hi, rfl⟩ := h.sIn hs
  have := h.ns1
  by_cases h3 : v2 < 0
  · rw [if_pos h3, if_pos (in_pos (Or.inl h3))]; exact hb
  · rw [if_neg h3]
    by_cases h4 : v2 ≤ 7
    · rw [if_pos h4, if_neg (in_neg h3 (Int32.not_lt.mpr h4)), ix_in (vp6 (by omega)), nI_cl (by omega)]
      exact LR.br1 (ofBy_eq h (by omega) v2) (LR.ret (Q := Rz) ⟨rfl, h0⟩)
    · rw [if_neg h4, if_pos (in_pos (Or.inr (Int32.not_le.mp h4)))]; exact hb
theorem atBy_eq {ns g cn s W : Nat} {C D : Mem} (h : Iz ns g cn s W C D) {i : Nat} (hi : i < 4) (v : Int32) : fX8_atBy (nI i) v D = some (fX1_value (24 + i) v C) := by
  unfold fX8_atBy fX1_value fX1_left
  rw [show C (24 + i) 3 = D 5 i from h.gat (d := 5) (by decide) (by decide) hi, show C (24 + i) 4 = D 6 i from h.gat (d := 6) (by decide) (by decide) hi, show C (24 + i) 1 = D 3 i from h.gat (d := 3) (by decide) (by decide) hi, show C (24 + i) 2 = D 4 i from h.gat (d := 4) (by decide) (by decide) hi, show C (24 + i) 5 = D 7 i from h.gat (d := 7) (by decide) (by decide) hi]
  simp only [ix_in (vp4 hi), nI_cl (show i < 2147483648 by omega), apply_ite some]
theorem lr_at {C D : Mem} (h : Ix C D) (v1 v2 : Int32) : LR (fX7_at v1 v2 C) (fX8_at v1 v2 D) Rz := by
  have hb := lr_bad h
  have h0 := h
  obtain ⟨ns, g, cn, W, h⟩ := h
  unfold fX7_at fX8_at
  rw [h.isG]
  refine LR.ite Iff.rfl (fun _ => hb) (fun hs => ?_)
  obtain ⟨i, hi, rfl⟩ := h.gIn hs
  have := h.g1
  by_cases h3 : v2 < 0
  · rw [if_pos h3, if_pos (in_pos (Or.inl h3))]; exact hb
  · rw [if_neg h3]
    by_cases h4 : v2 ≤ 3
    · rw [if_pos h4, if_neg (in_neg h3 (Int32.not_lt.mpr h4)), ix_in (vp4 (by omega)), nI_cl (by omega)]
      exact LR.br1 (atBy_eq h (by omega) v2) (LR.ret (Q := Rz) ⟨rfl, h0⟩)
    · rw [if_neg h4, if_pos (in_pos (Or.inr (Int32.not_le.mp h4)))]; exact hb
theorem allBy_eq {ns g cn W : Nat} {C D : Mem} (h : Iz ns g cn 0 W C D) {n : Nat} (hn : n ≤ 8) : fX8_allBy (nI n) D = some (fX2_value (nI n) C) := by
  have hw : C 34 4 = D 0 28 := by rw [h.win.2.2.1, h.win.2.2.2.1]; rfl
  rcases (show n = 0 ∨ n = 1 ∨ n = 2 ∨ n = 3 ∨ n = 4 ∨ n = 5 ∨ n = 6 ∨ n = 7 ∨ n = 8 by omega) with e | e | e | e | e | e | e | e | e <;> subst e
  · show some (D 0 22) = some (C 28 5); rw [h.cn_]
  · show some (D 0 28) = some (C 34 4); rw [hw]
  · show some (D 29 0) = some (C 1 10); rw [show C 1 10 = D 29 0 from h.rd (p_sum (k := 0) (by decide))]
  · show some (D 29 1) = some (C 1 11); rw [show C 1 11 = D 29 1 from h.rd (p_sum (k := 1) (by decide))]
  · show some (D 29 2) = some (C 1 12); rw [show C 1 12 = D 29 2 from h.rd (p_sum (k := 2) (by decide))]
  · show some (D 29 3) = some (C 1 13); rw [show C 1 13 = D 29 3 from h.rd (p_sum (k := 3) (by decide))]
  · show some (D 29 4) = some (C 1 14); rw [show C 1 14 = D 29 4 from h.rd (p_sum (k := 4) (by decide))]
  · show some (D 29 5) = some (C 1 15); rw [show C 1 15 = D 29 5 from h.rd (p_sum (k := 5) (by decide))]
  · show some (D 0 4) = some (C 1 3); rw [h.tick_]
theorem lr_all {C D : Mem} (h : Ix C D) (v1 : Int32) : LR (fX7_all v1 C) (fX8_all v1 D) Rz := by
  have hb := lr_bad h
  have h0 := h
  obtain ⟨ns, g, cn, W, h⟩ := h
  unfold fX7_all fX8_all
  by_cases h3 : v1 < 0
  · rw [if_pos h3, if_pos (in_pos (Or.inl h3))]; exact hb
  · rw [if_neg h3]
    by_cases h4 : v1 ≤ 8
    · rw [if_pos h4, if_neg (in_neg h3 (Int32.not_lt.mpr h4))]
      obtain ⟨n, hn, rfl⟩ := rng_of (N := 8) (by decide) h3 h4
      exact LR.br1 (allBy_eq h hn) (LR.ret (Q := Rz) ⟨rfl, h0⟩)
    · rw [if_neg h4, if_pos (in_pos (Or.inr (Int32.not_le.mp h4)))]; exact hb
theorem toldBy_eq {ns g cn s W : Nat} {C D : Mem} (h : Iz ns g cn s W C D) {n : Nat} (hn : n ≤ 6) (h6 : nI n ≤ 6) : ∃ v, fX8_toldBy (nI n) D = some v ∧ fX7_told (nI n) C = some (v, C) := by
  unfold fX7_told
  rw [if_neg (show ¬ nI n < 0 from nI_pos (by omega)), if_pos h6]
  rcases (show n = 0 ∨ n = 1 ∨ n = 2 ∨ n = 3 ∨ n = 4 ∨ n = 5 ∨ n = 6 by omega) with e | e | e | e | e | e | e <;> subst e
  · refine ⟨C 0 2, ?_, rfl⟩; show some (D 1 0) = _; rw [show C 0 2 = D 1 0 from h.rd (p_ref (k := 0) (by decide))]
  · refine ⟨C 0 3, ?_, rfl⟩; show some (D 1 1) = _; rw [show C 0 3 = D 1 1 from h.rd (p_ref (k := 1) (by decide))]
  · refine ⟨C 0 4, ?_, rfl⟩; show some (D 1 2) = _; rw [show C 0 4 = D 1 2 from h.rd (p_ref (k := 2) (by decide))]
  · refine ⟨C 2 1, ?_, rfl⟩; show some (D 0 38) = _; rw [h.size_]
  · refine ⟨C 1 0, ?_, rfl⟩; show some (D 0 1) = _; rw [h.ns_]
  · refine ⟨C 1 1, ?_, rfl⟩; show some (D 0 2) = _; rw [h.g_]
  · refine ⟨C 1 2, ?_, rfl⟩; show some (D 0 3) = _; rw [h.wide_]
theorem lr_told {C D : Mem} (h : Ix C D) (v1 : Int32) : LR (fX7_told v1 C) (fX8_told v1 D) Rz := by
  have hb := lr_bad h
  have h0 := h
  obtain ⟨ns, g, cn, W, h⟩ := h
  by_cases h3 : v1 < 0
  · unfold fX7_told fX8_told
    rw [if_pos h3, if_pos (in_pos (Or.inl h3))]; exact hb
  · by_cases h4 : v1 ≤ 6
    · obtain ⟨n, hn, rfl⟩ := rng_of (N := 6) (by decide) h3 h4
      obtain ⟨v, e1, e2⟩ := toldBy_eq h hn h4
      rw [e2]
      unfold fX8_told
      rw [if_neg (in_neg h3 (Int32.not_lt.mpr h4))]
      exact LR.br1 e1 (LR.ret (Q := Rz) ⟨rfl, h0⟩)
    · unfold fX7_told fX8_told
      rw [if_neg h3, if_neg h4, if_pos (in_pos (Or.inr (Int32.not_le.mp h4)))]; exact hb
theorem lr_copy {C D : Mem} (h : Ix C D) (v1 v2 : Int32) : LR (fX7_copy v1 v2 C) (fX8_copy v1 v2 D) Rz := by
  have hb := lr_bad h
  have h0 := h
  obtain ⟨ns, g, cn, W, h⟩ := h
  unfold fX7_copy fX8_copy
  refine LR.ite Iff.rfl (fun _ => hb) (fun h1 => ?_)
  by_cases h3 : v2 < 0
  · rw [if_pos h3, if_pos (in_pos (Or.inl h3))]; exact hb
  · rw [if_neg h3]
    by_cases h4 : v2 ≤ 2
    · rw [if_pos h4, if_neg (in_neg h3 (Int32.not_lt.mpr h4)), h.cn_, h.cnI]
      have hcn := h.cn1
      refine LR.ite Iff.rfl (fun h5 => ?_) (fun _ => LR.ret (Q := Rz) ⟨rfl, h0⟩)
      obtain ⟨k, hk, rfl⟩ := bnd_of (by omega) h1 h5
      obtain ⟨n, hn, rfl⟩ := rng_of (N := 2) (by decide) h3 h4
      simp only [ix_in (vp60 (show k < 60 by omega)), nI_cl (show k < 2147483648 by omega)]
      rw [show C 33 k = D 23 k from h.rd (p_cp (d := 23) (by decide) (by decide) (by omega)), show C 29 k = D 19 k from h.rd (p_cp (d := 19) (by decide) (by decide) (by omega)), show C 31 k = D 20 k from h.rd (p_cp (d := 20) (by decide) (by decide) (by omega)), h.tick_]
      rcases (show n = 0 ∨ n = 1 ∨ n = 2 by omega) with e | e | e <;> subst e <;> exact LR.ret (Q := Rz) ⟨rfl, h0⟩
    · rw [if_neg h4, if_pos (in_pos (Or.inr (Int32.not_le.mp h4)))]; exact hb
theorem lr_margin {C D : Mem} (h : Ix C D) (v1 v2 : Int32) : LR (fX7_margin v1 v2 C) (fX8_margin v1 v2 D) Rz := by
  have hb := lr_bad h
  have h0 := h
  obtain ⟨ns, g, cn, W, h⟩ := h
  unfold fX7_margin fX8_margin
  rw [h.isS]
  refine LR.ite Iff.rfl (fun _ => hb) (fun hs => ?_)
  obtain ⟨i, hi, rfl⟩ := h.sIn hs
  have := h.ns1
  refine LR.ite Iff.rfl (fun h1 => ?_) (fun _ => hb)
  rw [ix_in (vp6 (by omega)), ix_in (vp6 (by omega)), nI_cl (by omega), show C (11 + i) 7 = D 15 i from h.snd (d := 15) (by decide) (by decide) (by decide) (by omega)]
  have hno : rng 4 (D 15 i) := h.ok 15 i
  obtain ⟨q, hq, e⟩ := hno
  rw [e]
  refine LR.ite Iff.rfl (fun _ => LR.ret (Q := Rz) ⟨rfl, h0⟩) (fun h2 => ?_)
  obtain ⟨k, hk, rfl⟩ := bnd_of (n := q) (by omega) (Int32.not_lt.mpr h1) (Int32.not_le.mp h2)
  rw [if_neg (show ¬ (4 : Int32) ≤ nI k from fun z => by have := (nI_leI (a := 4) (b := k) (by decide) (by omega)).mp z; omega), ix_in (vp4 (by omega)), n4, ix_in (vp24 (by omega)), nI_cl (by omega), nI_cl (by omega)]
  refine LR.ret (Q := Rz) ⟨?_, h0⟩
  show C (11 + i + 6) k = D 16 (4 * i + k)
  rw [show 11 + i + 6 = 17 + i by omega]
  exact h.rd (p_marg (by omega) (by omega))
theorem lr_new {ns g cn s W : Nat} {C D : Mem} (h : Iz ns g cn s W C D) {i : Nat} (hi : i < 6) : ∃ C' D', fX3_becomeNew (11 + i) C = some C' ∧ fX8_comesNew (nI i) D = some D' ∧ Iz ns g cn s W C' D' := by
  have k1 := h.wr1 (p_snd (d := 9) (k := i) (by decide) (by decide) (by decide) hi) (by decide) (by decide) (v := 0) (show rng 5 0 from ⟨0, by decide, rfl⟩)
  have k2 := k1.wr1 (p_snd (d := 10) (k := i) (by decide) (by decide) (by decide) hi) (by decide) (by decide) (v := 4) (show rng 4 4 from ⟨4, by decide, rfl⟩)
  have k3 := k2.wr1 (p_snd (d := 11) (k := i) (by decide) (by decide) (by decide) hi) (by decide) (by decide) (v := 0) (show rng 63 0 from ⟨0, by decide, rfl⟩)
  have k4 := k3.wr1 (p_snd (d := 12) (k := i) (by decide) (by decide) (by decide) hi) (by decide) (by decide) (v := 0) (show rng 1 0 from ⟨0, by decide, rfl⟩)
  have k5 := k4.wr1 (p_snd (d := 13) (k := i) (by decide) (by decide) (by decide) hi) (by decide) (by decide) (v := -2) (Or.inl rfl)
  refine ⟨_, _, rfl, ?_, k5⟩
  unfold fX8_comesNew
  rw [ix_in (vp6 hi), nI_cl (by omega)]
  rfl
theorem lr_renews {C D : Mem} (h : Ix C D) (v1 : Int32) : LR (fX7_renews v1 C) (fX8_renews v1 D) Rz := by
  have hb := lr_bad h
  obtain ⟨ns, g, cn, W, h⟩ := h
  unfold fX7_renews fX8_renews
  rw [h.isS]
  refine LR.ite Iff.rfl (fun _ => hb) (fun hs => ?_)
  obtain ⟨i, hi, rfl⟩ := h.sIn hs
  have := h.ns1
  rw [ix_in (vp6 (by omega)), ix_in (vp6 (by omega)), nI_cl (by omega)]
  obtain ⟨C', D', e1, e2, k⟩ := lr_new h (i := i) (by omega)
  exact LR.bl1 e1 (LR.br1 e2 (LR.ret (Q := Rz) ⟨h.snd (d := 12) (by decide) (by decide) (by decide) (by omega), k.ix⟩))
theorem lr_gB {ns g cn W : Nat} {C D : Mem} (h : Iz ns g cn 0 W C D) {j n : Nat} (hj4 : j < 4) (hn : n ≤ 1) (v3 : Int32) : LR (ix (nI j) 4 (if nI n = 0 then (if nI n = 0 then wr C (24 + (nI j).toNatClampNeg) 0 v3 fun M40 => some (C (24 + (nI j).toNatClampNeg) 0, M40) else wr C (24 + (nI j).toNatClampNeg) 1 v3 fun M37 => some (C (24 + (nI j).toNatClampNeg) 0, M37)) else (if nI n = 0 then wr C (24 + (nI j).toNatClampNeg) 0 v3 fun M40 => some (C (24 + (nI j).toNatClampNeg) 1, M40) else wr C (24 + (nI j).toNatClampNeg) 1 v3 fun M37 => some (C (24 + (nI j).toNatClampNeg) 1, M37)))) (bnd2 (fX8_gateBecomes (nI j) (nI n) v3 D) fun t M => some (t, M)) Rz := by
  rw [ix_in (vp4 hj4)]
  unfold fX8_gateBecomes jn
  simp only [ix_in (vp4 hj4), nI_cl (show j < 2147483648 by omega)]
  rcases (show n = 0 ∨ n = 1 by omega) with e | e <;> subst e
  · have e1 : C (24 + j) 0 = D 2 j := h.gat (d := 2) (by decide) (by decide) hj4
    have k1 : Iz ns g cn 0 W (up2 C (24 + j) 0 v3) (up2 D 2 j v3) := h.wr1 (p_gate (d := 2) (by decide) (by decide) hj4) (by decide) (by decide) (v := v3) (by simp [okv])
    show LR (some (C (24 + j) 0, up2 C (24 + j) 0 v3)) (some (D 2 j, up2 (up2 D 2 j v3) 3 j (up2 D 2 j v3 3 j))) Rz
    rw [up2_self]
    exact LR.ret (Q := Rz) ⟨e1, k1.ix⟩
  · have e1 : C (24 + j) 1 = D 3 j := h.gat (d := 3) (by decide) (by decide) hj4
    have k1 : Iz ns g cn 0 W (up2 C (24 + j) 1 v3) (up2 D 3 j v3) := h.wr1 (p_gate (d := 3) (by decide) (by decide) hj4) (by decide) (by decide) (v := v3) (by simp [okv])
    show LR (some (C (24 + j) 1, up2 C (24 + j) 1 v3)) (some (D 3 j, up2 (up2 D 2 j (D 2 j)) 3 j v3)) Rz
    rw [up2_self]
    exact LR.ret (Q := Rz) ⟨e1, k1.ix⟩
theorem lr_gate {C D : Mem} (h : Ix C D) (v1 v2 v3 : Int32) : LR (fX7_gate v1 v2 v3 C) (fX8_gate v1 v2 v3 D) Rz := by
  have hb := lr_bad h
  obtain ⟨ns, g, cn, W, h⟩ := h
  unfold fX7_gate fX8_gate
  dsimp only [jn]
  rw [h.isG]
  refine LR.ite Iff.rfl (fun _ => hb) (fun hs => ?_)
  obtain ⟨j, hj, rfl⟩ := h.gIn hs
  have hg := h.g1
  have hj4 : j < 4 := by omega
  by_cases h3 : v2 < 0
  · rw [if_pos h3, if_pos (in_pos (Or.inl h3))]; exact hb
  · rw [if_neg h3]
    by_cases h4 : 1 < v2
    · rw [if_pos h4, if_pos (in_pos (Or.inr h4))]; exact hb
    · rw [if_neg h4, if_neg (in_neg h3 h4)]
      obtain ⟨n, hn, rfl⟩ := rng_of (N := 1) (by decide) h3 (Int32.not_lt.mp h4)
      have hX := lr_gB h hj4 hn v3
      by_cases h6 : v3 < 0
      · rw [if_pos h6]
        by_cases h7 : nI n = 0
        · rw [if_pos h7, if_pos (in_pos (Or.inl h6))]; exact hb
        · rw [if_neg h7, if_pos (in_pos (Or.inl h6))]; exact hb
      · rw [if_neg h6]
        refine LR.ite Iff.rfl (fun h7 => ?_) (fun h7 => ?_)
        · by_cases h8 : v3 ≤ 5
          · rw [if_pos h8, if_neg (in_neg h6 (Int32.not_lt.mpr h8))]; exact hX
          · rw [if_neg h8, if_pos (in_pos (Or.inr (Int32.not_le.mp h8)))]; exact hb
        · by_cases h8 : v3 ≤ 40
          · rw [if_pos h8, if_neg (in_neg h6 (Int32.not_lt.mpr h8))]; exact hX
          · rw [if_neg h8, if_pos (in_pos (Or.inr (Int32.not_le.mp h8)))]; exact hb
theorem most_eq (v : Int32) : fX7_mostOfSender v = fX8_mostOf v := rfl
theorem lr_sender {C D : Mem} (h : Ix C D) (v1 v2 v3 : Int32) : LR (fX7_sender v1 v2 v3 C) (fX8_sender v1 v2 v3 D) Rz := by
  have hb := lr_bad h
  obtain ⟨ns, g, cn, W, h⟩ := h
  unfold fX7_sender fX8_sender jn
  rw [h.isS, most_eq]
  refine LR.ite Iff.rfl (fun _ => hb) (fun hs => ?_)
  obtain ⟨i, hi, rfl⟩ := h.sIn hs
  have hns := h.ns1
  have hi6 : i < 6 := by omega
  by_cases h3 : v2 < 0
  · rw [if_pos h3, if_pos (in_pos (Or.inl h3))]; exact hb
  · rw [if_neg h3]
    by_cases h4 : 3 < v2
    · rw [if_pos h4, if_pos (in_pos (Or.inr h4))]; exact hb
    · rw [if_neg h4, if_neg (in_neg h3 h4)]
      obtain ⟨n, hn, rfl⟩ := rng_of (N := 3) (by decide) h3 (Int32.not_lt.mp h4)
      by_cases h6 : v3 < 0
      · rw [if_pos h6, if_pos (in_pos (Or.inl h6))]; exact hb
      · rw [if_neg h6]
        by_cases h8 : v3 ≤ fX8_mostOf (nI n)
        · rw [if_pos h8, if_neg (in_neg h6 (Int32.not_lt.mpr h8)), ix_in (vp6 hi6)]
          unfold fX3_change
          simp only [ix_in (vp6 hi6), nI_cl (show i < 2147483648 by omega)]
          rcases (show n = 0 ∨ n = 1 ∨ n = 2 ∨ n = 3 by omega) with e | e | e | e <;> subst e
          · have r := rng_of (N := 5) (by decide) h6 h8
            have k1 : Iz ns g cn 0 W (up2 C (11 + i) 0 v3) (up2 D 9 i v3) := h.wr1 (p_snd (d := 9) (by decide) (by decide) (by decide) hi6) (by decide) (by decide) (v := v3) r
            show LR (some (C (11 + i) 0, up2 C (11 + i) 0 v3)) (some (D 9 i, up2 D 9 i v3)) Rz
            exact LR.ret (Q := Rz) ⟨h.snd (d := 9) (by decide) (by decide) (by decide) hi6, k1.ix⟩
          · have r := rng_of (N := 4) (by decide) h6 h8
            have k1 : Iz ns g cn 0 W (up2 C (11 + i) 1 v3) (up2 D 10 i v3) := h.wr1 (p_snd (d := 10) (by decide) (by decide) (by decide) hi6) (by decide) (by decide) (v := v3) r
            show LR (some (C (11 + i) 1, up2 C (11 + i) 1 v3)) (some (D 10 i, up2 D 10 i v3)) Rz
            exact LR.ret (Q := Rz) ⟨h.snd (d := 10) (by decide) (by decide) (by decide) hi6, k1.ix⟩
          · have r := rng_of (N := 63) (by decide) h6 h8
            have k1 : Iz ns g cn 0 W (up2 C (11 + i) 2 v3) (up2 D 11 i v3) := h.wr1 (p_snd (d := 11) (by decide) (by decide) (by decide) hi6) (by decide) (by decide) (v := v3) r
            show LR (some (C (11 + i) 2, up2 C (11 + i) 2 v3)) (some (D 11 i, up2 D 11 i v3)) Rz
            exact LR.ret (Q := Rz) ⟨h.snd (d := 11) (by decide) (by decide) (by decide) hi6, k1.ix⟩
          · have r := rng_of (N := 1) (by decide) h6 h8
            have k1 : Iz ns g cn 0 W (up2 C (11 + i) 3 v3) (up2 D 12 i v3) := h.wr1 (p_snd (d := 12) (by decide) (by decide) (by decide) hi6) (by decide) (by decide) (v := v3) r
            show LR (some (C (11 + i) 3, up2 C (11 + i) 3 v3)) (some (D 12 i, up2 D 12 i v3)) Rz
            exact LR.ret (Q := Rz) ⟨h.snd (d := 12) (by decide) (by decide) (by decide) hi6, k1.ix⟩
        · rw [if_neg h8, if_pos (in_pos (Or.inr (Int32.not_le.mp h8)))]; exact hb
