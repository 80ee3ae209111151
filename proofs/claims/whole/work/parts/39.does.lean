/-! does -/
theorem vp40 {i : Nat} (h : i < 40) : vp_in (nI i) 40 := vp_in_nI h (by decide)
theorem fr_up {P : Nat → Nat → Prop} {M : Mem} {x k : Nat} {v : Int32} (h : ¬ P x k) : Fr P M (up2 M x k v) := fun c j hp => up2_or (fun e => h (by rw [← e.1, ← e.2]; exact hp))
theorem fr_rf {P : Nat → Nat → Prop} {M : Mem} : Fr P M M := fun _ _ _ => rfl
def Rc (ns g : Nat) (C D : Mem) : Int32 × Mem → Int32 × Mem → Prop := fun x y => x.1 = y.1 ∧ (∃ cn' W', Iz ns g cn' 0 W' x.2 y.2) ∧ Fr FC C x.2 ∧ Fr FM D y.2
theorem lr_carry {ns g cn W o : Nat} {C D : Mem} {k : Int32} (h : Iz ns g cn 0 W C D) (ho : o < 40) (hk0 : C 41 o = k) (hk : ¬ fX4_isKind k = 0)
    (hS : ¬ fX4_hasSender k = 0 → ∃ i, i < ns ∧ C 42 o = nI i ∧ D 0 41 = nI i) (hG : ¬ fX4_hasGate k = 0 → ∃ i, i < g ∧ C 43 o = nI i ∧ D 0 42 = nI i) (hN : ¬ fX4_hasNumber k = 0 → ∃ i, i ≤ 99 ∧ C 44 o = nI i ∧ D 0 43 = nI i) :
    LR (fX7_carryOut (nI o) C) (fX8_doesOrder k D) (Rc ns g C D) := by
  have hns := h.ns1
  have hg := h.g1
  unfold fX7_carryOut fX8_doesOrder
  rw [ix_in (vp40 ho), nI_cl (by omega), hk0]
  have e0 : Rc ns g C D ((0 : Int32), C) ((0 : Int32), D) := ⟨rfl, ⟨_, _, h⟩, fr_rf, fr_rf⟩
  rcases kinds hk with e | e | e | e | e | e | e <;> subst e
  · obtain ⟨n, hn, n1, n2⟩ := hN (by decide)
    rw [if_pos rfl, if_pos rfl, n1, n2]
    obtain ⟨⟨x1, x2⟩, ⟨y1, y2⟩, a, b, r, ⟨cn', W', hi⟩⟩ := lr_goBy (M := n) (by omega) h
    rw [a, b]
    exact LR.ret (Q := Rc ns g C D) ⟨r, ⟨cn', W', hi⟩, fr_fX2_passTicks a, fr_fX8_goBy b⟩
  · obtain ⟨n, hn, n1, n2⟩ := hN (by decide)
    obtain ⟨j, hj, j1, j2⟩ := hG (by decide)
    rw [if_neg (by decide), if_pos rfl, if_neg (by decide), if_pos rfl, n1, n2, j1, j2, ix_in (vp4 (by omega)), ix_in (vp4 (by omega)), nI_cl (by omega)]
    exact LR.ret (Q := Rc ns g C D) ⟨rfl, ⟨_, _, h.wr1 (p_gate (d := 3) (by decide) (by decide) (by omega)) (by decide) (by decide) (by simp [okv])⟩, fr_up (by unfold FC; omega), fr_up (by unfold FM; omega)⟩
  · obtain ⟨n, hn, n1, n2⟩ := hN (by decide)
    obtain ⟨j, hj, j1, j2⟩ := hG (by decide)
    obtain ⟨i, hi, i1, i2⟩ := hS (by decide)
    rw [if_neg (by decide), if_neg (by decide), if_pos rfl, if_neg (by decide), if_neg (by decide), if_pos rfl, n1, n2, j1, j2, i1, i2, n4, ix_in (vp6 (by omega)), ix_in (vp4 (by omega)), ix_in (vp24 (by omega)), nI_cl (by omega), nI_cl (by omega), nI_cl (by omega)]
    exact LR.ret (Q := Rc ns g C D) ⟨rfl, ⟨_, _, h.wr1 (p_gain (by omega) (by omega)) (by decide) (by decide) (by simp [okv])⟩, fr_up (by unfold FC; omega), fr_up (by unfold FM; omega)⟩
  · obtain ⟨n, hn, n1, n2⟩ := hN (by decide)
    obtain ⟨j, hj, j1, j2⟩ := hG (by decide)
    rw [if_neg (by decide), if_neg (by decide), if_neg (by decide), if_pos rfl, if_neg (by decide), if_neg (by decide), if_neg (by decide), if_neg (by decide), if_neg (by decide), if_neg (by decide), n1, n2, j1, j2, ix_in (vp4 (by omega)), ix_in (vp4 (by omega)), nI_cl (by omega)]
    exact LR.ret (Q := Rc ns g C D) ⟨rfl, ⟨_, _, h.wr1 (p_gate (d := 2) (by decide) (by decide) (by omega)) (by decide) (by decide) (by simp [okv])⟩, fr_up (by unfold FC; omega), fr_up (by unfold FM; omega)⟩
  · obtain ⟨i, hi, i1, i2⟩ := hS (by decide)
    rw [if_neg (show ¬ (114 : Int32) = 43 by decide), if_neg (show ¬ (114 : Int32) = 98 by decide), if_neg (show ¬ (114 : Int32) = 103 by decide), if_neg (show ¬ (114 : Int32) = 108 by decide), if_pos rfl, if_neg (show ¬ (114 : Int32) = 43 by decide), if_neg (show ¬ (114 : Int32) = 98 by decide), if_neg (show ¬ (114 : Int32) = 103 by decide), if_pos rfl, i1, i2, ix_in (vp6 (by omega)), ix_in (vp6 (by omega)), nI_cl (by omega)]
    refine LR.ite (sent_iff h (by omega)) (fun _ => LR.ret e0) (fun hse => ?_)
    obtain ⟨f1, f2⟩ := full_iff h
    by_cases q : fX2_isFull C = 0
    · rw [if_pos q, if_neg (f1.mp q)]
      obtain ⟨⟨x1, x2⟩, ⟨y1, y2⟩, a, b, r, ⟨cn', hi2⟩⟩ := lr_lastAgain h (i := i) (by omega) (f2 q) (fun z => hse ((sent_iff h (by omega)).mpr z))
      rw [a, b]
      exact LR.ret (Q := Rc ns g C D) ⟨rfl, ⟨cn', _, hi2⟩, fr_fX2_sendLastAgain a, fr_fX8_goes b⟩
    · rw [if_neg q, if_pos (Classical.not_not.mp (fun z => q (f1.mpr z)))]
      exact LR.ret e0
  · obtain ⟨i, hi, i1, i2⟩ := hS (by decide)
    rw [if_neg (show ¬ (115 : Int32) = 43 by decide), if_neg (show ¬ (115 : Int32) = 98 by decide), if_neg (show ¬ (115 : Int32) = 103 by decide), if_neg (show ¬ (115 : Int32) = 108 by decide), if_neg (show ¬ (115 : Int32) = 114 by decide), if_pos rfl, if_neg (show ¬ (115 : Int32) = 43 by decide), if_neg (show ¬ (115 : Int32) = 98 by decide), if_neg (show ¬ (115 : Int32) = 103 by decide), if_neg (show ¬ (115 : Int32) = 114 by decide), if_pos rfl, i1, i2]
    obtain ⟨f1, f2⟩ := full_iff h
    by_cases q : fX2_isFull C = 0
    · rw [if_pos q, if_neg (f1.mp q)]
      obtain ⟨⟨x1, x2⟩, ⟨y1, y2⟩, a, b, r, ⟨cn', hi2⟩⟩ := lr_next h (i := i) (by omega) (f2 q)
      rw [a, b]
      exact LR.ret (Q := Rc ns g C D) ⟨rfl, ⟨cn', _, hi2⟩, fr_fX2_sendNext a, fr_fX8_sendsNow b⟩
    · rw [if_neg q, if_pos (Classical.not_not.mp (fun z => q (f1.mpr z)))]
      exact LR.ret e0
  · obtain ⟨i, hi, i1, i2⟩ := hS (by decide)
    rw [if_neg (by decide), if_neg (by decide), if_neg (by decide), if_neg (by decide), if_neg (by decide), if_neg (by decide), if_neg (by decide), if_neg (by decide), if_neg (by decide), if_neg (by decide), if_neg (by decide), if_pos rfl, i1, i2, ix_in (vp6 (by omega)), nI_cl (by omega)]
    obtain ⟨C', D', a, b, hi2⟩ := lr_new h (i := i) (by omega)
    rw [a, b]
    exact LR.ret (Q := Rc ns g C D) ⟨rfl, ⟨_, _, hi2⟩, fr_fX3_becomeNew (by omega) a, fr_fX8_comesNew b⟩
section DE
variable {T : Nat → Int32} {z ns g : Nat}
theorem mT_f {C C' : Mem} (h : mT T z C) (hk : Fr FM C C') : mT T z C' := ⟨(hk 0 38 (by unfold FM; omega)).trans h.1, fun q hq => (hk 30 q (by unfold FM; omega)).trans (h.2 q hq)⟩
theorem lr_exec (hT : TOk T z) {N : Nat} (hN4 : N ≤ 40) (hN : ∀ o', o' < N → plc T z ns g o' < z ∧ (pPl T z ns g (plc T z ns g o')).2 = true) (hE : z ≤ plc T z ns g N) : ∀ m o cn W C D p v, o + m = N → Iz ns g cn 0 W C D → C 2 6 = nI N → (∀ o', o ≤ o' → o' < N → Good T z ns g o' C) → mT T z D → p ≤ z → D 0 39 = nI p → sk T z p = plc T z ns g o → ∀ n n', m < n → m < n' → LR (fX7_does_L36 n v (nI o) C) (fX8_goesThrough_L23 n' 1 v D) Rz := by
  intro m
  induction m with
  | zero =>
    intro o cn W C D p v ho h h6 hG hM hp h9 hs n n' hlt hlt'
    obtain ⟨n, rfl⟩ : ∃ k, n = k + 1 := ⟨n - 1, by omega⟩
    obtain ⟨n', rfl⟩ : ∃ k, n' = k + 1 := ⟨n' - 1, by omega⟩
    have : o = N := by omega
    subst this
    obtain ⟨D', a1, a2⟩ := m_stop hT hM hp h9 (by omega) 1 v n'
    rw [a1, fX7_does_L36, h6, if_pos ((le_nI (by omega) (by omega)).mpr (Nat.le_refl _))]
    exact LR.ret (Q := Rz) ⟨rfl, (h.congD a2).ix⟩
  | succ m ih =>
    intro o cn W C D p v ho h h6 hG hM hp h9 hs n n' hlt hlt'
    obtain ⟨n, rfl⟩ : ∃ k, n = k + 1 := ⟨n - 1, by omega⟩
    obtain ⟨n', rfl⟩ : ∃ k, n' = k + 1 := ⟨n' - 1, by omega⟩
    have hns := h.ns1
    have hg := h.g1
    obtain ⟨q1, q2⟩ := hN o (by omega)
    obtain ⟨p0, p1, p2, p3, p4, p5⟩ := pPl_ok (T := T) (by omega) (by omega) q1 q2
    obtain ⟨g1, g2, g3, g4⟩ := hG o (Nat.le_refl _) (by omega)
    rw [← hs] at q1 q2
    obtain ⟨D1, k1, k2, k3, k4, k5, k6⟩ := m_step hT hM h.nsI h.gI hp h9 q1 q2 1 v n'
    rw [hs] at k2 k3 k4 k5 k6
    rw [k6, if_neg (by decide), fX7_does_L36, h6, if_neg (fun q => by have := (le_nI (by omega) (by omega)).mp q; omega), if_neg (show ¬ (40 : Int32) ≤ nI o from nI_ge (b := 40) (by omega) (by decide)), nI_1]
    have hc := lr_carry (h.congD k1) (o := o) (by omega) g1 p0 (fun q => by
        obtain ⟨i, i1, i2⟩ := p1 q
        exact ⟨i, i1, by rw [g2]; exact i2, by rw [k3 q]; exact i2⟩) (fun q => by
        obtain ⟨i, i1, i2⟩ := p2 q
        exact ⟨i, i1, by rw [g3]; exact i2, by rw [k4 q]; exact i2⟩) (fun q => by
        obtain ⟨i, i1, i2⟩ := p3 q
        exact ⟨i, i1, by rw [g4]; exact i2, by rw [k5 q]; exact i2⟩)
    refine LR.b22 hc (fun x1 x2 y1 y2 r => ?_)
    obtain ⟨r1, ⟨cn', W', r2⟩, r3, r4⟩ := r
    change x1 = y1 at r1
    subst r1
    replace r3 : Fr FC C x2 := r3
    replace r4 : Fr FM D1 y2 := r4
    refine ih (o + 1) cn' W' x2 y2 (pPl T z ns g (plc T z ns g o)).1 _ (by omega) r2 ((r3 2 6 (by unfold FC; omega)).trans h6) (fun o' a b => ?_) (mT_f (mT_k hM k1) r4) p5 ((r4 0 39 (by unfold FM; omega)).trans k2) rfl n n' (by omega) (by omega)
    unfold Good
    rw [r3 41 o' (by unfold FC; omega), r3 42 o' (by unfold FC; omega), r3 43 o' (by unfold FC; omega), r3 44 o' (by unfold FC; omega)]
    exact hG o' (by omega) b
end DE
theorem neg10 : ∀ q, q < 128 → ¬ (0 : Int32) ≤ -10 - nI q := by decide +kernel
theorem dg_ne' (e : Nat) (he : e ≤ 120) : ¬ nI e = -1 := by
  intro q
  have : nI e < 0 := by rw [q]; decide
  exact nI_pos (by omega) this
theorem lr_does {C D : Mem} (h : Ix C D) : LR (fX7_does C) (fX8_does D) Rz := by
  obtain ⟨ns, g, cn, W, h⟩ := h
  have hns := h.ns1
  have hg := h.g1
  obtain ⟨z, hz, ez⟩ := h.sz
  have hT : TOk (D 30) z := ⟨hz, fun q hq => by
    have := h.ok 30 q
    obtain ⟨c, c1, c2⟩ := this rfl
    exact ⟨c, by omega, c2⟩⟩
  have hC : cT (D 30) z C := ⟨h.size_.trans ez, fun q hq => h.rd (p_txt hq)⟩
  have hM : mT (D 30) z D := ⟨ez, fun q hq => rfl⟩
  have s1 := sk_le (T := D 30) (Nat.zero_le z)
  have kC : cK C (up2 C 2 6 0) := fun c j q => up2_or (by omega)
  have kC2 : cK (up2 C 2 6 0) (cQ (up2 C 2 6 0) (sk (D 30) z 0)) := cK_q _ _
  have hC2 : cT (D 30) z (up2 C 2 6 0) := cT_k hC kC
  have kD : ∀ X : Mem, mT (D 30) z X → X 0 1 = nI ns → X 0 2 = nI g → ∃ X1, mT (D 30) z X1 ∧ X1 0 1 = nI ns ∧ X1 0 2 = nI g ∧ X1 0 39 = nI (sk (D 30) z 0) ∧ mK X X1 ∧ ∀ acts, fX8_goesThrough acts X = if z ≤ sk (D 30) z 0 then some (-10 - nI z, X1) else fX8_goesThrough_L23 FUEL acts 0 X1 := by
    intro X hX hX1 hX2
    have kX : mK X (up2 X 0 39 0) := fun c j q => up2_or (by omega)
    have hX0 := mT_k hX kX
    have e := m_here hT hX0 (Nat.zero_le z) (X 0 40) (X 0 41) (X 0 42) (X 0 43)
    have e0 : mQ (up2 X 0 39 0) 0 (X 0 40) (X 0 41) (X 0 42) (X 0 43) = up2 X 0 39 0 := by
      have := mQ_of (M := up2 X 0 39 0) (p := 0) (up2_at _ _ _ _)
      rw [up2_nk (by decide), up2_nk (by decide), up2_nk (by decide), up2_nk (by decide)] at this
      exact this
    rw [e0] at e
    have kX1 : mK X (mQ (up2 X 0 39 0) (sk (D 30) z 0) (X 0 40) (X 0 41) (X 0 42) (X 0 43)) := kX.trans mK_q
    refine ⟨_, mT_k hX kX1, (kX1 0 1 (by omega)).trans hX1, (kX1 0 2 (by omega)).trans hX2, mQ_39, kX1, fun acts => ?_⟩
    unfold fX8_goesThrough
    rw [wr_s, e, bnd2_s]
    by_cases q : z ≤ sk (D 30) z 0
    · rw [if_neg (show ¬ sk (D 30) z 0 < z by omega), if_pos rfl, if_pos q, (mT_k hX kX1).1]
    · rw [if_pos (show sk (D 30) z 0 < z by omega), if_neg (tx_ne hT (by omega)), if_neg q]
  unfold fX7_does fX8_does fX4_readOrders
  rw [h.ns_, h.g_, h.nsI, h.gI, wr_s, wr_s]
  have hcs := c_sk hT hC2 (Nat.zero_le z)
  rw [show cQ (up2 C 2 6 0) 0 = up2 (up2 C 2 6 0) 2 7 0 from rfl] at hcs
  rw [hcs, bnd1_s, cQ_7, cQ_k (by decide), hC2.1]
  obtain ⟨D1, d1, d2, d3, d4, d5, d6⟩ := kD D hM h.nsI h.gI
  rw [d6]
  by_cases q : z ≤ sk (D 30) z 0
  · rw [if_pos q, if_neg (show ¬ nI (sk (D 30) z 0) < nI z from fun w => by have := (lt_nI (by omega) (by omega)).mp w; omega), bnd2_s, bnd2_s, if_neg (dg_ne' z hz), if_neg (neg10 z (by omega))]
    exact LR.ret (Q := Rz) ⟨rfl, ((h.congC (kC.trans kC2)).congD d5).ix⟩
  · rw [if_neg q, if_pos (show nI (sk (D 30) z 0) < nI z from (lt_nI (by omega) (by omega)).mpr (by omega))]
    obtain ⟨N, t, C', c1, c2, c3, c4, c5, c6⟩ := c_loop (ns := ns) (g := g) hT (by omega) (by omega) 40 0 (cQ (up2 C 2 6 0) (sk (D 30) z 0)) (cT_k hC2 kC2) (cQ_7 _ _) ((cQ_k (by decide)).trans (up2_at _ _ _ _)) (by omega) s1 (by omega) (fun o' ho' => by omega) FUEL (fuel_gt _ (by decide))
    have c5' : ∀ o', o' < N → plc (D 30) z ns g o' < z ∧ (pPl (D 30) z ns g (plc (D 30) z ns g o')).2 = true := fun o' a => c5 o' (Nat.zero_le _) a
    have hE : plc (D 30) z ns g N < z → (pPl (D 30) z ns g (plc (D 30) z ns g N)).2 = false := fun w => by
      rcases c6 with c6 | c6
      · omega
      · exact c6.2.1
    have kk := (kC.trans kC2).trans c4
    obtain ⟨t2, D2, e1, e2, e3⟩ := m_loop0 hT (by omega) (by omega) c5' hE 0 N 0 D1 (sk (D 30) z 0) (by omega) d1 d2 d3 s1 d4 (sk_idem (Nat.zero_le z)) FUEL (fuel_gt _ (by omega))
    rw [show nI 0 = (0 : Int32) from rfl] at c3
    rw [c3, e1, bnd2_s, bnd2_s]
    rcases c6 with ⟨f1, f2, f3, f4⟩ | ⟨f1, f2, f3⟩
    · have e4 : t2 = 0 := by
        rcases e3 with e3 | e3
        · exact e3.2
        · omega
      subst e4
      subst f1
      rw [if_pos rfl, if_pos (by decide)]
      have kD2 := d5.trans e2
      obtain ⟨D3, m1, m2, m3, m4, m5, m6⟩ := kD D2 (mT_k hM kD2) ((kD2 0 1 (by omega)).trans h.nsI) ((kD2 0 2 (by omega)).trans h.gI)
      rw [m6, if_neg q]
      refine LR.b22 (lr_exec hT c2 c5' f2 N 0 cn W C' D3 (sk (D 30) z 0) 0 (by omega) ((h.congC kk).congD (kD2.trans m5)) f3 (fun o' a b => f4 o' b) m1 s1 m4 (sk_idem (Nat.zero_le z)) FUEL FUEL (fuel_gt _ (by omega)) (fuel_gt _ (by omega))) (fun x1 x2 y1 y2 r => LR.ret (Q := Rz) r)
    · have e4 : t2 = -10 - nI (pPl (D 30) z ns g (plc (D 30) z ns g N)).1 := by
        rcases e3 with e3 | e3
        · omega
        · exact e3.2
      have l2 := pPl_le (T := D 30) (ns := ns) (g := g) f1
      subst e4
      subst f3
      rw [if_neg (dg_ne' _ (by omega)), if_neg (neg10 _ (by omega))]
      exact LR.ret (Q := Rz) ⟨rfl, ((h.congC kk).congD (d5.trans e2)).ix⟩
