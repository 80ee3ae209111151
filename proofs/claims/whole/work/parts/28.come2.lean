theorem LR.jn0 {α β : Type} {Q : α → β → Prop} {K : Option α} {K' : Option β} {B : Option α → Option α} {B' : Option β → Option β} (hk : LR K K' Q) (hb : ∀ k k', LR k k' Q → LR (B k) (B' k') Q) : LR (jn K B) (jn K' B') Q := hb K K' hk
theorem lr_bring {ns g cn W c : Nat} {C D : Mem} (h : Iz ns g cn 0 W C D) (hc : c < cn) : LR (fX2_bring (nI c) C) (fX8_comes (nI c) D) (fun C' D' => ∃ W', Iz ns g cn 0 W' C' D') := by
  have hcn := h.cn1
  have hg := h.g1
  have c60 : c < 60 := by omega
  obtain ⟨i, hi, ei⟩ : rng 5 (D 19 c) := h.ok 19 c
  have hk : D 21 c = -1 ∨ rng 63 (D 21 c) := h.ok 21 c
  have ht : ¬ D 22 c < 0 := h.ok 22 c
  obtain ⟨j, hj, ej⟩ := h.2.2.2.2.1.2.2 c hc
  have r29 : C 29 c = D 19 c := h.rd (p_cp (d := 19) (by decide) (by decide) c60)
  have r30 : C 30 c = D 21 c := h.rd (p_cp (d := 21) (by decide) (by decide) c60)
  have r31 : C 31 c = D 20 c := h.rd (p_cp (d := 20) (by decide) (by decide) c60)
  have r32 : C 32 c = D 22 c := h.rd (p_cp (d := 22) (by decide) (by decide) c60)
  have hW := h.win.2.1
  unfold fX2_bring fX8_comes fX6_find fX8_windowOf
  rw [ix_in (vp60 c60), ix_in (vp60 c60), nI_cl (by omega), r29, r30, r31, r32, ei]
  obtain ⟨r, e1, e2, e3⟩ := search h (nI i) (D 21 c) W 0 (by omega) FUEL (fuel_gt W (by omega))
  rw [show (nI 0 : Int32) = 0 from rfl] at e1 e2
  rw [e1, e2, bnd1_s, bnd1_s]
  rcases e3 with ⟨rfl, hno⟩ | ⟨w', hw', rfl⟩
  · rw [if_pos rfl, if_pos rfl]
    have hno' : ∀ w, w < W → ¬ (D 24 w = nI i ∧ D 25 w = D 21 c) := fun w hw => hno w (by omega) hw
    refine LR.jn0 ?_ (fun k k' hkk => ?_)
    · have hroom := win_room h (by omega) hk hno'
      have hcnt : D 0 28 = nI W := h.win.2.2.2.1
      obtain ⟨C1, C2, o1, o2, o3, o4⟩ := open_hear (a := nI i) (b := D 21 c) (u := C 1 3) (j := j) h.win.2.2.1 hroom (by omega) ht
      rw [o1, bnd1_s, o2 31 (by decide), o2 32 (by decide), r31, r32, ej, o3, bnd1_s]
      dsimp only [wr]
      simp only [up2_nx (show (0 : Nat) ≠ 24 by decide), up2_nx (show (0 : Nat) ≠ 25 by decide), up2_nx (show (0 : Nat) ≠ 26 by decide), up2_nx (show (0 : Nat) ≠ 27 by decide), up2_nx (show (21 : Nat) ≠ 24 by decide), up2_nx (show (20 : Nat) ≠ 24 by decide), up2_nx (show (20 : Nat) ≠ 25 by decide), up2_nx (show (20 : Nat) ≠ 26 by decide), up2_nx (show (20 : Nat) ≠ 27 by decide), up2_nx (show (22 : Nat) ≠ 24 by decide), up2_nx (show (22 : Nat) ≠ 25 by decide), up2_nx (show (22 : Nat) ≠ 26 by decide), up2_nx (show (22 : Nat) ≠ 27 by decide), hcnt, ix_in (vp390 hroom), nI_cl (show W < 2147483648 by omega), ej]
      rw [hearsIn_new (up2_at _ _ _ _) hroom (by omega), bnd1_s]
      simp only [up2_nx (show (0 : Nat) ≠ 27 by decide), up2_nx (show (0 : Nat) ≠ 28 by decide), up2_nx (show (0 : Nat) ≠ 24 by decide), up2_nx (show (0 : Nat) ≠ 25 by decide), up2_nx (show (0 : Nat) ≠ 26 by decide), hcnt, nI_1]
      rw [← h.tick_]
      exact LR.ret ⟨W + 1, new_win h (by omega) hj hk ht hno' o4⟩
    · by_cases q : D 21 c = -1
      · rw [if_pos q, if_pos q]; exact hkk
      · have hk2 := hk.resolve_left q
        rw [if_neg q, if_neg q, ix_in (vp6 (by omega)), nI_cl (by omega), due_eq h (by omega) hk2, bnd1_s]
        refine LR.ite Iff.rfl (fun _ => ?_) (fun _ => hkk)
        have e9 : C 1 12 = D 29 2 := h.rd (p_sum (k := 2) (by decide))
        show LR (some (up2 C 1 12 (C 1 12 + 1))) (some (up2 D 29 2 (D 29 2 + 1))) _
        rw [e9]
        exact LR.ret ⟨W, h.wr1 (p_sum (k := 2) (by decide)) (by decide) (by decide) (by simp [okv])⟩
  · have hne : ¬ nI w' = -1 := fun z => by
      have := nI_pos (n := w') (by omega)
      rw [z] at this; exact this m1_neg
    rw [if_neg hne, if_neg hne, ej]
    have e9 : C 1 15 = D 29 5 := h.rd (p_sum (k := 5) (by decide))
    have k1 : Iz ns g cn 0 W (up2 C 1 15 (D 29 5 + 1)) (up2 D 29 5 (D 29 5 + 1)) := h.wr1 (p_sum (k := 5) (by decide)) (by decide) (by decide) (by simp [okv])
    obtain ⟨Dx, y1, -, -⟩ := lr_hear h hw' hj ht
    obtain ⟨D', x1, x2, x3⟩ := lr_hear k1 hw' hj ht
    rw [y1, bnd1_s]
    dsimp only [wr]
    show LR _ (bnd1 (fX8_hearsIn (nI w') (up2 D 29 5 (D 29 5 + 1) 20 c) (up2 D 29 5 (D 29 5 + 1) 22 c) (up2 D 29 5 (D 29 5 + 1))) _) _
    rw [up2_nx (show (20 : Nat) ≠ 29 by decide), up2_nx (show (22 : Nat) ≠ 29 by decide), ej, x2, bnd1_s, up2_nx (show (1 : Nat) ≠ 38 by decide), e9, up2_comm (by omega)]
    rw [up2_nx (show (38 : Nat) ≠ 1 by decide)] at x3
    exact LR.ret ⟨W, x3⟩
/-- five rows of a copy's place written -/
theorem Iz.put5 {ns g cn s W : Nat} {C D : Mem} (h : Iz ns g cn s W C D) {k0 : Nat} (hc : k0 < 60) {i j : Nat} (hi : i < 6) (hj : j < g) {key t u : Int32} (hk : key = -1 ∨ rng 63 key) (ht : ¬ t < 0) :
    Iz ns g cn s W (up2 (up2 (up2 (up2 (up2 C 29 k0 (nI i)) 30 k0 key) 31 k0 (nI j)) 32 k0 t) 33 k0 u) (up2 (up2 (up2 (up2 (up2 D 19 k0 (nI i)) 20 k0 (nI j)) 21 k0 key) 22 k0 t) 23 k0 u) := by
  obtain ⟨h1, h2, h3, h4, h5, h6⟩ := h
  refine ⟨?_, ?_, ?_, ?_, ?_, ?_⟩
  · rw [up2_comm (M := up2 C 29 k0 (nI i)) (by omega)]
    exact ((((h1.wr (p_cp (d := 19) (by decide) (by decide) hc) _).wr (p_cp (d := 20) (by decide) (by decide) hc) _).wr (p_cp (d := 21) (by decide) (by decide) hc) _).wr (p_cp (d := 22) (by decide) (by decide) hc) _).wr (p_cp (d := 23) (by decide) (by decide) hc) _
  · refine ((((h2.wr ?_).wr ?_).wr ?_).wr ?_).wr ?_
    · exact ⟨i, by omega, rfl⟩
    · exact fun q => by cases q
    · exact hk
    · exact ht
    · exact fun q => by cases q
  · rw [up2_row (by decide), up2_row (by decide), up2_row (by decide), up2_row (by decide), up2_row (by decide)]; exact h3
  · rw [up2_row (by decide), up2_row (by decide), up2_row (by decide), up2_row (by decide), up2_row (by decide)]; exact h4
  · rw [up2_row (by decide), up2_row (by decide), up2_row (by decide), up2_row (by decide), up2_row (by decide)]
    refine ⟨h5.1, h5.2.1, fun k hk2 => ?_⟩
    rw [up2_row (by decide), up2_row (by decide), up2_row (by decide)]
    by_cases e : k = k0
    · subst e; exact ⟨j, hj, up2_at _ _ _ _⟩
    · rw [up2_nk e, up2_row (by decide)]
      exact h5.2.2 k hk2
  · refine h6.cong (fun x hx hy => ?_) ?_ (fun x hx hy => ?_) ?_
    · rw [up2_row (by omega), up2_row (by omega), up2_row (by omega), up2_row (by omega), up2_row (by omega)]
    · rw [up2_nx (by decide), up2_nx (by decide), up2_nx (by decide), up2_nx (by decide), up2_nx (by decide)]
    · rw [up2_row (by omega), up2_row (by omega), up2_row (by omega), up2_row (by omega), up2_row (by omega)]
    · rw [up2_nx (by decide), up2_nx (by decide), up2_nx (by decide), up2_nx (by decide), up2_nx (by decide)]
theorem Iz.cnt {ns g cn s W : Nat} {C D : Mem} (h : Iz ns g cn s W C D) {k0 : Nat} (hk : k0 ≤ cn) : Iz ns g k0 s W (up2 C 28 5 (nI k0)) (up2 D 0 22 (nI k0)) := by
  obtain ⟨h1, h2, h3, h4, h5, h6⟩ := h
  refine ⟨h1.wr p_cn _, h2.wr (show okv 0 22 _ from fun q => by cases q), ?_, ?_, ⟨up2_at _ _ _ _, by omega, fun k hk2 => ?_⟩, ?_⟩
  · rw [up2_nk (by decide)]; exact h3
  · rw [up2_nk (by decide)]; exact h4
  · rw [up2_row (by decide)]; exact h5.2.2 k (by omega)
  · exact h6.cong (fun x hx hy => up2_row (by omega)) (up2_nx (by decide)) (fun x hx hy => up2_row (by omega)) (up2_nk (by decide))
theorem lr_come_L {ns g cn : Nat} : ∀ m c left W C D, Iz ns g cn 0 W C D → c + m = cn → left ≤ c → ∀ n, m < n → LR (fX2_bringCopies_L4 n (nI left) (nI c) C) (fX8_allCome_L4 n (nI left) (nI c) D) (fun x y => ∃ k0 W', k0 ≤ cn ∧ x.1 = nI k0 ∧ y.1 = nI k0 ∧ Iz ns g cn 0 W' x.2 y.2) := by
  intro m
  induction m with
  | zero =>
    intro c left W C D h hc hl n hn
    obtain ⟨n, rfl⟩ : ∃ k, n = k + 1 := ⟨n - 1, by omega⟩
    have hcn := h.cn1
    rw [fX2_bringCopies_L4, fX8_allCome_L4, h.cn_, h.cnI, if_pos (nI_le (by omega) (by omega)), if_pos (nI_le (by omega) (by omega))]
    exact LR.ret ⟨left, W, by omega, rfl, rfl, h⟩
  | succ m ih =>
    intro c left W C D h hc hl n hn
    obtain ⟨n, rfl⟩ : ∃ k, n = k + 1 := ⟨n - 1, by omega⟩
    have hcn := h.cn1
    have c60 : c < 60 := by omega
    rw [fX2_bringCopies_L4, fX8_allCome_L4, h.cn_, h.cnI, if_neg (nI_ge (by omega) (by omega)), if_neg (nI_ge (by omega) (by omega)), ix_in (vp60 c60), ix_in (vp60 c60), nI_cl (by omega), show C 33 c = D 23 c from h.rd (p_cp (d := 23) (by decide) (by decide) c60), h.tick_, nI_1]
    refine LR.ite Iff.rfl (fun _ => ?_) (fun _ => ?_)
    · refine LR.b11 (lr_bring h (by omega)) (fun C1 D1 r => ?_)
      obtain ⟨W', k⟩ := r
      exact ih (c + 1) left W' C1 D1 k (by omega) (by omega) n (by omega)
    · obtain ⟨i, hi, ei⟩ : rng 5 (D 19 c) := h.ok 19 c
      have hk : D 21 c = -1 ∨ rng 63 (D 21 c) := h.ok 21 c
      have ht : ¬ D 22 c < 0 := h.ok 22 c
      obtain ⟨j, hj, ej⟩ := h.2.2.2.2.1.2.2 c (by omega)
      have r29 : C 29 c = D 19 c := h.rd (p_cp (d := 19) (by decide) (by decide) c60)
      have r30 : C 30 c = D 21 c := h.rd (p_cp (d := 21) (by decide) (by decide) c60)
      have r31 : C 31 c = D 20 c := h.rd (p_cp (d := 20) (by decide) (by decide) c60)
      have r32 : C 32 c = D 22 c := h.rd (p_cp (d := 22) (by decide) (by decide) c60)
      have r33 : C 33 c = D 23 c := h.rd (p_cp (d := 23) (by decide) (by decide) c60)
      unfold fX0_move
      rw [ix_in (vp60 c60), ix_in (vp60 (show left < 60 by omega)), ix_in (vp60 (show left < 60 by omega)), nI_cl (show left < 2147483648 by omega), nI_cl (show c < 2147483648 by omega)]
      dsimp only [wr]
      rw [bnd1_s, nI_1]
      simp only [up2_nx (show (30 : Nat) ≠ 29 by decide), up2_nx (show (31 : Nat) ≠ 29 by decide), up2_nx (show (31 : Nat) ≠ 30 by decide), up2_nx (show (32 : Nat) ≠ 29 by decide), up2_nx (show (32 : Nat) ≠ 30 by decide), up2_nx (show (32 : Nat) ≠ 31 by decide), up2_nx (show (33 : Nat) ≠ 29 by decide), up2_nx (show (33 : Nat) ≠ 30 by decide), up2_nx (show (33 : Nat) ≠ 31 by decide), up2_nx (show (33 : Nat) ≠ 32 by decide), up2_nx (show (20 : Nat) ≠ 19 by decide), up2_nx (show (21 : Nat) ≠ 19 by decide), up2_nx (show (21 : Nat) ≠ 20 by decide), up2_nx (show (22 : Nat) ≠ 19 by decide), up2_nx (show (22 : Nat) ≠ 20 by decide), up2_nx (show (22 : Nat) ≠ 21 by decide), up2_nx (show (23 : Nat) ≠ 19 by decide), up2_nx (show (23 : Nat) ≠ 20 by decide), up2_nx (show (23 : Nat) ≠ 21 by decide), up2_nx (show (23 : Nat) ≠ 22 by decide), r29, r30, r31, r32, r33, ei, ej]
      exact ih (c + 1) (left + 1) W _ _ (h.put5 (show left < 60 by omega) (by omega) hj hk ht) (by omega) (by omega) n (by omega)
theorem lr_come {ns g cn W : Nat} {C D : Mem} (h : Iz ns g cn 0 W C D) : LR (fX2_bringCopies C) (fX8_allCome D) (fun x y => ∃ cn' W', Iz ns g cn' 0 W' x y) := by
  have hcn := h.cn1
  unfold fX2_bringCopies fX8_allCome
  obtain ⟨⟨x1, C1⟩, ⟨y1, D1⟩, e1, e2, k0, W', hk, q1, q2, q3⟩ := lr_come_L cn 0 0 W C D h (by omega) (by omega) FUEL (fuel_gt cn (by omega))
  rw [show (nI 0 : Int32) = 0 from rfl] at e1 e2
  dsimp only at q1 q2 q3
  rw [e1, e2, bnd2_s, bnd2_s, q1, q2]
  exact LR.ret ⟨k0, W', q3.cnt hk⟩
