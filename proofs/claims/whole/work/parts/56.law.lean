/-! the start of the relation, the law's cases, its loop -/
def D0c : Mem := fun x => match x with
  | 0 => (fun k => match k with
    | 1 => 3
    | 2 => 2
    | 3 => 3
    | _ => 0)
  | 3 => (upd (upd (upd (upd (fun _ => 0) 0 10) 1 10) 2 10) 3 10)
  | 8 => (upd (upd (upd (upd (upd (upd (upd (upd (upd (upd (upd (upd (upd (upd (upd (upd (upd (upd (upd (upd (upd (upd (upd (upd (fun _ => 0) 0 20) 1 20) 2 20) 3 20) 4 20) 5 20) 6 20) 7 20) 8 20) 9 20) 10 20) 11 20) 12 20) 13 20) 14 20) 15 20) 16 20) 17 20) 18 20) 19 20) 20 20) 21 20) 22 20) 23 20)
  | 10 => (upd (upd (upd (upd (upd (upd (fun _ => 0) 0 4) 1 4) 2 4) 3 4) 4 4) 5 4)
  | 13 => (upd (upd (upd (upd (upd (upd (fun _ => 0) 0 (-2)) 1 (-2)) 2 (-2)) 3 (-2)) 4 (-2)) 5 (-2))
  | 14 => (upd (upd (upd (upd (upd (upd (fun _ => 0) 0 63) 1 63) 2 63) 3 63) 4 63) 5 63)
  | _ => fun _ => 0
theorem layX8_eq (cA : Nat → ClassId) (h0 : Nat) (u : List Nat) : layX8 cA h0 u = wW shM (adz (h0 :: u)) cA D0c := rfl
def chk0 (d k : Nat) : Bool := match pos d k with
  | none => true
  | some q => decide (cRs q.1 q.2 (C0c q.1 q.2) = D0c d k)
theorem chk0_all : ∀ d, d < 31 → ∀ k, k < 120 → chk0 d k = true := by decide +kernel
theorem ok_0 (d k : Nat) : okv d k 0 := by
  have r : ∀ N, rng N 0 := fun N => ⟨0, Nat.zero_le _, rfl⟩
  by_cases h0 : d = 0
  · subst h0; exact fun _ => r 120
  by_cases h9 : d = 9
  · subst h9; exact r 5
  by_cases h10 : d = 10
  · subst h10; exact r 4
  by_cases h11 : d = 11
  · subst h11; exact r 63
  by_cases h12 : d = 12
  · subst h12; exact r 1
  by_cases h13 : d = 13
  · subst h13; exact Or.inr (Or.inr (r 63))
  by_cases h14 : d = 14
  · subst h14; exact r 63
  by_cases h15 : d = 15
  · subst h15; exact r 4
  by_cases h16 : d = 16
  · subst h16; exact (by decide : ¬ (0 : Int32) < 0)
  by_cases h19 : d = 19
  · subst h19; exact r 5
  by_cases h21 : d = 21
  · subst h21; exact Or.inr (r 63)
  by_cases h22 : d = 22
  · subst h22; exact (by decide : ¬ (0 : Int32) < 0)
  by_cases h30 : d = 30
  · subst h30; exact fun _ => r 127
  exact okT h0 h9 h10 h11 h12 h13 h14 h15 h16 h19 h21 h22 h30
theorem upd_two {f : Nat → Int32} {v : Int32} {i : Nat} (h : ∀ k, f k = 0 ∨ f k = v) (k : Nat) : upd f i v k = 0 ∨ upd f i v k = v := by
  unfold upd
  by_cases e : k = i
  · rw [if_pos e]; exact Or.inr rfl
  · rw [if_neg e]; exact h k
theorem ok_D0 : Okv D0c := by
  intro d k
  by_cases h10 : d = 10
  · subst h10
    have e0 : D0c 10 k = 0 ∨ D0c 10 k = 4 := upd_two (upd_two (upd_two (upd_two (upd_two (upd_two (fun _ => Or.inl rfl)))))) k
    rcases e0 with e | e
    · rw [e]; exact ok_0 _ _
    · rw [e]; exact ⟨4, by decide, rfl⟩
  by_cases h13 : d = 13
  · subst h13
    have e0 : D0c 13 k = 0 ∨ D0c 13 k = -2 := upd_two (upd_two (upd_two (upd_two (upd_two (upd_two (fun _ => Or.inl rfl)))))) k
    rcases e0 with e | e
    · rw [e]; exact ok_0 _ _
    · rw [e]; exact Or.inl rfl
  by_cases h14 : d = 14
  · subst h14
    have e0 : D0c 14 k = 0 ∨ D0c 14 k = 63 := upd_two (upd_two (upd_two (upd_two (upd_two (upd_two (fun _ => Or.inl rfl)))))) k
    rcases e0 with e | e
    · rw [e]; exact ok_0 _ _
    · rw [e]; exact ⟨63, by decide, rfl⟩
  by_cases h0 : d = 0
  · subst h0
    intro hk
    subst hk
    exact ⟨0, by decide, rfl⟩
  by_cases h9 : d = 9
  · subst h9; exact ok_0 9 k
  by_cases h11 : d = 11
  · subst h11; exact ok_0 11 k
  by_cases h12 : d = 12
  · subst h12; exact ok_0 12 k
  by_cases h15 : d = 15
  · subst h15; exact ok_0 15 k
  by_cases h16 : d = 16
  · subst h16; exact ok_0 16 k
  by_cases h19 : d = 19
  · subst h19; exact ok_0 19 k
  by_cases h21 : d = 21
  · subst h21; exact ok_0 21 k
  by_cases h22 : d = 22
  · subst h22; exact ok_0 22 k
  by_cases h30 : d = 30
  · subst h30; exact ok_0 30 k
  exact okT h0 h9 h10 h11 h12 h13 h14 h15 h16 h19 h21 h22 h30
theorem ix0 : Ix C1c D0c := by
  obtain ⟨C', e1, h1⟩ := anew_ok C0c
  have e2 : C' = C1c := Option.some.inj (e1.symm.trans C1c_is)
  subst e2
  refine ⟨3, 2, 0, 0, fun d k c j hp => ?_, ok_D0, ⟨rfl, by decide, by decide⟩, ⟨rfl, by decide, by decide⟩, ⟨rfl, by decide, fun k hk => absurd hk (Nat.not_lt_zero _)⟩, ⟨Nat.le_refl _, by decide, ?_, rfl, fun w hw => absurd hw (Nat.not_lt_zero _), fun w1 w2 _ h4 => absurd h4 (Nat.not_lt_zero _)⟩⟩
  · obtain ⟨a, b⟩ := pos_dom hp
    have h3 := chk0_all d a k b
    unfold chk0 at h3
    rw [hp] at h3
    rw [h1]
    exact of_decide_eq_true h3
  · rw [h1]; rfl
/-- the two pictures in the law's heap -/
def Lw (D : va_G) (cA : Nat → ClassId) (ad ad' : Nat → Nat) (s : State) (C M : Mem) (H : Heap) (locs : List Loc) : Prop :=
  va_P D cls9 (wW shC ad cA C) H ∧ va_P D cls9 (wW shM ad' cA M) H ∧ va_S (fun q : Nat => s.heap.size ≤ q) s.heap H locs ∧ Ix C M
def Lf (D : va_G) (cA : Nat → ClassId) (ad ad' : Nat → Nat) (s : State) (b L : Nat) (xs : Nat → Int32) : Prop :=
  va_D (fun q : Nat => s.heap.size ≤ q) (wW shC ad cA C1c) ∧ va_D (fun q : Nat => s.heap.size ≤ q) (wW shM ad' cA D0c) ∧ (∀ q, Az shC ad q → ¬ Az shM ad' q) ∧ va_X b L xs s s.heap ∧ b < s.heap.size ∧ L ≤ 2048
theorem w_keep {D : va_G} {cA : Nat → ClassId} {sh sh' : List Sh} {ad ad' : Nat → Nat} {M : Mem} {H H1 : Heap} (h2 : va_P D cls9 (wW sh' ad' cA M) H) (hdis : ∀ q, Az sh' ad' q → ¬ Az sh ad q) (hk : ∀ q : Nat, q < H.size → ¬ Az sh ad q → H1[q]? = H[q]?) : va_P D cls9 (wW sh' ad' cA M) H1 := by
  refine h2.kept (fun k q hq => hk q.1 (h2 k q hq).lt (hdis q.1 ?_))
  rw [wW_at] at hq
  cases hs : sh'[k]? with
  | none => rw [hs] at hq; cases hq
  | some z =>
    rw [hs] at hq
    cases hq
    exact ⟨k, (List.getElem?_eq_some_iff.mp hs).1, rfl⟩
section LW
variable {p : Program} {l : Launch} {e : Env} {s : State} {m : MethodId} {below : List Frame} {meth : Method} {c : Code} {H : Heap} {locs : List Loc} {Q : State → Prop} {cells slots : Nat} {D : va_G} {cA : Nat → ClassId} {ad ad' : Nat → Nat} {b L : Nat} {xs : Nat → Int32} {ls : Array Slot} {i : Nat} {rest : List Value} {pc : Nat} {C M : Mem}
theorem l_arg (F : Fx D cA RL cL_law 4 ret p s m #[Value.ref b] meth c) (hf : Lf D cA ad ad' s b L xs) (hS : va_S (fun q : Nat => s.heap.size ≤ q) s.heap H locs) (hl : lv_has ls 4 [(3, .int (nI i)), (2, .ref (ad' 0)), (1, .ref (ad 0)), (0, .ref b)]) {J : Nat} {n : Int} (hi : i + J < L) (d1 : decode cL_law pc = .ok (.aload_n 0, 1)) (d2 : decode cL_law (pc + 1) = .ok (.iload_n 3, 1)) (d3 : decode cL_law (pc + 2) = .ok (.iconst n, 1)) (hn : Int32.ofInt n = nI J) (d4 : decode cL_law (pc + 3) = .ok (.iadd, 1)) (d5 : decode cL_law (pc + 4) = .ok (.iaload, 1))
    (kk : W p l e room_1 s m #[Value.ref b] below meth c H locs cells slots Q (F0 m (pc + 5) ls (.int (xs (i + J)) :: rest))) : W p l e room_1 s m #[Value.ref b] below meth c H locs cells slots Q (F0 m pc ls rest) := by
  obtain ⟨-, -, -, hX, hbl, hL⟩ := hf
  refine lv_aload_n F.1 F.2.1 d1 rfl (lv_at hl 3 rfl) ?_
  refine lv_iload_n F.1 F.2.1 d2 rfl (lv_at hl 0 rfl) ?_
  refine lv_iconst (v := nI J) F.1 F.2.1 d3 hn ?_
  refine lv_iadd F.1 F.2.1 d4 ?_
  rw [nI_add]
  refine va_sld F.1 F.2.1 hX hbl (Nat.not_le.mpr hbl) hS (vp_in_nI hi (by omega)) d5 ?_
  rw [nI_cl (by omega)]
  exact kk

theorem cwL_13 : Cw RL 13 yX7_sets cX7_sets 4 (some .int) RX7 2 := ⟨⟨kw_383, kw_384, kw_385, kw_64, kw_386⟩, rfl, by decide, by decide, by decide +kernel⟩
theorem cwL_17 : Cw RL 17 yX8_sets cX8_sets 4 (some .int) RX8 2 := ⟨⟨kw_855, kw_856, kw_857, kw_73, kw_858⟩, rfl, by decide, by decide, by decide +kernel⟩
theorem cwL_18 : Cw RL 18 yX7_gate cX7_gate 6 (some .int) RX7 3 := ⟨⟨kw_398, kw_399, kw_400, kw_64, kw_401⟩, rfl, by decide, by decide, by decide +kernel⟩
theorem cwL_22 : Cw RL 22 yX8_gate cX8_gate 4 (some .int) RX8 3 := ⟨⟨kw_874, kw_875, kw_876, kw_73, kw_877⟩, rfl, by decide, by decide, by decide +kernel⟩
theorem cwL_23 : Cw RL 23 yX7_gain cX7_gain 5 (some .int) RX7 3 := ⟨⟨kw_406, kw_407, kw_408, kw_64, kw_409⟩, rfl, by decide, by decide, by decide +kernel⟩
theorem cwL_26 : Cw RL 26 yX8_gain cX8_gain 5 (some .int) RX8 3 := ⟨⟨kw_886, kw_887, kw_888, kw_73, kw_889⟩, rfl, by decide, by decide, by decide +kernel⟩
theorem cwL_27 : Cw RL 27 yX7_draw cX7_draw 2 (some .int) RX7 1 := ⟨⟨kw_414, kw_415, kw_416, kw_64, kw_417⟩, rfl, by decide, by decide, by decide +kernel⟩
theorem cwL_31 : Cw RL 31 yX8_draw cX8_draw 7 (some .int) RX8 1 := ⟨⟨kw_894, kw_895, kw_896, kw_73, kw_897⟩, rfl, by decide, by decide, by decide +kernel⟩
theorem cwL_32 : Cw RL 32 yX7_sender cX7_sender 4 (some .int) RX7 3 := ⟨⟨kw_428, kw_429, kw_430, kw_64, kw_431⟩, rfl, by decide, by decide, by decide +kernel⟩
theorem cwL_35 : Cw RL 35 yX8_sender cX8_sender 5 (some .int) RX8 3 := ⟨⟨kw_904, kw_905, kw_906, kw_73, kw_907⟩, rfl, by decide, by decide, by decide +kernel⟩
theorem cwL_36 : Cw RL 36 yX7_sends cX7_sends 2 (some .int) RX7 1 := ⟨⟨kw_443, kw_444, kw_445, kw_64, kw_446⟩, rfl, by decide, by decide, by decide +kernel⟩
theorem cwL_39 : Cw RL 39 yX8_sends cX8_sends 2 (some .int) RX8 1 := ⟨⟨kw_911, kw_912, kw_913, kw_73, kw_914⟩, rfl, by decide, by decide, by decide +kernel⟩
theorem cwL_40 : Cw RL 40 yX7_again cX7_again 2 (some .int) RX7 1 := ⟨⟨kw_475, kw_476, kw_477, kw_64, kw_478⟩, rfl, by decide, by decide, by decide +kernel⟩
theorem cwL_43 : Cw RL 43 yX8_again cX8_again 2 (some .int) RX8 1 := ⟨⟨kw_935, kw_936, kw_937, kw_73, kw_938⟩, rfl, by decide, by decide, by decide +kernel⟩
theorem cwL_44 : Cw RL 44 yX7_ticks cX7_ticks 2 (some .int) RX7 1 := ⟨⟨kw_491, kw_492, kw_493, kw_64, kw_494⟩, rfl, by decide, by decide, by decide +kernel⟩
theorem cwL_47 : Cw RL 47 yX8_ticks cX8_ticks 2 (some .int) RX8 1 := ⟨⟨kw_947, kw_948, kw_949, kw_73, kw_950⟩, rfl, by decide, by decide, by decide +kernel⟩
theorem cwL_48 : Cw RL 48 yX7_renews cX7_renews 3 (some .int) RX7 1 := ⟨⟨kw_591, kw_592, kw_593, kw_64, kw_594⟩, rfl, by decide, by decide, by decide +kernel⟩
theorem cwL_51 : Cw RL 51 yX8_renews cX8_renews 3 (some .int) RX8 1 := ⟨⟨kw_943, kw_944, kw_945, kw_73, kw_946⟩, rfl, by decide, by decide, by decide +kernel⟩
theorem cwL_52 : Cw RL 52 yX7_of cX7_of 3 (some .int) RX7 2 := ⟨⟨kw_596, kw_597, kw_598, kw_64, kw_599⟩, rfl, by decide, by decide, by decide +kernel⟩
theorem cwL_55 : Cw RL 55 yX8_of cX8_of 3 (some .int) RX8 2 := ⟨⟨kw_1011, kw_1012, kw_1013, kw_73, kw_1014⟩, rfl, by decide, by decide, by decide +kernel⟩
theorem cwL_56 : Cw RL 56 yX7_margin cX7_margin 4 (some .int) RX7 2 := ⟨⟨kw_601, kw_602, kw_603, kw_64, kw_604⟩, rfl, by decide, by decide, by decide +kernel⟩
theorem cwL_59 : Cw RL 59 yX8_margin cX8_margin 3 (some .int) RX8 2 := ⟨⟨kw_1019, kw_1020, kw_1021, kw_73, kw_1022⟩, rfl, by decide, by decide, by decide +kernel⟩
theorem cwL_60 : Cw RL 60 yX7_hears cX7_hears 3 (some .int) RX7 2 := ⟨⟨kw_605, kw_606, kw_607, kw_64, kw_608⟩, rfl, by decide, by decide, by decide +kernel⟩
theorem cwL_63 : Cw RL 63 yX8_hears cX8_hears 3 (some .int) RX8 2 := ⟨⟨kw_1023, kw_1024, kw_1025, kw_73, kw_1026⟩, rfl, by decide, by decide, by decide +kernel⟩
theorem cwL_64 : Cw RL 64 yX7_at cX7_at 3 (some .int) RX7 2 := ⟨⟨kw_610, kw_611, kw_612, kw_64, kw_613⟩, rfl, by decide, by decide, by decide +kernel⟩
theorem cwL_67 : Cw RL 67 yX8_at cX8_at 3 (some .int) RX8 2 := ⟨⟨kw_1027, kw_1028, kw_1029, kw_73, kw_1030⟩, rfl, by decide, by decide, by decide +kernel⟩
theorem cwL_68 : Cw RL 68 yX7_all cX7_all 2 (some .int) RX7 1 := ⟨⟨kw_619, kw_620, kw_621, kw_64, kw_622⟩, rfl, by decide, by decide, by decide +kernel⟩
theorem cwL_71 : Cw RL 71 yX8_all cX8_all 2 (some .int) RX8 1 := ⟨⟨kw_1035, kw_1036, kw_1037, kw_73, kw_1038⟩, rfl, by decide, by decide, by decide +kernel⟩
theorem cwL_72 : Cw RL 72 yX7_window cX7_window 3 (some .int) RX7 2 := ⟨⟨kw_627, kw_628, kw_629, kw_64, kw_630⟩, rfl, by decide, by decide, by decide +kernel⟩
theorem cwL_75 : Cw RL 75 yX8_window cX8_window 3 (some .int) RX8 2 := ⟨⟨kw_1043, kw_1044, kw_1045, kw_73, kw_1046⟩, rfl, by decide, by decide, by decide +kernel⟩
theorem cwL_76 : Cw RL 76 yX7_copy cX7_copy 3 (some .int) RX7 2 := ⟨⟨kw_639, kw_640, kw_641, kw_64, kw_642⟩, rfl, by decide, by decide, by decide +kernel⟩
theorem cwL_79 : Cw RL 79 yX8_copy cX8_copy 3 (some .int) RX8 2 := ⟨⟨kw_1047, kw_1048, kw_1049, kw_73, kw_1050⟩, rfl, by decide, by decide, by decide +kernel⟩
theorem cwL_80 : Cw RL 80 yX7_type cX7_type 2 (some .int) RX7 1 := ⟨⟨kw_643, kw_644, kw_645, kw_64, kw_646⟩, rfl, by decide, by decide, by decide +kernel⟩
theorem cwL_83 : Cw RL 83 yX8_type cX8_type 2 (some .int) RX8 1 := ⟨⟨kw_1051, kw_1052, kw_1053, kw_73, kw_1054⟩, rfl, by decide, by decide, by decide +kernel⟩
theorem cwL_84 : Cw RL 84 yX7_clear cX7_clear 2 (some .int) RX7 0 := ⟨⟨kw_647, kw_648, kw_649, kw_64, kw_650⟩, rfl, by decide, by decide, by decide +kernel⟩
theorem cwL_88 : Cw RL 88 yX8_clear cX8_clear 2 (some .int) RX8 0 := ⟨⟨kw_1055, kw_1056, kw_1057, kw_73, kw_1058⟩, rfl, by decide, by decide, by decide +kernel⟩
theorem cwL_89 : Cw RL 89 yX7_does cX7_does 4 (some .int) RX7 0 := ⟨⟨kw_651, kw_652, kw_653, kw_64, kw_654⟩, rfl, by decide, by decide, by decide +kernel⟩
theorem cwL_92 : Cw RL 92 yX8_does cX8_does 2 (some .int) RX8 0 := ⟨⟨kw_1059, kw_1060, kw_1061, kw_73, kw_1062⟩, rfl, by decide, by decide, by decide +kernel⟩
theorem cwL_93 : Cw RL 93 yX7_told cX7_told 2 (some .int) RX7 1 := ⟨⟨kw_702, kw_703, kw_704, kw_64, kw_705⟩, rfl, by decide, by decide, by decide +kernel⟩
theorem cwL_96 : Cw RL 96 yX8_told cX8_told 2 (some .int) RX8 1 := ⟨⟨kw_1106, kw_1107, kw_1108, kw_73, kw_1109⟩, rfl, by decide, by decide, by decide +kernel⟩
theorem cwL_97 : Cw RL 97 yX7_digest cX7_digest 5 (some .long) RX7 0 := ⟨⟨kw_706, kw_707, kw_708, kw_64, kw_709⟩, rfl, by decide, by decide, by decide +kernel⟩
theorem cwL_101 : Cw RL 101 yX8_digest cX8_digest 5 (some .long) RX8 0 := ⟨⟨kw_1114, kw_1115, kw_1116, kw_73, kw_1117⟩, rfl, by decide, by decide, by decide +kernel⟩
set_option maxHeartbeats 4000000 in
set_option maxRecDepth 20000 in
theorem l_case0 (F : Fx D cA RL cL_law 4 ret p s m #[Value.ref b] meth c) (hf : Lf D cA ad ad' s b L xs) (hw : Lw D cA ad ad' s C M H locs) (hl : lv_has ls 4 [(3, .int (nI i)), (2, .ref (ad' 0)), (1, .ref (ad 0)), (0, .ref b)]) (hi : i + 4 ≤ L) (hc : cells ≤ room_1.cells ∧ slots ≤ room_1.slots)
    (kk : ∀ (C1 M1 : Mem) (H1 : Heap) (locs1 : List Loc), Lw D cA ad ad' s C1 M1 H1 locs1 → W p l e room_1 s m #[Value.ref b] below meth c H1 locs1 cells slots Q (F0 m 716 ls [])) : W p l e room_1 s m #[Value.ref b] below meth c H locs cells slots Q (F0 m 132 ls []) := by
  have hd := hf.2.2.1
  obtain ⟨h1, h2, hS, hI⟩ := hw
  obtain ⟨⟨r, C1⟩, ⟨r2, M1⟩, e1, e2, hr, hI1⟩ := lr_sets hI (xs (i + 1)) (xs (i + 2))
  change r = r2 at hr
  subst hr
  refine lv_aload_n F.1 F.2.1 dL_law_132 rfl (lv_at hl 2 rfl) ?_
  refine l_arg (J := 1) F hf hS hl (by omega) dL_law_133 dL_law_134 dL_law_135 (by decide) dL_law_136 dL_law_137 ?_
  refine l_arg (J := 2) F hf hS hl (by omega) dL_law_138 dL_law_139 dL_law_140 (by decide) dL_law_141 dL_law_142 ?_
  refine w_calli hS (az_sub hf.1) (w_run (As := [.int (xs (i + 1)), .int (xs (i + 2))]) (x := 0) F h1 (wW_D C (az_D hf.1)) hl (cX7_sets_ok l D cA ad C (xs (i + 1)) (xs (i + 2)) r C1 e1) cz7 rfl cwL_13 ⟨Nat.le_of_ble_eq_true rfl, Nat.le_of_ble_eq_true rfl⟩ hc (Nat.le_of_ble_eq_true rfl) dL_law_143) (fun H locs h1 hk hS => ?_)
  have h2 := w_keep h2 (fun q a b => hd q b a) hk
  refine lv_aload_n F.1 F.2.1 dL_law_146 rfl (lv_at hl 1 rfl) ?_
  refine l_arg (J := 1) F hf hS hl (by omega) dL_law_147 dL_law_148 dL_law_149 (by decide) dL_law_150 dL_law_151 ?_
  refine l_arg (J := 2) F hf hS hl (by omega) dL_law_152 dL_law_153 dL_law_154 (by decide) dL_law_155 dL_law_156 ?_
  refine w_calli hS (az_sub hf.2.1) (w_run (As := [.int (xs (i + 1)), .int (xs (i + 2))]) (x := 0) F h2 (wW_D M (az_D hf.2.1)) hl (cX8_sets_ok l D cA ad' M (xs (i + 1)) (xs (i + 2)) r M1 e2) cz8 rfl cwL_17 ⟨Nat.le_of_ble_eq_true rfl, Nat.le_of_ble_eq_true rfl⟩ hc (Nat.le_of_ble_eq_true rfl) dL_law_157) (fun H locs h2 hk hS => ?_)
  have h1 := w_keep h1 (fun q a b => hd q a b) hk
  refine lv_icmp_eq F.1 F.2.1 dL_law_160 (tgt := 716) (by decide) (fun _ => ?_) (fun hne => absurd rfl hne)
  exact kk C1 M1 H locs ⟨h1, h2, hS, hI1⟩
set_option maxHeartbeats 4000000 in
set_option maxRecDepth 20000 in
theorem l_case1 (F : Fx D cA RL cL_law 4 ret p s m #[Value.ref b] meth c) (hf : Lf D cA ad ad' s b L xs) (hw : Lw D cA ad ad' s C M H locs) (hl : lv_has ls 4 [(3, .int (nI i)), (2, .ref (ad' 0)), (1, .ref (ad 0)), (0, .ref b)]) (hi : i + 4 ≤ L) (hc : cells ≤ room_1.cells ∧ slots ≤ room_1.slots)
    (kk : ∀ (C1 M1 : Mem) (H1 : Heap) (locs1 : List Loc), Lw D cA ad ad' s C1 M1 H1 locs1 → W p l e room_1 s m #[Value.ref b] below meth c H1 locs1 cells slots Q (F0 m 716 ls [])) : W p l e room_1 s m #[Value.ref b] below meth c H locs cells slots Q (F0 m 165 ls []) := by
  have hd := hf.2.2.1
  obtain ⟨h1, h2, hS, hI⟩ := hw
  obtain ⟨⟨r, C1⟩, ⟨r2, M1⟩, e1, e2, hr, hI1⟩ := lr_gate hI (xs (i + 1)) (xs (i + 2)) (xs (i + 3))
  change r = r2 at hr
  subst hr
  refine lv_aload_n F.1 F.2.1 dL_law_165 rfl (lv_at hl 2 rfl) ?_
  refine l_arg (J := 1) F hf hS hl (by omega) dL_law_166 dL_law_167 dL_law_168 (by decide) dL_law_169 dL_law_170 ?_
  refine l_arg (J := 2) F hf hS hl (by omega) dL_law_171 dL_law_172 dL_law_173 (by decide) dL_law_174 dL_law_175 ?_
  refine l_arg (J := 3) F hf hS hl (by omega) dL_law_176 dL_law_177 dL_law_178 (by decide) dL_law_179 dL_law_180 ?_
  refine w_calli hS (az_sub hf.1) (w_run (As := [.int (xs (i + 1)), .int (xs (i + 2)), .int (xs (i + 3))]) (x := 0) F h1 (wW_D C (az_D hf.1)) hl (cX7_gate_ok l D cA ad C (xs (i + 1)) (xs (i + 2)) (xs (i + 3)) r C1 e1) cz7 rfl cwL_18 ⟨Nat.le_of_ble_eq_true rfl, Nat.le_of_ble_eq_true rfl⟩ hc (Nat.le_of_ble_eq_true rfl) dL_law_181) (fun H locs h1 hk hS => ?_)
  have h2 := w_keep h2 (fun q a b => hd q b a) hk
  refine lv_aload_n F.1 F.2.1 dL_law_184 rfl (lv_at hl 1 rfl) ?_
  refine l_arg (J := 1) F hf hS hl (by omega) dL_law_185 dL_law_186 dL_law_187 (by decide) dL_law_188 dL_law_189 ?_
  refine l_arg (J := 2) F hf hS hl (by omega) dL_law_190 dL_law_191 dL_law_192 (by decide) dL_law_193 dL_law_194 ?_
  refine l_arg (J := 3) F hf hS hl (by omega) dL_law_195 dL_law_196 dL_law_197 (by decide) dL_law_198 dL_law_199 ?_
  refine w_calli hS (az_sub hf.2.1) (w_run (As := [.int (xs (i + 1)), .int (xs (i + 2)), .int (xs (i + 3))]) (x := 0) F h2 (wW_D M (az_D hf.2.1)) hl (cX8_gate_ok l D cA ad' M (xs (i + 1)) (xs (i + 2)) (xs (i + 3)) r M1 e2) cz8 rfl cwL_22 ⟨Nat.le_of_ble_eq_true rfl, Nat.le_of_ble_eq_true rfl⟩ hc (Nat.le_of_ble_eq_true rfl) dL_law_200) (fun H locs h2 hk hS => ?_)
  have h1 := w_keep h1 (fun q a b => hd q a b) hk
  refine lv_icmp_eq F.1 F.2.1 dL_law_203 (tgt := 716) (by decide) (fun _ => ?_) (fun hne => absurd rfl hne)
  exact kk C1 M1 H locs ⟨h1, h2, hS, hI1⟩
set_option maxHeartbeats 4000000 in
set_option maxRecDepth 20000 in
theorem l_case2 (F : Fx D cA RL cL_law 4 ret p s m #[Value.ref b] meth c) (hf : Lf D cA ad ad' s b L xs) (hw : Lw D cA ad ad' s C M H locs) (hl : lv_has ls 4 [(3, .int (nI i)), (2, .ref (ad' 0)), (1, .ref (ad 0)), (0, .ref b)]) (hi : i + 4 ≤ L) (hc : cells ≤ room_1.cells ∧ slots ≤ room_1.slots)
    (kk : ∀ (C1 M1 : Mem) (H1 : Heap) (locs1 : List Loc), Lw D cA ad ad' s C1 M1 H1 locs1 → W p l e room_1 s m #[Value.ref b] below meth c H1 locs1 cells slots Q (F0 m 716 ls [])) : W p l e room_1 s m #[Value.ref b] below meth c H locs cells slots Q (F0 m 208 ls []) := by
  have hd := hf.2.2.1
  obtain ⟨h1, h2, hS, hI⟩ := hw
  obtain ⟨⟨r, C1⟩, ⟨r2, M1⟩, e1, e2, hr, hI1⟩ := lr_gain hI (xs (i + 1)) (xs (i + 2)) (xs (i + 3))
  change r = r2 at hr
  subst hr
  refine lv_aload_n F.1 F.2.1 dL_law_208 rfl (lv_at hl 2 rfl) ?_
  refine l_arg (J := 1) F hf hS hl (by omega) dL_law_209 dL_law_210 dL_law_211 (by decide) dL_law_212 dL_law_213 ?_
  refine l_arg (J := 2) F hf hS hl (by omega) dL_law_214 dL_law_215 dL_law_216 (by decide) dL_law_217 dL_law_218 ?_
  refine l_arg (J := 3) F hf hS hl (by omega) dL_law_219 dL_law_220 dL_law_221 (by decide) dL_law_222 dL_law_223 ?_
  refine w_calli hS (az_sub hf.1) (w_run (As := [.int (xs (i + 1)), .int (xs (i + 2)), .int (xs (i + 3))]) (x := 0) F h1 (wW_D C (az_D hf.1)) hl (cX7_gain_ok l D cA ad C (xs (i + 1)) (xs (i + 2)) (xs (i + 3)) r C1 e1) cz7 rfl cwL_23 ⟨Nat.le_of_ble_eq_true rfl, Nat.le_of_ble_eq_true rfl⟩ hc (Nat.le_of_ble_eq_true rfl) dL_law_224) (fun H locs h1 hk hS => ?_)
  have h2 := w_keep h2 (fun q a b => hd q b a) hk
  refine lv_aload_n F.1 F.2.1 dL_law_227 rfl (lv_at hl 1 rfl) ?_
  refine l_arg (J := 1) F hf hS hl (by omega) dL_law_228 dL_law_229 dL_law_230 (by decide) dL_law_231 dL_law_232 ?_
  refine l_arg (J := 2) F hf hS hl (by omega) dL_law_233 dL_law_234 dL_law_235 (by decide) dL_law_236 dL_law_237 ?_
  refine l_arg (J := 3) F hf hS hl (by omega) dL_law_238 dL_law_239 dL_law_240 (by decide) dL_law_241 dL_law_242 ?_
  refine w_calli hS (az_sub hf.2.1) (w_run (As := [.int (xs (i + 1)), .int (xs (i + 2)), .int (xs (i + 3))]) (x := 0) F h2 (wW_D M (az_D hf.2.1)) hl (cX8_gain_ok l D cA ad' M (xs (i + 1)) (xs (i + 2)) (xs (i + 3)) r M1 e2) cz8 rfl cwL_26 ⟨Nat.le_of_ble_eq_true rfl, Nat.le_of_ble_eq_true rfl⟩ hc (Nat.le_of_ble_eq_true rfl) dL_law_243) (fun H locs h2 hk hS => ?_)
  have h1 := w_keep h1 (fun q a b => hd q a b) hk
  refine lv_icmp_eq F.1 F.2.1 dL_law_246 (tgt := 716) (by decide) (fun _ => ?_) (fun hne => absurd rfl hne)
  exact kk C1 M1 H locs ⟨h1, h2, hS, hI1⟩
set_option maxHeartbeats 4000000 in
set_option maxRecDepth 20000 in
theorem l_case3 (F : Fx D cA RL cL_law 4 ret p s m #[Value.ref b] meth c) (hf : Lf D cA ad ad' s b L xs) (hw : Lw D cA ad ad' s C M H locs) (hl : lv_has ls 4 [(3, .int (nI i)), (2, .ref (ad' 0)), (1, .ref (ad 0)), (0, .ref b)]) (hi : i + 4 ≤ L) (hc : cells ≤ room_1.cells ∧ slots ≤ room_1.slots)
    (kk : ∀ (C1 M1 : Mem) (H1 : Heap) (locs1 : List Loc), Lw D cA ad ad' s C1 M1 H1 locs1 → W p l e room_1 s m #[Value.ref b] below meth c H1 locs1 cells slots Q (F0 m 716 ls [])) : W p l e room_1 s m #[Value.ref b] below meth c H locs cells slots Q (F0 m 251 ls []) := by
  have hd := hf.2.2.1
  obtain ⟨h1, h2, hS, hI⟩ := hw
  obtain ⟨⟨r, C1⟩, ⟨r2, M1⟩, e1, e2, hr, hI1⟩ := lr_draw hI (xs (i + 1))
  change r = r2 at hr
  subst hr
  refine lv_aload_n F.1 F.2.1 dL_law_251 rfl (lv_at hl 2 rfl) ?_
  refine l_arg (J := 1) F hf hS hl (by omega) dL_law_252 dL_law_253 dL_law_254 (by decide) dL_law_255 dL_law_256 ?_
  refine w_calli hS (az_sub hf.1) (w_run (As := [.int (xs (i + 1))]) (x := 0) F h1 (wW_D C (az_D hf.1)) hl (cX7_draw_ok l D cA ad C (xs (i + 1)) r C1 e1) cz7 rfl cwL_27 ⟨Nat.le_of_ble_eq_true rfl, Nat.le_of_ble_eq_true rfl⟩ hc (Nat.le_of_ble_eq_true rfl) dL_law_257) (fun H locs h1 hk hS => ?_)
  have h2 := w_keep h2 (fun q a b => hd q b a) hk
  refine lv_aload_n F.1 F.2.1 dL_law_260 rfl (lv_at hl 1 rfl) ?_
  refine l_arg (J := 1) F hf hS hl (by omega) dL_law_261 dL_law_262 dL_law_263 (by decide) dL_law_264 dL_law_265 ?_
  refine w_calli hS (az_sub hf.2.1) (w_run (As := [.int (xs (i + 1))]) (x := 0) F h2 (wW_D M (az_D hf.2.1)) hl (cX8_draw_ok l D cA ad' M (xs (i + 1)) r M1 e2) cz8 rfl cwL_31 ⟨Nat.le_of_ble_eq_true rfl, Nat.le_of_ble_eq_true rfl⟩ hc (Nat.le_of_ble_eq_true rfl) dL_law_266) (fun H locs h2 hk hS => ?_)
  have h1 := w_keep h1 (fun q a b => hd q a b) hk
  refine lv_icmp_eq F.1 F.2.1 dL_law_269 (tgt := 716) (by decide) (fun _ => ?_) (fun hne => absurd rfl hne)
  exact kk C1 M1 H locs ⟨h1, h2, hS, hI1⟩
set_option maxHeartbeats 4000000 in
set_option maxRecDepth 20000 in
theorem l_case4 (F : Fx D cA RL cL_law 4 ret p s m #[Value.ref b] meth c) (hf : Lf D cA ad ad' s b L xs) (hw : Lw D cA ad ad' s C M H locs) (hl : lv_has ls 4 [(3, .int (nI i)), (2, .ref (ad' 0)), (1, .ref (ad 0)), (0, .ref b)]) (hi : i + 4 ≤ L) (hc : cells ≤ room_1.cells ∧ slots ≤ room_1.slots)
    (kk : ∀ (C1 M1 : Mem) (H1 : Heap) (locs1 : List Loc), Lw D cA ad ad' s C1 M1 H1 locs1 → W p l e room_1 s m #[Value.ref b] below meth c H1 locs1 cells slots Q (F0 m 716 ls [])) : W p l e room_1 s m #[Value.ref b] below meth c H locs cells slots Q (F0 m 274 ls []) := by
  have hd := hf.2.2.1
  obtain ⟨h1, h2, hS, hI⟩ := hw
  obtain ⟨⟨r, C1⟩, ⟨r2, M1⟩, e1, e2, hr, hI1⟩ := lr_sender hI (xs (i + 1)) (xs (i + 2)) (xs (i + 3))
  change r = r2 at hr
  subst hr
  refine lv_aload_n F.1 F.2.1 dL_law_274 rfl (lv_at hl 2 rfl) ?_
  refine l_arg (J := 1) F hf hS hl (by omega) dL_law_275 dL_law_276 dL_law_277 (by decide) dL_law_278 dL_law_279 ?_
  refine l_arg (J := 2) F hf hS hl (by omega) dL_law_280 dL_law_281 dL_law_282 (by decide) dL_law_283 dL_law_284 ?_
  refine l_arg (J := 3) F hf hS hl (by omega) dL_law_285 dL_law_286 dL_law_287 (by decide) dL_law_288 dL_law_289 ?_
  refine w_calli hS (az_sub hf.1) (w_run (As := [.int (xs (i + 1)), .int (xs (i + 2)), .int (xs (i + 3))]) (x := 0) F h1 (wW_D C (az_D hf.1)) hl (cX7_sender_ok l D cA ad C (xs (i + 1)) (xs (i + 2)) (xs (i + 3)) r C1 e1) cz7 rfl cwL_32 ⟨Nat.le_of_ble_eq_true rfl, Nat.le_of_ble_eq_true rfl⟩ hc (Nat.le_of_ble_eq_true rfl) dL_law_290) (fun H locs h1 hk hS => ?_)
  have h2 := w_keep h2 (fun q a b => hd q b a) hk
  refine lv_aload_n F.1 F.2.1 dL_law_293 rfl (lv_at hl 1 rfl) ?_
  refine l_arg (J := 1) F hf hS hl (by omega) dL_law_294 dL_law_295 dL_law_296 (by decide) dL_law_297 dL_law_298 ?_
  refine l_arg (J := 2) F hf hS hl (by omega) dL_law_299 dL_law_300 dL_law_301 (by decide) dL_law_302 dL_law_303 ?_
  refine l_arg (J := 3) F hf hS hl (by omega) dL_law_304 dL_law_305 dL_law_306 (by decide) dL_law_307 dL_law_308 ?_
  refine w_calli hS (az_sub hf.2.1) (w_run (As := [.int (xs (i + 1)), .int (xs (i + 2)), .int (xs (i + 3))]) (x := 0) F h2 (wW_D M (az_D hf.2.1)) hl (cX8_sender_ok l D cA ad' M (xs (i + 1)) (xs (i + 2)) (xs (i + 3)) r M1 e2) cz8 rfl cwL_35 ⟨Nat.le_of_ble_eq_true rfl, Nat.le_of_ble_eq_true rfl⟩ hc (Nat.le_of_ble_eq_true rfl) dL_law_309) (fun H locs h2 hk hS => ?_)
  have h1 := w_keep h1 (fun q a b => hd q a b) hk
  refine lv_icmp_eq F.1 F.2.1 dL_law_312 (tgt := 716) (by decide) (fun _ => ?_) (fun hne => absurd rfl hne)
  exact kk C1 M1 H locs ⟨h1, h2, hS, hI1⟩
set_option maxHeartbeats 4000000 in
set_option maxRecDepth 20000 in
theorem l_case5 (F : Fx D cA RL cL_law 4 ret p s m #[Value.ref b] meth c) (hf : Lf D cA ad ad' s b L xs) (hw : Lw D cA ad ad' s C M H locs) (hl : lv_has ls 4 [(3, .int (nI i)), (2, .ref (ad' 0)), (1, .ref (ad 0)), (0, .ref b)]) (hi : i + 4 ≤ L) (hc : cells ≤ room_1.cells ∧ slots ≤ room_1.slots)
    (kk : ∀ (C1 M1 : Mem) (H1 : Heap) (locs1 : List Loc), Lw D cA ad ad' s C1 M1 H1 locs1 → W p l e room_1 s m #[Value.ref b] below meth c H1 locs1 cells slots Q (F0 m 716 ls [])) : W p l e room_1 s m #[Value.ref b] below meth c H locs cells slots Q (F0 m 317 ls []) := by
  have hd := hf.2.2.1
  obtain ⟨h1, h2, hS, hI⟩ := hw
  obtain ⟨⟨r, C1⟩, ⟨r2, M1⟩, e1, e2, hr, hI1⟩ := lr_sends hI (xs (i + 1))
  change r = r2 at hr
  subst hr
  refine lv_aload_n F.1 F.2.1 dL_law_317 rfl (lv_at hl 2 rfl) ?_
  refine l_arg (J := 1) F hf hS hl (by omega) dL_law_318 dL_law_319 dL_law_320 (by decide) dL_law_321 dL_law_322 ?_
  refine w_calli hS (az_sub hf.1) (w_run (As := [.int (xs (i + 1))]) (x := 0) F h1 (wW_D C (az_D hf.1)) hl (cX7_sends_ok l D cA ad C (xs (i + 1)) r C1 e1) cz7 rfl cwL_36 ⟨Nat.le_of_ble_eq_true rfl, Nat.le_of_ble_eq_true rfl⟩ hc (Nat.le_of_ble_eq_true rfl) dL_law_323) (fun H locs h1 hk hS => ?_)
  have h2 := w_keep h2 (fun q a b => hd q b a) hk
  refine lv_aload_n F.1 F.2.1 dL_law_326 rfl (lv_at hl 1 rfl) ?_
  refine l_arg (J := 1) F hf hS hl (by omega) dL_law_327 dL_law_328 dL_law_329 (by decide) dL_law_330 dL_law_331 ?_
  refine w_calli hS (az_sub hf.2.1) (w_run (As := [.int (xs (i + 1))]) (x := 0) F h2 (wW_D M (az_D hf.2.1)) hl (cX8_sends_ok l D cA ad' M (xs (i + 1)) r M1 e2) cz8 rfl cwL_39 ⟨Nat.le_of_ble_eq_true rfl, Nat.le_of_ble_eq_true rfl⟩ hc (Nat.le_of_ble_eq_true rfl) dL_law_332) (fun H locs h2 hk hS => ?_)
  have h1 := w_keep h1 (fun q a b => hd q a b) hk
  refine lv_icmp_eq F.1 F.2.1 dL_law_335 (tgt := 716) (by decide) (fun _ => ?_) (fun hne => absurd rfl hne)
  exact kk C1 M1 H locs ⟨h1, h2, hS, hI1⟩
set_option maxHeartbeats 4000000 in
set_option maxRecDepth 20000 in
theorem l_case6 (F : Fx D cA RL cL_law 4 ret p s m #[Value.ref b] meth c) (hf : Lf D cA ad ad' s b L xs) (hw : Lw D cA ad ad' s C M H locs) (hl : lv_has ls 4 [(3, .int (nI i)), (2, .ref (ad' 0)), (1, .ref (ad 0)), (0, .ref b)]) (hi : i + 4 ≤ L) (hc : cells ≤ room_1.cells ∧ slots ≤ room_1.slots)
    (kk : ∀ (C1 M1 : Mem) (H1 : Heap) (locs1 : List Loc), Lw D cA ad ad' s C1 M1 H1 locs1 → W p l e room_1 s m #[Value.ref b] below meth c H1 locs1 cells slots Q (F0 m 716 ls [])) : W p l e room_1 s m #[Value.ref b] below meth c H locs cells slots Q (F0 m 340 ls []) := by
  have hd := hf.2.2.1
  obtain ⟨h1, h2, hS, hI⟩ := hw
  obtain ⟨⟨r, C1⟩, ⟨r2, M1⟩, e1, e2, hr, hI1⟩ := lr_again hI (xs (i + 1))
  change r = r2 at hr
  subst hr
  refine lv_aload_n F.1 F.2.1 dL_law_340 rfl (lv_at hl 2 rfl) ?_
  refine l_arg (J := 1) F hf hS hl (by omega) dL_law_341 dL_law_342 dL_law_343 (by decide) dL_law_344 dL_law_345 ?_
  refine w_calli hS (az_sub hf.1) (w_run (As := [.int (xs (i + 1))]) (x := 0) F h1 (wW_D C (az_D hf.1)) hl (cX7_again_ok l D cA ad C (xs (i + 1)) r C1 e1) cz7 rfl cwL_40 ⟨Nat.le_of_ble_eq_true rfl, Nat.le_of_ble_eq_true rfl⟩ hc (Nat.le_of_ble_eq_true rfl) dL_law_346) (fun H locs h1 hk hS => ?_)
  have h2 := w_keep h2 (fun q a b => hd q b a) hk
  refine lv_aload_n F.1 F.2.1 dL_law_349 rfl (lv_at hl 1 rfl) ?_
  refine l_arg (J := 1) F hf hS hl (by omega) dL_law_350 dL_law_351 dL_law_352 (by decide) dL_law_353 dL_law_354 ?_
  refine w_calli hS (az_sub hf.2.1) (w_run (As := [.int (xs (i + 1))]) (x := 0) F h2 (wW_D M (az_D hf.2.1)) hl (cX8_again_ok l D cA ad' M (xs (i + 1)) r M1 e2) cz8 rfl cwL_43 ⟨Nat.le_of_ble_eq_true rfl, Nat.le_of_ble_eq_true rfl⟩ hc (Nat.le_of_ble_eq_true rfl) dL_law_355) (fun H locs h2 hk hS => ?_)
  have h1 := w_keep h1 (fun q a b => hd q a b) hk
  refine lv_icmp_eq F.1 F.2.1 dL_law_358 (tgt := 716) (by decide) (fun _ => ?_) (fun hne => absurd rfl hne)
  exact kk C1 M1 H locs ⟨h1, h2, hS, hI1⟩
set_option maxHeartbeats 4000000 in
set_option maxRecDepth 20000 in
theorem l_case7 (F : Fx D cA RL cL_law 4 ret p s m #[Value.ref b] meth c) (hf : Lf D cA ad ad' s b L xs) (hw : Lw D cA ad ad' s C M H locs) (hl : lv_has ls 4 [(3, .int (nI i)), (2, .ref (ad' 0)), (1, .ref (ad 0)), (0, .ref b)]) (hi : i + 4 ≤ L) (hc : cells ≤ room_1.cells ∧ slots ≤ room_1.slots)
    (kk : ∀ (C1 M1 : Mem) (H1 : Heap) (locs1 : List Loc), Lw D cA ad ad' s C1 M1 H1 locs1 → W p l e room_1 s m #[Value.ref b] below meth c H1 locs1 cells slots Q (F0 m 716 ls [])) : W p l e room_1 s m #[Value.ref b] below meth c H locs cells slots Q (F0 m 363 ls []) := by
  have hd := hf.2.2.1
  obtain ⟨h1, h2, hS, hI⟩ := hw
  obtain ⟨⟨r, C1⟩, ⟨r2, M1⟩, e1, e2, hr, hI1⟩ := lr_ticks hI (xs (i + 1))
  change r = r2 at hr
  subst hr
  refine lv_aload_n F.1 F.2.1 dL_law_363 rfl (lv_at hl 2 rfl) ?_
  refine l_arg (J := 1) F hf hS hl (by omega) dL_law_364 dL_law_365 dL_law_366 (by decide) dL_law_367 dL_law_368 ?_
  refine w_calli hS (az_sub hf.1) (w_run (As := [.int (xs (i + 1))]) (x := 0) F h1 (wW_D C (az_D hf.1)) hl (cX7_ticks_ok l D cA ad C (xs (i + 1)) r C1 e1) cz7 rfl cwL_44 ⟨Nat.le_of_ble_eq_true rfl, Nat.le_of_ble_eq_true rfl⟩ hc (Nat.le_of_ble_eq_true rfl) dL_law_369) (fun H locs h1 hk hS => ?_)
  have h2 := w_keep h2 (fun q a b => hd q b a) hk
  refine lv_aload_n F.1 F.2.1 dL_law_372 rfl (lv_at hl 1 rfl) ?_
  refine l_arg (J := 1) F hf hS hl (by omega) dL_law_373 dL_law_374 dL_law_375 (by decide) dL_law_376 dL_law_377 ?_
  refine w_calli hS (az_sub hf.2.1) (w_run (As := [.int (xs (i + 1))]) (x := 0) F h2 (wW_D M (az_D hf.2.1)) hl (cX8_ticks_ok l D cA ad' M (xs (i + 1)) r M1 e2) cz8 rfl cwL_47 ⟨Nat.le_of_ble_eq_true rfl, Nat.le_of_ble_eq_true rfl⟩ hc (Nat.le_of_ble_eq_true rfl) dL_law_378) (fun H locs h2 hk hS => ?_)
  have h1 := w_keep h1 (fun q a b => hd q a b) hk
  refine lv_icmp_eq F.1 F.2.1 dL_law_381 (tgt := 716) (by decide) (fun _ => ?_) (fun hne => absurd rfl hne)
  exact kk C1 M1 H locs ⟨h1, h2, hS, hI1⟩
set_option maxHeartbeats 4000000 in
set_option maxRecDepth 20000 in
theorem l_case8 (F : Fx D cA RL cL_law 4 ret p s m #[Value.ref b] meth c) (hf : Lf D cA ad ad' s b L xs) (hw : Lw D cA ad ad' s C M H locs) (hl : lv_has ls 4 [(3, .int (nI i)), (2, .ref (ad' 0)), (1, .ref (ad 0)), (0, .ref b)]) (hi : i + 4 ≤ L) (hc : cells ≤ room_1.cells ∧ slots ≤ room_1.slots)
    (kk : ∀ (C1 M1 : Mem) (H1 : Heap) (locs1 : List Loc), Lw D cA ad ad' s C1 M1 H1 locs1 → W p l e room_1 s m #[Value.ref b] below meth c H1 locs1 cells slots Q (F0 m 716 ls [])) : W p l e room_1 s m #[Value.ref b] below meth c H locs cells slots Q (F0 m 386 ls []) := by
  have hd := hf.2.2.1
  obtain ⟨h1, h2, hS, hI⟩ := hw
  obtain ⟨⟨r, C1⟩, ⟨r2, M1⟩, e1, e2, hr, hI1⟩ := lr_renews hI (xs (i + 1))
  change r = r2 at hr
  subst hr
  refine lv_aload_n F.1 F.2.1 dL_law_386 rfl (lv_at hl 2 rfl) ?_
  refine l_arg (J := 1) F hf hS hl (by omega) dL_law_387 dL_law_388 dL_law_389 (by decide) dL_law_390 dL_law_391 ?_
  refine w_calli hS (az_sub hf.1) (w_run (As := [.int (xs (i + 1))]) (x := 0) F h1 (wW_D C (az_D hf.1)) hl (cX7_renews_ok l D cA ad C (xs (i + 1)) r C1 e1) cz7 rfl cwL_48 ⟨Nat.le_of_ble_eq_true rfl, Nat.le_of_ble_eq_true rfl⟩ hc (Nat.le_of_ble_eq_true rfl) dL_law_392) (fun H locs h1 hk hS => ?_)
  have h2 := w_keep h2 (fun q a b => hd q b a) hk
  refine lv_aload_n F.1 F.2.1 dL_law_395 rfl (lv_at hl 1 rfl) ?_
  refine l_arg (J := 1) F hf hS hl (by omega) dL_law_396 dL_law_397 dL_law_398 (by decide) dL_law_399 dL_law_400 ?_
  refine w_calli hS (az_sub hf.2.1) (w_run (As := [.int (xs (i + 1))]) (x := 0) F h2 (wW_D M (az_D hf.2.1)) hl (cX8_renews_ok l D cA ad' M (xs (i + 1)) r M1 e2) cz8 rfl cwL_51 ⟨Nat.le_of_ble_eq_true rfl, Nat.le_of_ble_eq_true rfl⟩ hc (Nat.le_of_ble_eq_true rfl) dL_law_401) (fun H locs h2 hk hS => ?_)
  have h1 := w_keep h1 (fun q a b => hd q a b) hk
  refine lv_icmp_eq F.1 F.2.1 dL_law_404 (tgt := 716) (by decide) (fun _ => ?_) (fun hne => absurd rfl hne)
  exact kk C1 M1 H locs ⟨h1, h2, hS, hI1⟩
set_option maxHeartbeats 4000000 in
set_option maxRecDepth 20000 in
theorem l_case9 (F : Fx D cA RL cL_law 4 ret p s m #[Value.ref b] meth c) (hf : Lf D cA ad ad' s b L xs) (hw : Lw D cA ad ad' s C M H locs) (hl : lv_has ls 4 [(3, .int (nI i)), (2, .ref (ad' 0)), (1, .ref (ad 0)), (0, .ref b)]) (hi : i + 4 ≤ L) (hc : cells ≤ room_1.cells ∧ slots ≤ room_1.slots)
    (kk : ∀ (C1 M1 : Mem) (H1 : Heap) (locs1 : List Loc), Lw D cA ad ad' s C1 M1 H1 locs1 → W p l e room_1 s m #[Value.ref b] below meth c H1 locs1 cells slots Q (F0 m 716 ls [])) : W p l e room_1 s m #[Value.ref b] below meth c H locs cells slots Q (F0 m 409 ls []) := by
  have hd := hf.2.2.1
  obtain ⟨h1, h2, hS, hI⟩ := hw
  obtain ⟨⟨r, C1⟩, ⟨r2, M1⟩, e1, e2, hr, hI1⟩ := lr_of hI (xs (i + 1)) (xs (i + 2))
  change r = r2 at hr
  subst hr
  refine lv_aload_n F.1 F.2.1 dL_law_409 rfl (lv_at hl 2 rfl) ?_
  refine l_arg (J := 1) F hf hS hl (by omega) dL_law_410 dL_law_411 dL_law_412 (by decide) dL_law_413 dL_law_414 ?_
  refine l_arg (J := 2) F hf hS hl (by omega) dL_law_415 dL_law_416 dL_law_417 (by decide) dL_law_418 dL_law_419 ?_
  refine w_calli hS (az_sub hf.1) (w_run (As := [.int (xs (i + 1)), .int (xs (i + 2))]) (x := 0) F h1 (wW_D C (az_D hf.1)) hl (cX7_of_ok l D cA ad C (xs (i + 1)) (xs (i + 2)) r C1 e1) cz7 rfl cwL_52 ⟨Nat.le_of_ble_eq_true rfl, Nat.le_of_ble_eq_true rfl⟩ hc (Nat.le_of_ble_eq_true rfl) dL_law_420) (fun H locs h1 hk hS => ?_)
  have h2 := w_keep h2 (fun q a b => hd q b a) hk
  refine lv_aload_n F.1 F.2.1 dL_law_423 rfl (lv_at hl 1 rfl) ?_
  refine l_arg (J := 1) F hf hS hl (by omega) dL_law_424 dL_law_425 dL_law_426 (by decide) dL_law_427 dL_law_428 ?_
  refine l_arg (J := 2) F hf hS hl (by omega) dL_law_429 dL_law_430 dL_law_431 (by decide) dL_law_432 dL_law_433 ?_
  refine w_calli hS (az_sub hf.2.1) (w_run (As := [.int (xs (i + 1)), .int (xs (i + 2))]) (x := 0) F h2 (wW_D M (az_D hf.2.1)) hl (cX8_of_ok l D cA ad' M (xs (i + 1)) (xs (i + 2)) r M1 e2) cz8 rfl cwL_55 ⟨Nat.le_of_ble_eq_true rfl, Nat.le_of_ble_eq_true rfl⟩ hc (Nat.le_of_ble_eq_true rfl) dL_law_434) (fun H locs h2 hk hS => ?_)
  have h1 := w_keep h1 (fun q a b => hd q a b) hk
  refine lv_icmp_eq F.1 F.2.1 dL_law_437 (tgt := 716) (by decide) (fun _ => ?_) (fun hne => absurd rfl hne)
  exact kk C1 M1 H locs ⟨h1, h2, hS, hI1⟩
set_option maxHeartbeats 4000000 in
set_option maxRecDepth 20000 in
theorem l_case10 (F : Fx D cA RL cL_law 4 ret p s m #[Value.ref b] meth c) (hf : Lf D cA ad ad' s b L xs) (hw : Lw D cA ad ad' s C M H locs) (hl : lv_has ls 4 [(3, .int (nI i)), (2, .ref (ad' 0)), (1, .ref (ad 0)), (0, .ref b)]) (hi : i + 4 ≤ L) (hc : cells ≤ room_1.cells ∧ slots ≤ room_1.slots)
    (kk : ∀ (C1 M1 : Mem) (H1 : Heap) (locs1 : List Loc), Lw D cA ad ad' s C1 M1 H1 locs1 → W p l e room_1 s m #[Value.ref b] below meth c H1 locs1 cells slots Q (F0 m 716 ls [])) : W p l e room_1 s m #[Value.ref b] below meth c H locs cells slots Q (F0 m 442 ls []) := by
  have hd := hf.2.2.1
  obtain ⟨h1, h2, hS, hI⟩ := hw
  obtain ⟨⟨r, C1⟩, ⟨r2, M1⟩, e1, e2, hr, hI1⟩ := lr_margin hI (xs (i + 1)) (xs (i + 2))
  change r = r2 at hr
  subst hr
  refine lv_aload_n F.1 F.2.1 dL_law_442 rfl (lv_at hl 2 rfl) ?_
  refine l_arg (J := 1) F hf hS hl (by omega) dL_law_443 dL_law_444 dL_law_445 (by decide) dL_law_446 dL_law_447 ?_
  refine l_arg (J := 2) F hf hS hl (by omega) dL_law_448 dL_law_449 dL_law_450 (by decide) dL_law_451 dL_law_452 ?_
  refine w_calli hS (az_sub hf.1) (w_run (As := [.int (xs (i + 1)), .int (xs (i + 2))]) (x := 0) F h1 (wW_D C (az_D hf.1)) hl (cX7_margin_ok l D cA ad C (xs (i + 1)) (xs (i + 2)) r C1 e1) cz7 rfl cwL_56 ⟨Nat.le_of_ble_eq_true rfl, Nat.le_of_ble_eq_true rfl⟩ hc (Nat.le_of_ble_eq_true rfl) dL_law_453) (fun H locs h1 hk hS => ?_)
  have h2 := w_keep h2 (fun q a b => hd q b a) hk
  refine lv_aload_n F.1 F.2.1 dL_law_456 rfl (lv_at hl 1 rfl) ?_
  refine l_arg (J := 1) F hf hS hl (by omega) dL_law_457 dL_law_458 dL_law_459 (by decide) dL_law_460 dL_law_461 ?_
  refine l_arg (J := 2) F hf hS hl (by omega) dL_law_462 dL_law_463 dL_law_464 (by decide) dL_law_465 dL_law_466 ?_
  refine w_calli hS (az_sub hf.2.1) (w_run (As := [.int (xs (i + 1)), .int (xs (i + 2))]) (x := 0) F h2 (wW_D M (az_D hf.2.1)) hl (cX8_margin_ok l D cA ad' M (xs (i + 1)) (xs (i + 2)) r M1 e2) cz8 rfl cwL_59 ⟨Nat.le_of_ble_eq_true rfl, Nat.le_of_ble_eq_true rfl⟩ hc (Nat.le_of_ble_eq_true rfl) dL_law_467) (fun H locs h2 hk hS => ?_)
  have h1 := w_keep h1 (fun q a b => hd q a b) hk
  refine lv_icmp_eq F.1 F.2.1 dL_law_470 (tgt := 716) (by decide) (fun _ => ?_) (fun hne => absurd rfl hne)
  exact kk C1 M1 H locs ⟨h1, h2, hS, hI1⟩
set_option maxHeartbeats 4000000 in
set_option maxRecDepth 20000 in
theorem l_case11 (F : Fx D cA RL cL_law 4 ret p s m #[Value.ref b] meth c) (hf : Lf D cA ad ad' s b L xs) (hw : Lw D cA ad ad' s C M H locs) (hl : lv_has ls 4 [(3, .int (nI i)), (2, .ref (ad' 0)), (1, .ref (ad 0)), (0, .ref b)]) (hi : i + 4 ≤ L) (hc : cells ≤ room_1.cells ∧ slots ≤ room_1.slots)
    (kk : ∀ (C1 M1 : Mem) (H1 : Heap) (locs1 : List Loc), Lw D cA ad ad' s C1 M1 H1 locs1 → W p l e room_1 s m #[Value.ref b] below meth c H1 locs1 cells slots Q (F0 m 716 ls [])) : W p l e room_1 s m #[Value.ref b] below meth c H locs cells slots Q (F0 m 475 ls []) := by
  have hd := hf.2.2.1
  obtain ⟨h1, h2, hS, hI⟩ := hw
  obtain ⟨⟨r, C1⟩, ⟨r2, M1⟩, e1, e2, hr, hI1⟩ := lr_hears hI (xs (i + 1)) (xs (i + 2))
  change r = r2 at hr
  subst hr
  refine lv_aload_n F.1 F.2.1 dL_law_475 rfl (lv_at hl 2 rfl) ?_
  refine l_arg (J := 1) F hf hS hl (by omega) dL_law_476 dL_law_477 dL_law_478 (by decide) dL_law_479 dL_law_480 ?_
  refine l_arg (J := 2) F hf hS hl (by omega) dL_law_481 dL_law_482 dL_law_483 (by decide) dL_law_484 dL_law_485 ?_
  refine w_calli hS (az_sub hf.1) (w_run (As := [.int (xs (i + 1)), .int (xs (i + 2))]) (x := 0) F h1 (wW_D C (az_D hf.1)) hl (cX7_hears_ok l D cA ad C (xs (i + 1)) (xs (i + 2)) r C1 e1) cz7 rfl cwL_60 ⟨Nat.le_of_ble_eq_true rfl, Nat.le_of_ble_eq_true rfl⟩ hc (Nat.le_of_ble_eq_true rfl) dL_law_486) (fun H locs h1 hk hS => ?_)
  have h2 := w_keep h2 (fun q a b => hd q b a) hk
  refine lv_aload_n F.1 F.2.1 dL_law_489 rfl (lv_at hl 1 rfl) ?_
  refine l_arg (J := 1) F hf hS hl (by omega) dL_law_490 dL_law_491 dL_law_492 (by decide) dL_law_493 dL_law_494 ?_
  refine l_arg (J := 2) F hf hS hl (by omega) dL_law_495 dL_law_496 dL_law_497 (by decide) dL_law_498 dL_law_499 ?_
  refine w_calli hS (az_sub hf.2.1) (w_run (As := [.int (xs (i + 1)), .int (xs (i + 2))]) (x := 0) F h2 (wW_D M (az_D hf.2.1)) hl (cX8_hears_ok l D cA ad' M (xs (i + 1)) (xs (i + 2)) r M1 e2) cz8 rfl cwL_63 ⟨Nat.le_of_ble_eq_true rfl, Nat.le_of_ble_eq_true rfl⟩ hc (Nat.le_of_ble_eq_true rfl) dL_law_500) (fun H locs h2 hk hS => ?_)
  have h1 := w_keep h1 (fun q a b => hd q a b) hk
  refine lv_icmp_eq F.1 F.2.1 dL_law_503 (tgt := 716) (by decide) (fun _ => ?_) (fun hne => absurd rfl hne)
  exact kk C1 M1 H locs ⟨h1, h2, hS, hI1⟩
set_option maxHeartbeats 4000000 in
set_option maxRecDepth 20000 in
theorem l_case12 (F : Fx D cA RL cL_law 4 ret p s m #[Value.ref b] meth c) (hf : Lf D cA ad ad' s b L xs) (hw : Lw D cA ad ad' s C M H locs) (hl : lv_has ls 4 [(3, .int (nI i)), (2, .ref (ad' 0)), (1, .ref (ad 0)), (0, .ref b)]) (hi : i + 4 ≤ L) (hc : cells ≤ room_1.cells ∧ slots ≤ room_1.slots)
    (kk : ∀ (C1 M1 : Mem) (H1 : Heap) (locs1 : List Loc), Lw D cA ad ad' s C1 M1 H1 locs1 → W p l e room_1 s m #[Value.ref b] below meth c H1 locs1 cells slots Q (F0 m 716 ls [])) : W p l e room_1 s m #[Value.ref b] below meth c H locs cells slots Q (F0 m 508 ls []) := by
  have hd := hf.2.2.1
  obtain ⟨h1, h2, hS, hI⟩ := hw
  obtain ⟨⟨r, C1⟩, ⟨r2, M1⟩, e1, e2, hr, hI1⟩ := lr_at hI (xs (i + 1)) (xs (i + 2))
  change r = r2 at hr
  subst hr
  refine lv_aload_n F.1 F.2.1 dL_law_508 rfl (lv_at hl 2 rfl) ?_
  refine l_arg (J := 1) F hf hS hl (by omega) dL_law_509 dL_law_510 dL_law_511 (by decide) dL_law_512 dL_law_513 ?_
  refine l_arg (J := 2) F hf hS hl (by omega) dL_law_514 dL_law_515 dL_law_516 (by decide) dL_law_517 dL_law_518 ?_
  refine w_calli hS (az_sub hf.1) (w_run (As := [.int (xs (i + 1)), .int (xs (i + 2))]) (x := 0) F h1 (wW_D C (az_D hf.1)) hl (cX7_at_ok l D cA ad C (xs (i + 1)) (xs (i + 2)) r C1 e1) cz7 rfl cwL_64 ⟨Nat.le_of_ble_eq_true rfl, Nat.le_of_ble_eq_true rfl⟩ hc (Nat.le_of_ble_eq_true rfl) dL_law_519) (fun H locs h1 hk hS => ?_)
  have h2 := w_keep h2 (fun q a b => hd q b a) hk
  refine lv_aload_n F.1 F.2.1 dL_law_522 rfl (lv_at hl 1 rfl) ?_
  refine l_arg (J := 1) F hf hS hl (by omega) dL_law_523 dL_law_524 dL_law_525 (by decide) dL_law_526 dL_law_527 ?_
  refine l_arg (J := 2) F hf hS hl (by omega) dL_law_528 dL_law_529 dL_law_530 (by decide) dL_law_531 dL_law_532 ?_
  refine w_calli hS (az_sub hf.2.1) (w_run (As := [.int (xs (i + 1)), .int (xs (i + 2))]) (x := 0) F h2 (wW_D M (az_D hf.2.1)) hl (cX8_at_ok l D cA ad' M (xs (i + 1)) (xs (i + 2)) r M1 e2) cz8 rfl cwL_67 ⟨Nat.le_of_ble_eq_true rfl, Nat.le_of_ble_eq_true rfl⟩ hc (Nat.le_of_ble_eq_true rfl) dL_law_533) (fun H locs h2 hk hS => ?_)
  have h1 := w_keep h1 (fun q a b => hd q a b) hk
  refine lv_icmp_eq F.1 F.2.1 dL_law_536 (tgt := 716) (by decide) (fun _ => ?_) (fun hne => absurd rfl hne)
  exact kk C1 M1 H locs ⟨h1, h2, hS, hI1⟩
set_option maxHeartbeats 4000000 in
set_option maxRecDepth 20000 in
theorem l_case13 (F : Fx D cA RL cL_law 4 ret p s m #[Value.ref b] meth c) (hf : Lf D cA ad ad' s b L xs) (hw : Lw D cA ad ad' s C M H locs) (hl : lv_has ls 4 [(3, .int (nI i)), (2, .ref (ad' 0)), (1, .ref (ad 0)), (0, .ref b)]) (hi : i + 4 ≤ L) (hc : cells ≤ room_1.cells ∧ slots ≤ room_1.slots)
    (kk : ∀ (C1 M1 : Mem) (H1 : Heap) (locs1 : List Loc), Lw D cA ad ad' s C1 M1 H1 locs1 → W p l e room_1 s m #[Value.ref b] below meth c H1 locs1 cells slots Q (F0 m 716 ls [])) : W p l e room_1 s m #[Value.ref b] below meth c H locs cells slots Q (F0 m 541 ls []) := by
  have hd := hf.2.2.1
  obtain ⟨h1, h2, hS, hI⟩ := hw
  obtain ⟨⟨r, C1⟩, ⟨r2, M1⟩, e1, e2, hr, hI1⟩ := lr_all hI (xs (i + 1))
  change r = r2 at hr
  subst hr
  refine lv_aload_n F.1 F.2.1 dL_law_541 rfl (lv_at hl 2 rfl) ?_
  refine l_arg (J := 1) F hf hS hl (by omega) dL_law_542 dL_law_543 dL_law_544 (by decide) dL_law_545 dL_law_546 ?_
  refine w_calli hS (az_sub hf.1) (w_run (As := [.int (xs (i + 1))]) (x := 0) F h1 (wW_D C (az_D hf.1)) hl (cX7_all_ok l D cA ad C (xs (i + 1)) r C1 e1) cz7 rfl cwL_68 ⟨Nat.le_of_ble_eq_true rfl, Nat.le_of_ble_eq_true rfl⟩ hc (Nat.le_of_ble_eq_true rfl) dL_law_547) (fun H locs h1 hk hS => ?_)
  have h2 := w_keep h2 (fun q a b => hd q b a) hk
  refine lv_aload_n F.1 F.2.1 dL_law_550 rfl (lv_at hl 1 rfl) ?_
  refine l_arg (J := 1) F hf hS hl (by omega) dL_law_551 dL_law_552 dL_law_553 (by decide) dL_law_554 dL_law_555 ?_
  refine w_calli hS (az_sub hf.2.1) (w_run (As := [.int (xs (i + 1))]) (x := 0) F h2 (wW_D M (az_D hf.2.1)) hl (cX8_all_ok l D cA ad' M (xs (i + 1)) r M1 e2) cz8 rfl cwL_71 ⟨Nat.le_of_ble_eq_true rfl, Nat.le_of_ble_eq_true rfl⟩ hc (Nat.le_of_ble_eq_true rfl) dL_law_556) (fun H locs h2 hk hS => ?_)
  have h1 := w_keep h1 (fun q a b => hd q a b) hk
  refine lv_icmp_eq F.1 F.2.1 dL_law_559 (tgt := 716) (by decide) (fun _ => ?_) (fun hne => absurd rfl hne)
  exact kk C1 M1 H locs ⟨h1, h2, hS, hI1⟩
set_option maxHeartbeats 4000000 in
set_option maxRecDepth 20000 in
theorem l_case14 (F : Fx D cA RL cL_law 4 ret p s m #[Value.ref b] meth c) (hf : Lf D cA ad ad' s b L xs) (hw : Lw D cA ad ad' s C M H locs) (hl : lv_has ls 4 [(3, .int (nI i)), (2, .ref (ad' 0)), (1, .ref (ad 0)), (0, .ref b)]) (hi : i + 4 ≤ L) (hc : cells ≤ room_1.cells ∧ slots ≤ room_1.slots)
    (kk : ∀ (C1 M1 : Mem) (H1 : Heap) (locs1 : List Loc), Lw D cA ad ad' s C1 M1 H1 locs1 → W p l e room_1 s m #[Value.ref b] below meth c H1 locs1 cells slots Q (F0 m 716 ls [])) : W p l e room_1 s m #[Value.ref b] below meth c H locs cells slots Q (F0 m 564 ls []) := by
  have hd := hf.2.2.1
  obtain ⟨h1, h2, hS, hI⟩ := hw
  obtain ⟨⟨r, C1⟩, ⟨r2, M1⟩, e1, e2, hr, hI1⟩ := lr_window hI (xs (i + 1)) (xs (i + 2))
  change r = r2 at hr
  subst hr
  refine lv_aload_n F.1 F.2.1 dL_law_564 rfl (lv_at hl 2 rfl) ?_
  refine l_arg (J := 1) F hf hS hl (by omega) dL_law_565 dL_law_566 dL_law_567 (by decide) dL_law_568 dL_law_569 ?_
  refine l_arg (J := 2) F hf hS hl (by omega) dL_law_570 dL_law_571 dL_law_572 (by decide) dL_law_573 dL_law_574 ?_
  refine w_calli hS (az_sub hf.1) (w_run (As := [.int (xs (i + 1)), .int (xs (i + 2))]) (x := 0) F h1 (wW_D C (az_D hf.1)) hl (cX7_window_ok l D cA ad C (xs (i + 1)) (xs (i + 2)) r C1 e1) cz7 rfl cwL_72 ⟨Nat.le_of_ble_eq_true rfl, Nat.le_of_ble_eq_true rfl⟩ hc (Nat.le_of_ble_eq_true rfl) dL_law_575) (fun H locs h1 hk hS => ?_)
  have h2 := w_keep h2 (fun q a b => hd q b a) hk
  refine lv_aload_n F.1 F.2.1 dL_law_578 rfl (lv_at hl 1 rfl) ?_
  refine l_arg (J := 1) F hf hS hl (by omega) dL_law_579 dL_law_580 dL_law_581 (by decide) dL_law_582 dL_law_583 ?_
  refine l_arg (J := 2) F hf hS hl (by omega) dL_law_584 dL_law_585 dL_law_586 (by decide) dL_law_587 dL_law_588 ?_
  refine w_calli hS (az_sub hf.2.1) (w_run (As := [.int (xs (i + 1)), .int (xs (i + 2))]) (x := 0) F h2 (wW_D M (az_D hf.2.1)) hl (cX8_window_ok l D cA ad' M (xs (i + 1)) (xs (i + 2)) r M1 e2) cz8 rfl cwL_75 ⟨Nat.le_of_ble_eq_true rfl, Nat.le_of_ble_eq_true rfl⟩ hc (Nat.le_of_ble_eq_true rfl) dL_law_589) (fun H locs h2 hk hS => ?_)
  have h1 := w_keep h1 (fun q a b => hd q a b) hk
  refine lv_icmp_eq F.1 F.2.1 dL_law_592 (tgt := 716) (by decide) (fun _ => ?_) (fun hne => absurd rfl hne)
  exact kk C1 M1 H locs ⟨h1, h2, hS, hI1⟩
set_option maxHeartbeats 4000000 in
set_option maxRecDepth 20000 in
theorem l_case15 (F : Fx D cA RL cL_law 4 ret p s m #[Value.ref b] meth c) (hf : Lf D cA ad ad' s b L xs) (hw : Lw D cA ad ad' s C M H locs) (hl : lv_has ls 4 [(3, .int (nI i)), (2, .ref (ad' 0)), (1, .ref (ad 0)), (0, .ref b)]) (hi : i + 4 ≤ L) (hc : cells ≤ room_1.cells ∧ slots ≤ room_1.slots)
    (kk : ∀ (C1 M1 : Mem) (H1 : Heap) (locs1 : List Loc), Lw D cA ad ad' s C1 M1 H1 locs1 → W p l e room_1 s m #[Value.ref b] below meth c H1 locs1 cells slots Q (F0 m 716 ls [])) : W p l e room_1 s m #[Value.ref b] below meth c H locs cells slots Q (F0 m 597 ls []) := by
  have hd := hf.2.2.1
  obtain ⟨h1, h2, hS, hI⟩ := hw
  obtain ⟨⟨r, C1⟩, ⟨r2, M1⟩, e1, e2, hr, hI1⟩ := lr_copy hI (xs (i + 1)) (xs (i + 2))
  change r = r2 at hr
  subst hr
  refine lv_aload_n F.1 F.2.1 dL_law_597 rfl (lv_at hl 2 rfl) ?_
  refine l_arg (J := 1) F hf hS hl (by omega) dL_law_598 dL_law_599 dL_law_600 (by decide) dL_law_601 dL_law_602 ?_
  refine l_arg (J := 2) F hf hS hl (by omega) dL_law_603 dL_law_604 dL_law_605 (by decide) dL_law_606 dL_law_607 ?_
  refine w_calli hS (az_sub hf.1) (w_run (As := [.int (xs (i + 1)), .int (xs (i + 2))]) (x := 0) F h1 (wW_D C (az_D hf.1)) hl (cX7_copy_ok l D cA ad C (xs (i + 1)) (xs (i + 2)) r C1 e1) cz7 rfl cwL_76 ⟨Nat.le_of_ble_eq_true rfl, Nat.le_of_ble_eq_true rfl⟩ hc (Nat.le_of_ble_eq_true rfl) dL_law_608) (fun H locs h1 hk hS => ?_)
  have h2 := w_keep h2 (fun q a b => hd q b a) hk
  refine lv_aload_n F.1 F.2.1 dL_law_611 rfl (lv_at hl 1 rfl) ?_
  refine l_arg (J := 1) F hf hS hl (by omega) dL_law_612 dL_law_613 dL_law_614 (by decide) dL_law_615 dL_law_616 ?_
  refine l_arg (J := 2) F hf hS hl (by omega) dL_law_617 dL_law_618 dL_law_619 (by decide) dL_law_620 dL_law_621 ?_
  refine w_calli hS (az_sub hf.2.1) (w_run (As := [.int (xs (i + 1)), .int (xs (i + 2))]) (x := 0) F h2 (wW_D M (az_D hf.2.1)) hl (cX8_copy_ok l D cA ad' M (xs (i + 1)) (xs (i + 2)) r M1 e2) cz8 rfl cwL_79 ⟨Nat.le_of_ble_eq_true rfl, Nat.le_of_ble_eq_true rfl⟩ hc (Nat.le_of_ble_eq_true rfl) dL_law_622) (fun H locs h2 hk hS => ?_)
  have h1 := w_keep h1 (fun q a b => hd q a b) hk
  refine lv_icmp_eq F.1 F.2.1 dL_law_625 (tgt := 716) (by decide) (fun _ => ?_) (fun hne => absurd rfl hne)
  exact kk C1 M1 H locs ⟨h1, h2, hS, hI1⟩
set_option maxHeartbeats 4000000 in
set_option maxRecDepth 20000 in
theorem l_case16 (F : Fx D cA RL cL_law 4 ret p s m #[Value.ref b] meth c) (hf : Lf D cA ad ad' s b L xs) (hw : Lw D cA ad ad' s C M H locs) (hl : lv_has ls 4 [(3, .int (nI i)), (2, .ref (ad' 0)), (1, .ref (ad 0)), (0, .ref b)]) (hi : i + 4 ≤ L) (hc : cells ≤ room_1.cells ∧ slots ≤ room_1.slots)
    (kk : ∀ (C1 M1 : Mem) (H1 : Heap) (locs1 : List Loc), Lw D cA ad ad' s C1 M1 H1 locs1 → W p l e room_1 s m #[Value.ref b] below meth c H1 locs1 cells slots Q (F0 m 716 ls [])) : W p l e room_1 s m #[Value.ref b] below meth c H locs cells slots Q (F0 m 630 ls []) := by
  have hd := hf.2.2.1
  obtain ⟨h1, h2, hS, hI⟩ := hw
  obtain ⟨⟨r, C1⟩, ⟨r2, M1⟩, e1, e2, hr, hI1⟩ := lr_type hI (xs (i + 1))
  change r = r2 at hr
  subst hr
  refine lv_aload_n F.1 F.2.1 dL_law_630 rfl (lv_at hl 2 rfl) ?_
  refine l_arg (J := 1) F hf hS hl (by omega) dL_law_631 dL_law_632 dL_law_633 (by decide) dL_law_634 dL_law_635 ?_
  refine w_calli hS (az_sub hf.1) (w_run (As := [.int (xs (i + 1))]) (x := 0) F h1 (wW_D C (az_D hf.1)) hl (cX7_type_ok l D cA ad C (xs (i + 1)) r C1 e1) cz7 rfl cwL_80 ⟨Nat.le_of_ble_eq_true rfl, Nat.le_of_ble_eq_true rfl⟩ hc (Nat.le_of_ble_eq_true rfl) dL_law_636) (fun H locs h1 hk hS => ?_)
  have h2 := w_keep h2 (fun q a b => hd q b a) hk
  refine lv_aload_n F.1 F.2.1 dL_law_639 rfl (lv_at hl 1 rfl) ?_
  refine l_arg (J := 1) F hf hS hl (by omega) dL_law_640 dL_law_641 dL_law_642 (by decide) dL_law_643 dL_law_644 ?_
  refine w_calli hS (az_sub hf.2.1) (w_run (As := [.int (xs (i + 1))]) (x := 0) F h2 (wW_D M (az_D hf.2.1)) hl (cX8_type_ok l D cA ad' M (xs (i + 1)) r M1 e2) cz8 rfl cwL_83 ⟨Nat.le_of_ble_eq_true rfl, Nat.le_of_ble_eq_true rfl⟩ hc (Nat.le_of_ble_eq_true rfl) dL_law_645) (fun H locs h2 hk hS => ?_)
  have h1 := w_keep h1 (fun q a b => hd q a b) hk
  refine lv_icmp_eq F.1 F.2.1 dL_law_648 (tgt := 716) (by decide) (fun _ => ?_) (fun hne => absurd rfl hne)
  exact kk C1 M1 H locs ⟨h1, h2, hS, hI1⟩
set_option maxHeartbeats 4000000 in
set_option maxRecDepth 20000 in
theorem l_case17 (F : Fx D cA RL cL_law 4 ret p s m #[Value.ref b] meth c) (hf : Lf D cA ad ad' s b L xs) (hw : Lw D cA ad ad' s C M H locs) (hl : lv_has ls 4 [(3, .int (nI i)), (2, .ref (ad' 0)), (1, .ref (ad 0)), (0, .ref b)]) (hi : i + 4 ≤ L) (hc : cells ≤ room_1.cells ∧ slots ≤ room_1.slots)
    (kk : ∀ (C1 M1 : Mem) (H1 : Heap) (locs1 : List Loc), Lw D cA ad ad' s C1 M1 H1 locs1 → W p l e room_1 s m #[Value.ref b] below meth c H1 locs1 cells slots Q (F0 m 716 ls [])) : W p l e room_1 s m #[Value.ref b] below meth c H locs cells slots Q (F0 m 653 ls []) := by
  have hd := hf.2.2.1
  obtain ⟨h1, h2, hS, hI⟩ := hw
  obtain ⟨⟨r, C1⟩, ⟨r2, M1⟩, e1, e2, hr, hI1⟩ := lr_clear hI
  change r = r2 at hr
  subst hr
  refine lv_aload_n F.1 F.2.1 dL_law_653 rfl (lv_at hl 2 rfl) ?_
  refine w_calli hS (az_sub hf.1) (w_run (As := []) (x := 0) F h1 (wW_D C (az_D hf.1)) hl (cX7_clear_ok l D cA ad C  r C1 e1) cz7 rfl cwL_84 ⟨Nat.le_of_ble_eq_true rfl, Nat.le_of_ble_eq_true rfl⟩ hc (Nat.le_of_ble_eq_true rfl) dL_law_654) (fun H locs h1 hk hS => ?_)
  have h2 := w_keep h2 (fun q a b => hd q b a) hk
  refine lv_aload_n F.1 F.2.1 dL_law_657 rfl (lv_at hl 1 rfl) ?_
  refine w_calli hS (az_sub hf.2.1) (w_run (As := []) (x := 0) F h2 (wW_D M (az_D hf.2.1)) hl (cX8_clear_ok l D cA ad' M  r M1 e2) cz8 rfl cwL_88 ⟨Nat.le_of_ble_eq_true rfl, Nat.le_of_ble_eq_true rfl⟩ hc (Nat.le_of_ble_eq_true rfl) dL_law_658) (fun H locs h2 hk hS => ?_)
  have h1 := w_keep h1 (fun q a b => hd q a b) hk
  refine lv_icmp_eq F.1 F.2.1 dL_law_661 (tgt := 716) (by decide) (fun _ => ?_) (fun hne => absurd rfl hne)
  exact kk C1 M1 H locs ⟨h1, h2, hS, hI1⟩
set_option maxHeartbeats 4000000 in
set_option maxRecDepth 20000 in
theorem l_case18 (F : Fx D cA RL cL_law 4 ret p s m #[Value.ref b] meth c) (hf : Lf D cA ad ad' s b L xs) (hw : Lw D cA ad ad' s C M H locs) (hl : lv_has ls 4 [(3, .int (nI i)), (2, .ref (ad' 0)), (1, .ref (ad 0)), (0, .ref b)]) (hi : i + 4 ≤ L) (hc : cells ≤ room_1.cells ∧ slots ≤ room_1.slots)
    (kk : ∀ (C1 M1 : Mem) (H1 : Heap) (locs1 : List Loc), Lw D cA ad ad' s C1 M1 H1 locs1 → W p l e room_1 s m #[Value.ref b] below meth c H1 locs1 cells slots Q (F0 m 716 ls [])) : W p l e room_1 s m #[Value.ref b] below meth c H locs cells slots Q (F0 m 666 ls []) := by
  have hd := hf.2.2.1
  obtain ⟨h1, h2, hS, hI⟩ := hw
  obtain ⟨⟨r, C1⟩, ⟨r2, M1⟩, e1, e2, hr, hI1⟩ := lr_does hI
  change r = r2 at hr
  subst hr
  refine lv_aload_n F.1 F.2.1 dL_law_666 rfl (lv_at hl 2 rfl) ?_
  refine w_calli hS (az_sub hf.1) (w_run (As := []) (x := 0) F h1 (wW_D C (az_D hf.1)) hl (cX7_does_ok l D cA ad C  r C1 e1) cz7 rfl cwL_89 ⟨Nat.le_of_ble_eq_true rfl, Nat.le_of_ble_eq_true rfl⟩ hc (Nat.le_of_ble_eq_true rfl) dL_law_667) (fun H locs h1 hk hS => ?_)
  have h2 := w_keep h2 (fun q a b => hd q b a) hk
  refine lv_aload_n F.1 F.2.1 dL_law_670 rfl (lv_at hl 1 rfl) ?_
  refine w_calli hS (az_sub hf.2.1) (w_run (As := []) (x := 0) F h2 (wW_D M (az_D hf.2.1)) hl (cX8_does_ok l D cA ad' M  r M1 e2) cz8 rfl cwL_92 ⟨Nat.le_of_ble_eq_true rfl, Nat.le_of_ble_eq_true rfl⟩ hc (Nat.le_of_ble_eq_true rfl) dL_law_671) (fun H locs h2 hk hS => ?_)
  have h1 := w_keep h1 (fun q a b => hd q a b) hk
  refine lv_icmp_eq F.1 F.2.1 dL_law_674 (tgt := 716) (by decide) (fun _ => ?_) (fun hne => absurd rfl hne)
  exact kk C1 M1 H locs ⟨h1, h2, hS, hI1⟩
set_option maxHeartbeats 4000000 in
set_option maxRecDepth 20000 in
theorem l_case19 (F : Fx D cA RL cL_law 4 ret p s m #[Value.ref b] meth c) (hf : Lf D cA ad ad' s b L xs) (hw : Lw D cA ad ad' s C M H locs) (hl : lv_has ls 4 [(3, .int (nI i)), (2, .ref (ad' 0)), (1, .ref (ad 0)), (0, .ref b)]) (hi : i + 4 ≤ L) (hc : cells ≤ room_1.cells ∧ slots ≤ room_1.slots)
    (kk : ∀ (C1 M1 : Mem) (H1 : Heap) (locs1 : List Loc), Lw D cA ad ad' s C1 M1 H1 locs1 → W p l e room_1 s m #[Value.ref b] below meth c H1 locs1 cells slots Q (F0 m 716 ls [])) : W p l e room_1 s m #[Value.ref b] below meth c H locs cells slots Q (F0 m 679 ls []) := by
  have hd := hf.2.2.1
  obtain ⟨h1, h2, hS, hI⟩ := hw
  obtain ⟨⟨r, C1⟩, ⟨r2, M1⟩, e1, e2, hr, hI1⟩ := lr_told hI (xs (i + 1))
  change r = r2 at hr
  subst hr
  refine lv_aload_n F.1 F.2.1 dL_law_679 rfl (lv_at hl 2 rfl) ?_
  refine l_arg (J := 1) F hf hS hl (by omega) dL_law_680 dL_law_681 dL_law_682 (by decide) dL_law_683 dL_law_684 ?_
  refine w_calli hS (az_sub hf.1) (w_run (As := [.int (xs (i + 1))]) (x := 0) F h1 (wW_D C (az_D hf.1)) hl (cX7_told_ok l D cA ad C (xs (i + 1)) r C1 e1) cz7 rfl cwL_93 ⟨Nat.le_of_ble_eq_true rfl, Nat.le_of_ble_eq_true rfl⟩ hc (Nat.le_of_ble_eq_true rfl) dL_law_685) (fun H locs h1 hk hS => ?_)
  have h2 := w_keep h2 (fun q a b => hd q b a) hk
  refine lv_aload_n F.1 F.2.1 dL_law_688 rfl (lv_at hl 1 rfl) ?_
  refine l_arg (J := 1) F hf hS hl (by omega) dL_law_689 dL_law_690 dL_law_691 (by decide) dL_law_692 dL_law_693 ?_
  refine w_calli hS (az_sub hf.2.1) (w_run (As := [.int (xs (i + 1))]) (x := 0) F h2 (wW_D M (az_D hf.2.1)) hl (cX8_told_ok l D cA ad' M (xs (i + 1)) r M1 e2) cz8 rfl cwL_96 ⟨Nat.le_of_ble_eq_true rfl, Nat.le_of_ble_eq_true rfl⟩ hc (Nat.le_of_ble_eq_true rfl) dL_law_694) (fun H locs h2 hk hS => ?_)
  have h1 := w_keep h1 (fun q a b => hd q a b) hk
  refine lv_icmp_eq F.1 F.2.1 dL_law_697 (tgt := 716) (by decide) (fun _ => ?_) (fun hne => absurd rfl hne)
  exact kk C1 M1 H locs ⟨h1, h2, hS, hI1⟩
set_option maxHeartbeats 4000000 in
set_option maxRecDepth 20000 in
theorem l_case20 (F : Fx D cA RL cL_law 4 ret p s m #[Value.ref b] meth c) (hf : Lf D cA ad ad' s b L xs) (hw : Lw D cA ad ad' s C M H locs) (hl : lv_has ls 4 [(3, .int (nI i)), (2, .ref (ad' 0)), (1, .ref (ad 0)), (0, .ref b)]) (hi : i + 4 ≤ L) (hc : cells ≤ room_1.cells ∧ slots ≤ room_1.slots)
    (kk : ∀ (C1 M1 : Mem) (H1 : Heap) (locs1 : List Loc), Lw D cA ad ad' s C1 M1 H1 locs1 → W p l e room_1 s m #[Value.ref b] below meth c H1 locs1 cells slots Q (F0 m 716 ls [])) : W p l e room_1 s m #[Value.ref b] below meth c H locs cells slots Q (F0 m 702 ls []) := by
  have hd := hf.2.2.1
  obtain ⟨h1, h2, hS, hI⟩ := hw
  obtain ⟨r, e1, e2⟩ := lr_digest hI
  refine lv_aload_n F.1 F.2.1 dL_law_702 rfl (lv_at hl 2 rfl) ?_
  refine w_calll hS (az_sub hf.1) (w_run (As := []) (x := 0) F h1 (wW_D C (az_D hf.1)) hl (cX7_digest_ok l D cA ad C r C e1) cz7 rfl cwL_97 ⟨Nat.le_of_ble_eq_true rfl, Nat.le_of_ble_eq_true rfl⟩ hc (Nat.le_of_ble_eq_true rfl) dL_law_703) (fun H locs h1 hk hS => ?_)
  have h2 := w_keep h2 (fun q a b => hd q b a) hk
  refine lv_aload_n F.1 F.2.1 dL_law_706 rfl (lv_at hl 1 rfl) ?_
  refine w_calll hS (az_sub hf.2.1) (w_run (As := []) (x := 0) F h2 (wW_D M (az_D hf.2.1)) hl (cX8_digest_ok l D cA ad' M r e2) cz8 rfl cwL_101 ⟨Nat.le_of_ble_eq_true rfl, Nat.le_of_ble_eq_true rfl⟩ hc (Nat.le_of_ble_eq_true rfl) dL_law_707) (fun H locs h2 hk hS => ?_)
  have h1 := w_keep h1 (fun q a b => hd q a b) hk
  refine W.lcmp F.1 F.2.1 dL_law_710 ?_
  refine lv_if_eq F.1 F.2.1 dL_law_711 (tgt := 716) (by decide) (fun _ => ?_) (fun hne => absurd (show lg_cmp r r = 0 by simp [lg_cmp]) hne)
  exact kk C M H locs ⟨h1, h2, hS, hI⟩
theorem and31 (x : Int32) : ∃ j : Nat, j < 32 ∧ x &&& 31 = nI j := pk_andE x 5 (by decide)
set_option maxHeartbeats 4000000 in
set_option maxRecDepth 100000 in
theorem l_loop (F : Fx D cA RL cL_law 4 ret p s m #[Value.ref b] meth c) (hf : Lf D cA ad ad' s b L xs) (hc : cells ≤ room_1.cells ∧ slots ≤ room_1.slots)
    (kk : ∀ (H1 : Heap) (locs1 : List Loc) (ls : Array Slot), va_S (fun q : Nat => s.heap.size ≤ q) s.heap H1 locs1 → W p l e room_1 s m #[Value.ref b] below meth c H1 locs1 cells slots Q (F0 m 722 ls [])) :
    ∀ (n i : Nat) (C M : Mem) (H : Heap) (locs : List Loc) (ls : Array Slot), i ≤ L → L + 1 ≤ i + n → Lw D cA ad ad' s C M H locs → lv_has ls 4 [(3, .int (nI i)), (2, .ref (ad' 0)), (1, .ref (ad 0)), (0, .ref b)] → W p l e room_1 s m #[Value.ref b] below meth c H locs cells slots Q (F0 m 18 ls []) := by
  have hX := hf.2.2.2.1
  have hbl := hf.2.2.2.2.1
  have hL := hf.2.2.2.2.2
  intro n
  induction n with
  | zero =>
    intro i C M H locs ls h1 h2
    omega
  | succ n ih =>
    intro i C M H locs ls hi hin hw hl
    have hS := hw.2.2.1
    refine lv_iload_n F.1 F.2.1 dL_law_18 rfl (lv_at hl 0 rfl) ?_
    refine lv_aload_n F.1 F.2.1 dL_law_19 rfl (lv_at hl 3 rfl) ?_
    refine va_slen F.1 F.2.1 hX hbl (Nat.not_le.mpr hbl) hS dL_law_20 ?_
    refine lv_iconst (v := 4) F.1 F.2.1 dL_law_21 (by decide) ?_
    refine lv_isub F.1 F.2.1 dL_law_22 ?_
    have hcmp : (Int32.ofNat L - 4 < nI i) ↔ L < i + 4 := by
      rw [i_lt, show (Int32.ofNat L - 4).toInt = (L : Int) - (4 : Nat) from pk_sub_toInt (a := L) (b := 4) (by omega) (by omega), nI_toI (by omega)]
      omega
    refine lv_icmp_gt F.1 F.2.1 dL_law_23 (tgt := 722) (by decide) (fun _ => kk H locs ls hS) (fun hx => ?_)
    have h4 : i + 4 ≤ L := by
      rcases Nat.lt_or_ge L (i + 4) with q | q
      · exact absurd (hcmp.mpr q) hx
      · exact q
    refine lv_aload_n F.1 F.2.1 dL_law_26 rfl (lv_at hl 3 rfl) ?_
    refine lv_iload_n F.1 F.2.1 dL_law_27 rfl (lv_at hl 0 rfl) ?_
    refine va_sld F.1 F.2.1 hX hbl (Nat.not_le.mpr hbl) hS (vp_in_nI (show i < L by omega) (by omega)) dL_law_28 ?_
    refine lv_bipush (v := 31) F.1 F.2.1 dL_law_29 (by decide) ?_
    refine lv_iand F.1 F.2.1 dL_law_31 ?_
    have back : ∀ (C1 M1 : Mem) (H1 : Heap) (locs1 : List Loc), Lw D cA ad ad' s C1 M1 H1 locs1 → W p l e room_1 s m #[Value.ref b] below meth c H1 locs1 cells slots Q (F0 m 716 ls []) := by
      intro C1 M1 H1 locs1 hw1
      refine lv_iinc (i := 3) (k := 0) (v := nI (i + 4)) (lv' := [(3, .int (nI (i + 4))), (2, .ref (ad' 0)), (1, .ref (ad 0)), (0, .ref b)]) F.1 F.2.1 dL_law_716 hl rfl (show nI i + Int32.ofInt 4 = nI (i + 4) from nI_add i 4) (by decide) rfl (fun ls hl => ?_)
      refine lv_goto F.1 F.2.1 dL_law_719 (tgt := 18) (by decide) ?_
      exact ih (i + 4) C1 M1 H1 locs1 ls h4 (by omega) hw1 hl
    obtain ⟨j, hj, ej⟩ := and31 (xs (nI i).toNatClampNeg)
    rw [ej]
    have hjt : (nI j).toInt = j := nI_toI (by omega)
    by_cases hj20 : j ≤ 20
    · have ho : ∀ (off : Int) (tgt : Nat), (#[100, 133, 176, 219, 242, 285, 308, 331, 354, 377, 410, 443, 476, 509, 532, 565, 598, 621, 634, 647, 670] : Array Int)[j]? = some off → (32 : Int) + off = (tgt : Int) → W p l e room_1 s m #[Value.ref b] below meth c H locs cells slots Q (F0 m tgt ls []) → W p l e room_1 s m #[Value.ref b] below meth c H locs cells slots Q (F0 m 32 ls (.int (nI j) :: [])) := fun off tgt h1 h2 k => lv_tableIn F.1 F.2.1 dL_law_32 (by rw [hjt]; omega) (by rw [hjt]; omega) (by rw [hjt, Int.sub_zero, Int.toNat_natCast]; exact h1) h2 k
      rcases (show j = 0 ∨ j = 1 ∨ j = 2 ∨ j = 3 ∨ j = 4 ∨ j = 5 ∨ j = 6 ∨ j = 7 ∨ j = 8 ∨ j = 9 ∨ j = 10 ∨ j = 11 ∨ j = 12 ∨ j = 13 ∨ j = 14 ∨ j = 15 ∨ j = 16 ∨ j = 17 ∨ j = 18 ∨ j = 19 ∨ j = 20 by omega) with ej2 | ej2 | ej2 | ej2 | ej2 | ej2 | ej2 | ej2 | ej2 | ej2 | ej2 | ej2 | ej2 | ej2 | ej2 | ej2 | ej2 | ej2 | ej2 | ej2 | ej2 <;> subst ej2
      · exact ho 100 132 rfl (by decide) (l_case0 F hf hw hl h4 hc back)
      · exact ho 133 165 rfl (by decide) (l_case1 F hf hw hl h4 hc back)
      · exact ho 176 208 rfl (by decide) (l_case2 F hf hw hl h4 hc back)
      · exact ho 219 251 rfl (by decide) (l_case3 F hf hw hl h4 hc back)
      · exact ho 242 274 rfl (by decide) (l_case4 F hf hw hl h4 hc back)
      · exact ho 285 317 rfl (by decide) (l_case5 F hf hw hl h4 hc back)
      · exact ho 308 340 rfl (by decide) (l_case6 F hf hw hl h4 hc back)
      · exact ho 331 363 rfl (by decide) (l_case7 F hf hw hl h4 hc back)
      · exact ho 354 386 rfl (by decide) (l_case8 F hf hw hl h4 hc back)
      · exact ho 377 409 rfl (by decide) (l_case9 F hf hw hl h4 hc back)
      · exact ho 410 442 rfl (by decide) (l_case10 F hf hw hl h4 hc back)
      · exact ho 443 475 rfl (by decide) (l_case11 F hf hw hl h4 hc back)
      · exact ho 476 508 rfl (by decide) (l_case12 F hf hw hl h4 hc back)
      · exact ho 509 541 rfl (by decide) (l_case13 F hf hw hl h4 hc back)
      · exact ho 532 564 rfl (by decide) (l_case14 F hf hw hl h4 hc back)
      · exact ho 565 597 rfl (by decide) (l_case15 F hf hw hl h4 hc back)
      · exact ho 598 630 rfl (by decide) (l_case16 F hf hw hl h4 hc back)
      · exact ho 621 653 rfl (by decide) (l_case17 F hf hw hl h4 hc back)
      · exact ho 634 666 rfl (by decide) (l_case18 F hf hw hl h4 hc back)
      · exact ho 647 679 rfl (by decide) (l_case19 F hf hw hl h4 hc back)
      · exact ho 670 702 rfl (by decide) (l_case20 F hf hw hl h4 hc back)
    · refine lv_tableOut F.1 F.2.1 dL_law_32 (Or.inr (by rw [hjt]; omega)) (tgt := 716) (by decide) ?_
      exact back C M H locs hw
end LW
