/-! rows for the net's constructor -/
section I2
variable {p : Program} {l : Launch} {e : Env} {R : Room} {s : State} {m : MethodId} {args : Array Value} {below : List Frame} {meth : Method} {c : Code} {H : Heap} {locs : List Loc} {Q : State → Prop} {cells slots : Nat}
variable {D : va_G} {cA : Nat → ClassId} {H0 : Heap} {cc : ByteArray} {own : String} {nL : Nat} {ret : Option FieldType} {pc : Nat} {ls : Array Slot} {rest : List Value} {lv : List (Nat × Value)} {ws : va_W} {A : Nat → Prop}
theorem i_get (F : Fx D cA own cc nL ret p s m args meth c) (hP : va_P D cls9 ws H) (x : Nat) {a ci : Nat} {fs : List Value} (he : ws[x]? = some (a, .inr (ci, fs))) {T : u_T} {N : Nat} (hz : Cz ci own T N) (k : Nat) (hk : k < N) {v : Value} {index : Nat} (hl : Cond.fieldLink own index own (T k).2.1 (T k).2.2.1 ∈ BIG) (hT : (T k).1 = own) (hv : fs[k]? = some v) (hd : decode cc pc = .ok (.getfield index, 3))
    (kk : W p l e R s m args below meth c H locs cells slots Q (F0 m (pc + 3) ls (v :: rest))) : W p l e R s m args below meth c H locs cells slots Q (F0 m pc ls (.ref a :: rest)) := by
  obtain ⟨f1, f2, f3, f4, f5, f6, -⟩ := F
  exact va_get f1 f2 f5 hz.2.1 f4 f6 hP x he hz.1 k hk (f5 _ hl) (fun _ h => by rw [hT] at h; exact h) hv hd kk
theorem i_newq (F : Fx D cA own cc nL ret p s m args meth c) {C : String} (hO : va_AO C s) (hP : va_P D cls9 ws H) (hD : va_D A ws) (hS : va_S A H0 H locs) (hA : ∀ q, H0.size ≤ q → A q) (t : Nat) (ht : (tysz cA)[t]? = some (cA t, .object C)) (_h4 : t < 4) {n : Int32} (N : Nat) (hN : N < 4000) (hn : n = nI N) {index : Nat} (hl : Cond.classLink own index C ∈ BIG) (hc : cells + 1 ≤ R.cells ∧ slots + N ≤ R.slots) (hd : decode cc pc = .ok (.anewarray index, 3))
    (kk : ∀ (q : Nat) (H1 : Heap), va_P D cls9 (ws ++ [(q, .inl (cA t, N, .inr (.inr (.inr (.inr (fun _ => none))))))]) H1 → va_D A (ws ++ [(q, .inl (cA t, N, .inr (.inr (.inr (.inr (fun _ => none))))))]) → va_S A H0 H1 locs → W p l e R s m args below meth c H1 locs (cells + 1) (slots + N) Q (F0 m (pc + 3) ls (.ref q :: rest))) : W p l e R s m args below meth c H locs cells slots Q (F0 m pc ls (.int n :: rest)) := by
  obtain ⟨f1, f2, f3, f4, f5, f6, -⟩ := F
  subst hn
  refine va_newq f1 f2 f4 (f5 _ hl) hO f6 hP hD hS hA (nI_pos (by omega)) (nI_cl (by omega)) (by omega) hc.1 hc.2 hd (fun q c' H1 hK' h1 h2 h3 => ?_)
  obtain ⟨-, -, -, -, -, e1⟩ := (hK'.2 4 _ rfl).2
  obtain ⟨-, -, -, -, -, e2⟩ := (f6.2 t _ ht).2
  have e3 : c' = cA t := Option.some.inj (Eq.trans (Eq.symm e1) e2)
  subst e3
  exact kk q H1 h1 h2 h3
theorem i_aast (F : Fx D cA own cc nL ret p s m args meth c) (hP : va_P D cls9 ws H) (hD : va_D A ws) (hS : va_S A H0 H locs) (x t y : Nat) {a n v ci : Nat} {C : String} {T : u_T} {N : Nat} {vs : List Value} {f : Nat → Option Nat} (he : ws[x]? = some (a, .inl (cA t, n, .inr (.inr (.inr (.inr f)))))) (ht : (tysz cA)[t]? = some (cA t, .object C)) (hv : ws[y]? = some (v, .inr (ci, vs))) (hc : cls9[ci]? = some (C, T, N)) (k : Nat) (hk : k < n) (hn : n < 4000) {i : Int32} (hi : i = nI k) (hd : decode cc pc = .ok (.aastore, 1))
    (kk : ∀ (H1 : Heap) (locs1 : List Loc), va_P D cls9 (ws.set x (a, .inl (cA t, n, .inr (.inr (.inr (.inr (va_up f k (some v)))))))) H1 → va_D A (ws.set x (a, .inl (cA t, n, .inr (.inr (.inr (.inr (va_up f k (some v)))))))) → va_S A H0 H1 locs1 → W p l e R s m args below meth c H1 locs1 cells slots Q (F0 m (pc + 1) ls rest)) : W p l e R s m args below meth c H locs cells slots Q (F0 m pc ls (.ref v :: .int i :: .ref a :: rest)) := by
  obtain ⟨f1, f2, f3, f4, f5, f6, -⟩ := F
  subst hi
  refine va_astq (r := (C, T, N)) f1 f2 f6 hP hD hS x t y ci he ht hv hc (vp_in_nI hk (by omega)) hd (fun H1 locs1 h1 h2 h3 => ?_)
  rw [nI_cl (by omega)] at h1 h2
  exact kk H1 locs1 h1 h2 h3
def gz (cA : Nat → ClassId) (q : Nat) : va_W := [(q, .inl (cA 1, 6, .inr (.inr (.inr (.inr (fun i => if i < 6 then some (q + 1 + i) else none)))))), (q + 1 + 0, .inl (cA 0, 4, .inl (fun _ => 0))), (q + 1 + 1, .inl (cA 0, 4, .inl (fun _ => 0))), (q + 1 + 2, .inl (cA 0, 4, .inl (fun _ => 0))), (q + 1 + 3, .inl (cA 0, 4, .inl (fun _ => 0))), (q + 1 + 4, .inl (cA 0, 4, .inl (fun _ => 0))), (q + 1 + 5, .inl (cA 0, 4, .inl (fun _ => 0)))]
theorem gz_at {q k : Nat} {x : Nat × va_E} (h : (gz cA q)[k]? = some x) : x.1 = q + k := by
  have hk : k < 7 := (List.getElem?_eq_some_iff.mp h).1
  rcases (show k = 0 ∨ k = 1 ∨ k = 2 ∨ k = 3 ∨ k = 4 ∨ k = 5 ∨ k = 6 by omega) with e | e | e | e | e | e | e <;> subst e <;> cases h <;> (first | rfl | (show _ + 1 + _ = _; omega))
theorem i_mna (F : Fx D cA own cc nL ret p s m args meth c) (hX : Nx s) (hP : va_P D cls9 ws H) (hD : va_D A ws) (hS : va_S A H0 H locs) (hA : ∀ q, H0.size ≤ q → A q) {index : Nat} (hl : Cond.classLink own index "[[I" ∈ BIG) (hc : cells + (1 + 6) ≤ R.cells ∧ slots + (6 + 6 * 4) ≤ R.slots) (hd : decode cc pc = .ok (.multianewarray index 2, 4))
    (kk : ∀ (q : Nat) (H1 : Heap) (locs1 : List Loc), va_P D cls9 (ws ++ gz cA q) H1 → va_D A (ws ++ gz cA q) → va_S A H0 H1 locs1 → W p l e R s m args below meth c H1 locs1 (cells + 1 + 6) (slots + 6 + 6 * 4) Q (F0 m (pc + 4) ls (.ref q :: rest))) : W p l e R s m args below meth c H locs cells slots Q (F0 m pc ls (.int 4 :: .int 6 :: rest)) := by
  obtain ⟨f1, f2, f3, f4, f5, f6, -⟩ := F
  intro T hT Xs
  have hcl : (Cond.classLink own index ("[" ++ (FieldType.array .int).toString)).before args s = true := by
    rw [show ("[" ++ (FieldType.array .int).toString) = "[[I" by decide +kernel]
    exact f5 _ hl
  obtain ⟨vm₁, c1, comp, fA, fC, X', step⟩ := gNew Xs f1 f4 hcl hX.2.2.1 (f5 _ kw_131) (g := F0 m pc ls (.int 4 :: .int 6 :: rest)) rfl (by rw [f2]; exact hd) rfl hc.1 hc.2
  have e1 : c1 = cA 1 := Option.some.inj (Eq.trans (Eq.symm fA) (f6.2 1 _ rfl).2)
  have e0 : comp = cA 0 := Option.some.inj (Eq.trans (Eq.symm fC) (f6.2 0 _ rfl).2)
  subst e1
  subst e0
  obtain ⟨g1, g2, hold, hrow, -, -⟩ := gSt_facts (cA 1) (cA 0) (T.setVm vm₁) 6
  have hTh : (T.setVm vm₁).heap = H := hT
  rw [hTh] at g1 g2 hold hrow
  generalize gSt (cA 1) (cA 0) (T.setVm vm₁) 6 = G at X' step g1 g2 hold hrow
  have hP2 : va_P D cls9 (ws ++ gz cA H.size) G.heap := (hP.kept (fun k x hx => hold x.1 ((hP k x hx).lt))).app (fun k x hx => by
    have hk : k < 7 := (List.getElem?_eq_some_iff.mp hx).1
    rcases (show k = 0 ∨ k = 1 ∨ k = 2 ∨ k = 3 ∨ k = 4 ∨ k = 5 ∨ k = 6 by omega) with e | e | e | e | e | e | e <;> subst e <;> cases hx
    · show G.heap[H.size]? = some (vp_cell _ _)
      rw [vp_cell_q]
      exact g2
    · exact hrow 0 (by decide)
    · exact hrow 1 (by decide)
    · exact hrow 2 (by decide)
    · exact hrow 3 (by decide)
    · exact hrow 4 (by decide)
    · exact hrow 5 (by decide))
  have hD2 : va_D A (ws ++ gz cA H.size) := va_D.app hD ⟨fun i j x y hx hy hxy => by
      have := gz_at hx
      have := gz_at hy
      omega, fun k x hx => by
      have h1 := gz_at hx
      have := hS.1
      exact hA _ (by omega)⟩ (fun i j x y hx hy hxy => by
      have h1 := (hP i x hx).lt
      have h2 := gz_at hy
      omega)
  have e : T.heap.size = H.size := by rw [hT]
  rw [e] at X' step
  have hlo : ∀ w ∈ locs ++ gLs H.size 6, A w.base := fun w hw => by
    rcases List.mem_append.mp hw with q | q
    · exact hS.2.2 w q
    · rw [gLs_base q]; exact hA _ hS.1
  obtain ⟨t, a1, b1⟩ := kk H.size G.heap (locs ++ gLs H.size 6) hP2 hD2 ⟨by rw [g1]; have := hS.1; omega, fun x h1 h2 => (hold x (Nat.lt_of_lt_of_le h1 hS.1)).trans (hS.2.1 x h1 h2), hlo⟩ G rfl X'
  exact ⟨t, step t a1, b1⟩
end I2
