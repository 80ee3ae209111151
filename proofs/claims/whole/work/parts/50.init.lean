/-! constructors: rows over a growing world -/
def Aoa (U : State) : Prop := (Cond.arrayOver (.array .int)).before #[] U = true
def Nx (U : State) : Prop := va_AO "StarSenders$Sender" U ∧ va_AO "StarSenders$Gate" U ∧ Aoa U ∧ va_Nw (.methodLinkNest RX2 40 yX0_init RX7) U ∧ va_Nw (.methodLinkNest RX2 47 yX6_init RX7) U ∧ va_Nw (.methodLinkNest RX2 54 yX5_init RX7) U ∧ va_Nw (.methodLinkNest RX2 59 yX3_init RX7) U ∧ va_Nw (.methodLinkNest RX2 60 yX1_init RX7) U ∧ va_Nw (.methodLinkNest RX7 18 yX4_init RX7) U
theorem Aoa.moved {u U : State} (hvm : u.vm.Alike U.vm) (h : Aoa u) : Aoa U := go_alike hvm h
theorem Nx.warm {s U : State} (hW : s.WarmedH U.vm) (h : Nx s) : Nx U := by
  obtain ⟨h1, h2, h3, h4, h5, h6, h7, h8, h9⟩ := h
  exact ⟨h1.moved hW.alike, h2.moved hW.alike, h3.moved hW.alike, h4.warmM hW, h5.warmM hW, h6.warmM hW, h7.warmM hW, h8.warmM hW, h9.warmM hW⟩
theorem Nx.same {s U : State} (e : s.vm = U.vm) (h : Nx s) : Nx U := by
  obtain ⟨h1, h2, h3, h4, h5, h6, h7, h8, h9⟩ := h
  have hvm : s.vm.Alike U.vm := e ▸ Vm.Alike.refl s.vm
  exact ⟨h1.moved hvm, h2.moved hvm, h3.moved hvm, h4.same rfl e, h5.same rfl e, h6.same rfl e, h7.same rfl e, h8.same rfl e, h9.same rfl e⟩
def Kt (l : Launch) (y : MethodName) (bytes : ByteArray) (nL fr lo mc ms : Nat) (D : va_G) (cA : Nat → ClassId) (h0 ci : Nat) (fs0 : List Value) (lay : List Nat → va_W) : Prop :=
  ∀ sz : Nat, Met l y (wz y bytes nL none) { frames := fr, cells := mc, slots := ms, locals := lo } (va_Pc [.ref h0] (fun U => U.heap.size = sz ∧ va_P D cls9 [(h0, .inr (ci, fs0))] U.heap ∧ va_K D cls9 (tysz cA) U ∧ Nx U)) (va_Qv (fun _ : List Nat => True) (fun u t => va_P D cls9 (lay u) t.heap ∧ va_D (va_A [(h0, .inr (ci, fs0))] sz) (lay u)) (va_A [(h0, .inr (ci, fs0))] sz)) mc ms (va_A [(h0, .inr (ci, fs0))] sz)
section IN
variable {p : Program} {l : Launch} {e : Env} {R : Room} {s : State} {m : MethodId} {args : Array Value} {below : List Frame} {meth : Method} {c : Code} {H : Heap} {locs : List Loc} {Q : State → Prop} {cells slots : Nat}
variable {D : va_G} {cA : Nat → ClassId} {H0 : Heap} {cc : ByteArray} {own : String} {nL : Nat} {ret : Option FieldType} {pc : Nat} {ls : Array Slot} {rest : List Value} {lv : List (Nat × Value)} {ws : va_W} {A : Nat → Prop}
theorem kt_in {y : MethodName} {bytes : ByteArray} {fr lo mc ms h0 ci : Nat} {fs0 : List Value} {lay : List Nat → va_W} (hy : plainFor y = true) (hyn : y.name = "<init>") (hnL : 1 ≤ nL)
    (body : ∀ (p : Program) (e : Env) (s : State) (m : MethodId) (below : List Frame) (meth : Method) (c : Code) (ls : Array Slot) (A : Nat → Prop), Fx D cA y.cls bytes nL none p s m #[Value.ref h0] meth c → meth.name = "<init>" → Nx s → lv_has ls nL [(0, .ref h0)] → (∀ q, s.heap.size ≤ q → A q) → va_P D cls9 [(h0, .inr (ci, fs0))] s.heap → va_D A [(h0, .inr (ci, fs0))] → va_S A s.heap s.heap [] →
      W p l e { frames := fr, cells := mc, slots := ms, locals := lo } s m #[Value.ref h0] below meth c s.heap [] 0 0 (MQ below (va_Qv (fun _ : List Nat => True) (fun u t => va_P D cls9 (lay u) t.heap ∧ va_D A (lay u)) A) #[Value.ref h0] s mc ms A) (F0 m 0 ls [])) :
    Kt l y bytes nL fr lo mc ms D cA h0 ci fs0 lay := by
  intro sz
  refine met_ofWF (cc := bytes) (maxL := nL) (ret := none) hy rfl ?_
  intro p e s m args below meth c s₁ B hml hv
  obtain ⟨rfl, hsz, hP, hK, hX⟩ := hv
  have hts := atoms_spec (ws := wz y bytes nL none) B.pre
  have hown : s.vm.findClass y.cls = some m.cls := findClass_of_methodNamed B.named
  have hin : meth.name = "<init>" := ((name_of_methodNamed B.named B.method).1).trans hyn
  subst hsz
  have hD0 : va_D (fun _ => True) [((h0, .inr (ci, fs0)) : Nat × va_E)] := ⟨fun i j p q hp hq _ => by
    have h1 : i < 1 := (List.getElem?_eq_some_iff.mp hp).1
    have h2 : j < 1 := (List.getElem?_eq_some_iff.mp hq).1
    omega, fun _ _ _ => trivial⟩
  have hD := hD0.self (sz := s.heap.size)
  generalize hAe : va_A [(h0, .inr (ci, fs0))] s.heap.size = A at hD ⊢
  have hA : ∀ q : Nat, s.heap.size ≤ q → A q := fun q h => by rw [← hAe]; exact Or.inr h
  have hl := lv_entry ([.ref h0] : List Value) (n := nL) hnL
  rw [lg_entry_eq]
  exact body p e s m below meth c _ A ⟨B.exec, B.bytes, hml, hown, fun w h => hts w (List.mem_cons_of_mem _ h), hK, B.returns, B.notSynchronized⟩ hin hX hl hA hP hD va_S.rf
theorem i_obj (F : Fx D cA own cc nL ret p s m args meth c) (hl : lv_has ls nL lv) {idx : Nat} (hk : Cond.methodLink own idx objectInit ∈ BIG) {a : Nat} (hs : (rest.map fun v => v.category).sum ≤ 8) (hR : 1 ≤ R.frames ∧ 20 ≤ R.locals) (hd : decode cc pc = .ok (.invokespecial idx, 3)) (kk : W p l e R s m args below meth c H locs cells slots Q (F0 m (pc + 3) ls rest)) : W p l e R s m args below meth c H locs cells slots Q (F0 m pc ls (.ref a :: rest)) := by
  obtain ⟨f1, f2, f3, f4, f5, -⟩ := F
  exact W.objInit f1 f2 f4 (f5 _ hk) (f5 _ kw_82) (f5 _ kw_83) rfl (by rw [f3]; exact hl.1) rfl hd hR.1 (Nat.le_trans (Nat.add_le_add_right (lv_room hs) 12) hR.2) kk
theorem i_newa (F : Fx D cA own cc nL ret p s m args meth c) (hP : va_P D cls9 ws H) (hD : va_D A ws) (hS : va_S A H0 H locs) (hA : ∀ q, H0.size ≤ q → A q) {n : Int32} (N : Nat) (hn : n = nI N) (hN : N < 4000) (hc : cells + 1 ≤ R.cells ∧ slots + N ≤ R.slots) (hd : decode cc pc = .ok (.newarray .int, 2))
    (kk : ∀ (q : Nat) (H1 : Heap), va_P D cls9 (ws ++ [(q, .inl (cA 0, N, .inl (fun _ => 0)))]) H1 → va_D A (ws ++ [(q, .inl (cA 0, N, .inl (fun _ => 0)))]) → va_S A H0 H1 locs → W p l e R s m args below meth c H1 locs (cells + 1) (slots + N) Q (F0 m (pc + 2) ls (.ref q :: rest))) : W p l e R s m args below meth c H locs cells slots Q (F0 m pc ls (.int n :: rest)) := by
  obtain ⟨f1, f2, f3, f4, f5, f6, -⟩ := F
  subst hn
  refine va_newa (atype := .int) (ty := .int) (a0 := (N, .inl (fun _ => 0))) f1 f2 (f5 _ kw_131) rfl f6 hP hD hS hA (fun _ => rfl) (nI_pos (by omega)) (nI_cl (by omega)) (by show N * 4 ≤ _; omega) hc.1 hc.2 hd (fun q c' H1 hK' h1 h2 h3 => ?_)
  have e1 := (hK'.2 4 _ rfl).2
  have e2 := (f6.2 0 _ rfl).2
  have e3 : c' = cA 0 := Option.some.inj (Eq.trans (Eq.symm e1) e2)
  subst e3
  exact kk q H1 h1 h2 h3
theorem i_putF (F : Fx D cA own cc nL ret p s m args meth c) (hi : meth.name = "<init>") (hP : va_P D cls9 ws H) (hD : va_D A ws) (hS : va_S A H0 H locs) (x : Nat) {a ci : Nat} {fs : List Value} (he : ws[x]? = some (a, .inr (ci, fs))) {T : u_T} {N : Nat} (hz : Cz ci own T N) (k : Nat) (hk : k < N) {index : Nat} (hl : Cond.fieldLink own index own (T k).2.1 (T k).2.2.1 ∈ BIG) (hT : (T k).1 = own) (hfin : (T k).2.2.2 = true) {ty : FieldType} (hdsc : parseFieldDescriptor (T k).2.2.1 = some ty) {v : Value} (hn : narrow ty v = v) (hfit : fits ty v = true) (hlen : k < fs.length) (hd : decode cc pc = .ok (.putfield index, 3))
    (kk : ∀ (H1 : Heap) (locs1 : List Loc), va_P D cls9 (ws.set x (a, .inr (ci, fs.set k v))) H1 → va_D A (ws.set x (a, .inr (ci, fs.set k v))) → va_S A H0 H1 locs1 → W p l e R s m args below meth c H1 locs1 cells slots Q (F0 m (pc + 3) ls rest)) : W p l e R s m args below meth c H locs cells slots Q (F0 m pc ls (v :: .ref a :: rest)) := by
  obtain ⟨f1, f2, f3, f4, f5, f6, -⟩ := F
  obtain ⟨z1, z2, ⟨ty0, z3⟩, z4⟩ := hz
  exact va_putF f1 f2 f5 z2 ty0 z3 z4 f4 f6 hP hD hS x he z1 k hk (f5 _ hl) (fun _ h => by rw [hT] at h; exact h) hfin hi hT hdsc hn hfit hlen hd kk
theorem i_put (F : Fx D cA own cc nL ret p s m args meth c) (hP : va_P D cls9 ws H) (hD : va_D A ws) (hS : va_S A H0 H locs) (x : Nat) {a ci : Nat} {fs : List Value} (he : ws[x]? = some (a, .inr (ci, fs))) {T : u_T} {N : Nat} (hz : Cz ci own T N) (k : Nat) (hk : k < N) {index : Nat} (hl : Cond.fieldLink own index own (T k).2.1 (T k).2.2.1 ∈ BIG) (hT : (T k).1 = own) (hfin : (T k).2.2.2 = false) {ty : FieldType} (hdsc : parseFieldDescriptor (T k).2.2.1 = some ty) {v : Value} (hn : narrow ty v = v) (hfit : fits ty v = true) (hlen : k < fs.length) (hd : decode cc pc = .ok (.putfield index, 3))
    (kk : ∀ (H1 : Heap) (locs1 : List Loc), va_P D cls9 (ws.set x (a, .inr (ci, fs.set k v))) H1 → va_D A (ws.set x (a, .inr (ci, fs.set k v))) → va_S A H0 H1 locs1 → W p l e R s m args below meth c H1 locs1 cells slots Q (F0 m (pc + 3) ls rest)) : W p l e R s m args below meth c H locs cells slots Q (F0 m pc ls (v :: .ref a :: rest)) := by
  obtain ⟨f1, f2, f3, f4, f5, f6, -⟩ := F
  obtain ⟨z1, z2, ⟨ty0, z3⟩, z4⟩ := hz
  exact va_put f1 f2 f5 z2 ty0 z3 z4 f4 f6 hP hD hS x he z1 k hk (f5 _ hl) (fun _ h => by rw [hT] at h; exact h) hfin hdsc hn hfit hlen hd kk
theorem i_iast (F : Fx D cA own cc nL ret p s m args meth c) (hP : va_P D cls9 ws H) (hD : va_D A ws) (hS : va_S A H0 H locs) (x : Nat) {a n : Nat} {f : Nat → Int32} (he : ws[x]? = some (a, .inl (cA 0, n, .inl f))) (k : Nat) (hk : k < n) (hn : n < 4000) {i v : Int32} (hi : i = nI k) (hd : decode cc pc = .ok (.iastore, 1))
    (kk : ∀ (H1 : Heap) (locs1 : List Loc), va_P D cls9 (ws.set x (a, .inl (cA 0, n, .inl (upd f k v)))) H1 → va_D A (ws.set x (a, .inl (cA 0, n, .inl (upd f k v)))) → va_S A H0 H1 locs1 → W p l e R s m args below meth c H1 locs1 cells slots Q (F0 m (pc + 1) ls rest)) : W p l e R s m args below meth c H locs cells slots Q (F0 m pc ls (.int v :: .int i :: .ref a :: rest)) := by
  obtain ⟨f1, f2, f3, f4, f5, f6, -⟩ := F
  subst hi
  refine va_iast (cA := cA 0) f1 f2 f6 hP hD hS x 0 he rfl (vp_in_nI hk (by omega)) hd (fun H1 locs1 h1 h2 h3 => ?_)
  rw [nI_cl (by omega)] at h1 h2
  exact kk H1 locs1 h1 h2 h3
theorem i_new (F : Fx D cA own cc nL ret p s m args meth c) (hP : va_P D cls9 ws H) (hD : va_D A ws) (hS : va_S A H0 H locs) (hA : ∀ q, H0.size ≤ q → A q) {ci : Nat} {C : String} {T : u_T} {N : Nat} (hz : Cz ci C T N) (ty : Nat → FieldType) (hty : ∀ k, k < N → parseFieldDescriptor (T k).2.2.1 = some (ty k)) {index : Nat} (h1 : Cond.classLink own index C ∈ BIG) (h2 : Cond.instantiable C N ∈ BIG) (h3 : Cond.initialized C ∈ BIG) {fs : List Value} (hfs : ∀ j, j < N → defaultValue (ty j) = vp_V fs j) (hc : cells + 1 ≤ R.cells ∧ slots + N ≤ R.slots) (hd : decode cc pc = .ok (.new index, 3))
    (kk : ∀ (q : Nat) (H1 : Heap), va_P D cls9 (ws ++ [(q, .inr (ci, fs))]) H1 → va_D A (ws ++ [(q, .inr (ci, fs))]) → va_S A H0 H1 locs → W p l e R s m args below meth c H1 locs (cells + 1) (slots + N) Q (F0 m (pc + 3) ls (.ref q :: rest))) : W p l e R s m args below meth c H locs cells slots Q (F0 m pc ls rest) := by
  obtain ⟨f1, f2, f3, f4, f5, f6, -⟩ := F
  exact va_new f1 f2 f5 hz.2.1 ty hty f4 (f5 _ h1) (f5 _ h2) (f5 _ h3) f6 hP hD hS hA hz.1 hfs hc.1 hc.2 hd kk
theorem i_ret {h0 mc ms : Nat} {lay : List Nat → va_W} (F : Fx D cA own cc nL none p s m #[Value.ref h0] meth c) (u : List Nat) (hP : va_P D cls9 (lay u) H) (hD : va_D A (lay u)) (hS : va_S A s.heap H locs) (hc : cells ≤ mc ∧ slots ≤ ms) (hd : decode cc pc = .ok (.return_, 1)) :
    W p l e R s m #[Value.ref h0] below meth c H locs cells slots (MQ below (va_Qv (fun _ : List Nat => True) (fun u t => va_P D cls9 (lay u) t.heap ∧ va_D A (lay u)) A) #[Value.ref h0] s mc ms A) (F0 m pc ls []) := by
  obtain ⟨f1, f2, f3, f4, f5, f6, f7, f8⟩ := F
  refine W.widen (k := mc) (n := ms) hc.1 hc.2 ?_
  exact W.vret f1 f2 f7 (fun t ht hW => ⟨⟨u, rfl, trivial, by rw [ht]; exact hP, hD⟩, hS.F ht⟩) hS.2.2 hd f8
theorem i_join {w1 : va_W} {x : Nat × va_E} {H1 : Heap} (hP : va_P D cls9 (ws ++ [x]) H) (hD : va_D A (ws ++ [x])) (hk : ∀ q : Nat, q < H.size → ¬ va_A [x] H.size q → H1[q]? = H[q]?) (hF : ∀ q, va_A [x] H.size q → A q) (hP1 : va_P D cls9 w1 H1) (hD1 : va_D (va_A [x] H.size) w1) : va_P D cls9 (ws ++ w1) H1 ∧ va_D A (ws ++ w1) := by
  have up : ∀ (k : Nat) (q : Nat × va_E), ws[k]? = some q → (ws ++ [x])[k]? = some q ∧ k < ws.length := fun k q hq => by
    have hl := (List.getElem?_eq_some_iff.mp hq).1
    exact ⟨by rw [List.getElem?_append_left hl]; exact hq, hl⟩
  have apart : ∀ (k : Nat) (q : Nat × va_E), ws[k]? = some q → q.1 < H.size ∧ ¬ va_A [x] H.size q.1 := by
    intro k q hq
    obtain ⟨h2, hl2⟩ := up k q hq
    have hl := (hP k q h2).lt
    refine ⟨hl, fun h => ?_⟩
    rcases h with ⟨k2, e2, h⟩ | h
    · have h0 : k2 < 1 := (List.getElem?_eq_some_iff.mp h).1
      rw [show k2 = 0 by omega] at h
      cases h
      have h4 : (ws ++ [(q.1, e2)])[ws.length]? = some (q.1, e2) := by rw [List.getElem?_append_right (Nat.le_refl _), Nat.sub_self]; rfl
      have := hD.1 k ws.length q (q.1, e2) h2 h4 rfl
      omega
    · omega
  have hDw : va_D A ws := ⟨fun i j y z h1 h2 he => hD.1 i j y z (up i y h1).1 (up j z h2).1 he, fun k q hq => hD.2 k q (up k q hq).1⟩
  refine ⟨va_P.app (fun k q hq => ?_) hP1, va_D.app hDw (hD1.weaken (fun k q _ h => hF q.1 h)) (fun i j y z hy hz hyz => ?_)⟩
  · obtain ⟨g1, g2⟩ := apart k q hq
    exact (hP k q (up k q hq).1).kept (hk q.1 g1 g2)
  · exact (apart i y hy).2 (by rw [hyz]; exact hD1.2 j z hz)
theorem i_free {x : Nat × va_E} (hD : va_D A (ws ++ [x])) (hS : va_S A H0 H locs) (hA : ∀ q, H0.size ≤ q → A q) : ∀ q, va_A [x] H.size q → A q := by
  intro q h
  rcases h with ⟨k, e2, h⟩ | h
  · have h0 : k < 1 := (List.getElem?_eq_some_iff.mp h).1
    rw [show k = 0 by omega] at h
    cases h
    exact hD.2 ws.length _ (by rw [List.getElem?_append_right (Nat.le_refl _), Nat.sub_self]; rfl)
  · exact hA q (Nat.le_trans hS.1 h)
theorem Kt_blind {h0 sz ci : Nat} {fs0 : List Value} : FrameBlind (va_Pc [.ref h0] (fun U => U.heap.size = sz ∧ va_P D cls9 [(h0, .inr (ci, fs0))] U.heap ∧ va_K D cls9 (tysz cA) U ∧ Nx U)) := fun a U g mk q => by
  obtain ⟨q0, q1, qP, qK, qX⟩ := q
  exact ⟨q0, q1, qP, va_K.moved (u := U) (U := U.calling g mk a) (Vm.Alike.refl U.vm) qK, qX.same rfl⟩
/-- a constructor called on the object that came last: its world takes that object's place -/
theorem i_callN (F : Fx D cA own cc nL ret p s m args meth c) (hX : Nx s) (hl : lv_has ls nL lv) {y : MethodName} {bytes : ByteArray} {nL' fr lo mc ms h0 ci index : Nat} {fs0 : List Value} {lay : List Nat → va_W} {host : String} (hC : Kt l y bytes nL' fr lo mc ms D cA h0 ci fs0 lay)
    (hP : va_P D cls9 (ws ++ [(h0, .inr (ci, fs0))]) H) (hD : va_D A (ws ++ [(h0, .inr (ci, fs0))])) (hS : va_S A H0 H locs) (hA : ∀ q, H0.size ≤ q → A q)
    (k1 : va_Nw (.methodLinkNest own index y host) s) (k2 : Cond.instanceMethod y ∈ BIG) (k3 : Cond.initialized y.cls ∈ BIG) (k4 : Cond.code y bytes nL' none ∈ BIG) (k5 : y.cls ≠ "java/lang/invoke/MethodHandle" ∧ y.cls ≠ "java/lang/invoke/VarHandle" ∧ (parseMethodDescriptor y.desc).map (fun d => d.parameters.length) = some 0) (k6 : y.name = "<init>")
    (hR : fr + 1 ≤ R.frames ∧ 8 + (nL' + 11) + lo ≤ R.locals) (hc : cells + mc ≤ R.cells ∧ slots + ms ≤ R.slots) (hrm : (rest.map fun v => v.category).sum ≤ 8) (hd : decode cc pc = .ok (.invokespecial index, 3))
    (kk : ∀ (u : List Nat) (H1 : Heap) (locs1 : List Loc), va_P D cls9 (ws ++ lay u) H1 → va_D A (ws ++ lay u) → va_S A H0 H1 locs1 → W p l e R s m args below meth c H1 locs1 (cells + mc) (slots + ms) Q (F0 m (pc + 3) ls rest)) : W p l e R s m args below meth c H locs cells slots Q (F0 m pc ls (.ref h0 :: rest)) := by
  obtain ⟨f1, f2, f3, f4, f5, f6, f7, f8⟩ := F
  have hPc : va_P D cls9 [(h0, .inr (ci, fs0))] H := fun k q hq => by
    have hz : k < 1 := (List.getElem?_eq_some_iff.mp hq).1
    rw [show k = 0 by omega] at hq
    cases hq
    exact hP ws.length _ (by rw [List.getElem?_append_right (Nat.le_refl _), Nat.sub_self]; rfl)
  have hF := i_free hD hS hA
  refine va_callv (va_runIN (As := []) (rest := rest) (n := 0) (Ts := BIG) ⟨f1, f2, f3, f4, f5⟩ (hC H.size) ⟨va_cnB 0 f5 (big_in ?_) rfl rfl rfl k1 (f5 _ k3) k5 hR, k6, f5 _ k2⟩ ⟨Kt_blind, fun U hU hW => ⟨rfl, by rw [hU], by rw [hU]; exact hPc, va_K.moved hW.alike f6, hX.warm hW⟩⟩ rfl rfl hl.1 rfl (lv_room hrm) hd hc) hS (fun q _ h => hF q h) hF (fun u t H1 locs1 ht hvm hw hB hz1 hk1 hS1 => ?_)
  · intro w hw
    rcases List.mem_cons.mp hw with rfl | h
    · exact k4
    · exact h
  · obtain ⟨hP1, hD1⟩ := hB
    rw [ht] at hP1
    obtain ⟨j1, j2⟩ := i_join hP hD hk1 hF hP1 hD1
    exact kk u H1 locs1 j1 j2 hS1
/-- the same, by a link of its own nest's class or a public one -/
theorem i_callI (F : Fx D cA own cc nL ret p s m args meth c) (hX : Nx s) (hl : lv_has ls nL lv) {y : MethodName} {bytes : ByteArray} {nL' fr lo mc ms h0 ci index : Nat} {fs0 : List Value} {lay : List Nat → va_W} (hC : Kt l y bytes nL' fr lo mc ms D cA h0 ci fs0 lay)
    (hP : va_P D cls9 (ws ++ [(h0, .inr (ci, fs0))]) H) (hD : va_D A (ws ++ [(h0, .inr (ci, fs0))])) (hS : va_S A H0 H locs) (hA : ∀ q, H0.size ≤ q → A q)
    (k1 : Cond.methodLink own index y ∈ BIG) (k2 : Cond.instanceMethod y ∈ BIG) (k3 : Cond.initialized y.cls ∈ BIG) (k4 : Cond.code y bytes nL' none ∈ BIG) (k5 : y.cls ≠ "java/lang/invoke/MethodHandle" ∧ y.cls ≠ "java/lang/invoke/VarHandle" ∧ (parseMethodDescriptor y.desc).map (fun d => d.parameters.length) = some 0) (k6 : y.name = "<init>")
    (hR : fr + 1 ≤ R.frames ∧ 8 + (nL' + 11) + lo ≤ R.locals) (hc : cells + mc ≤ R.cells ∧ slots + ms ≤ R.slots) (hrm : (rest.map fun v => v.category).sum ≤ 8) (hd : decode cc pc = .ok (.invokespecial index, 3))
    (kk : ∀ (u : List Nat) (H1 : Heap) (locs1 : List Loc), va_P D cls9 (ws ++ lay u) H1 → va_D A (ws ++ lay u) → va_S A H0 H1 locs1 → W p l e R s m args below meth c H1 locs1 (cells + mc) (slots + ms) Q (F0 m (pc + 3) ls rest)) : W p l e R s m args below meth c H locs cells slots Q (F0 m pc ls (.ref h0 :: rest)) := by
  obtain ⟨f1, f2, f3, f4, f5, f6, f7, f8⟩ := F
  have hPc : va_P D cls9 [(h0, .inr (ci, fs0))] H := fun k q hq => by
    have hz : k < 1 := (List.getElem?_eq_some_iff.mp hq).1
    rw [show k = 0 by omega] at hq
    cases hq
    exact hP ws.length _ (by rw [List.getElem?_append_right (Nat.le_refl _), Nat.sub_self]; rfl)
  have hF := i_free hD hS hA
  refine va_callv (va_runI (As := []) (rest := rest) (n := 0) (Ts := BIG) ⟨f1, f2, f3, f4, f5⟩ (hC H.size) (cwI 0 f5 (big_in ?_) rfl rfl rfl (f5 _ k3) (f5 _ k1) (f5 _ k2) k6 k5 hR) ⟨Kt_blind, fun U hU hW => ⟨rfl, by rw [hU], by rw [hU]; exact hPc, va_K.moved hW.alike f6, hX.warm hW⟩⟩ rfl rfl hl.1 rfl (lv_room hrm) hd hc) hS (fun q _ h => hF q h) hF (fun u t H1 locs1 ht hvm hw hB hz1 hk1 hS1 => ?_)
  · intro w hw
    rcases List.mem_cons.mp hw with rfl | h
    · exact k4
    · exact h
  · obtain ⟨hP1, hD1⟩ := hB
    rw [ht] at hP1
    obtain ⟨j1, j2⟩ := i_join hP hD hk1 hF hP1 hD1
    exact kk u H1 locs1 j1 j2 hS1
end IN
