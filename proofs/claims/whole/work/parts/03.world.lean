/-! one picture of a heap for class and reference alike: cells by number, a cell's ints by place -/
abbrev Mem : Type := Nat → Nat → Int32
def up2 (M : Mem) (x k : Nat) (v : Int32) : Mem := fun y => if y = x then upd (M x) k v else M y
theorem up2_same (M : Mem) (x k : Nat) (v : Int32) : up2 M x k v x = upd (M x) k v := if_pos rfl
theorem up2_ne {M : Mem} {x y k : Nat} {v : Int32} (h : y ≠ x) : up2 M x k v y = M y := if_neg h
/-- a cell's shape: an int array of n places; an array of n references to the cells from b on; an object, its fields ints or references to a cell so far on -/
abbrev Sh : Type := (Nat ⊕ (Nat × Nat × Nat)) ⊕ (Nat × List (Option Nat))
def wfv (ad : Nat → Nat) (x : Nat) (f : Nat → Int32) (q : Option Nat × Nat) : Value := match q.1 with
  | none => .int (f q.2)
  | some d => .ref (ad (x + d))
def wcell (ad : Nat → Nat) (cA : Nat → ClassId) (x : Nat) (f : Nat → Int32) (sh : Sh) : va_E := match sh with
  | .inl (.inl n) => .inl (cA 0, n, .inl f)
  | .inl (.inr (t, b, n)) => .inl (cA t, n, .inr (.inr (.inr (.inr (fun i => if i < n then some (ad (b + i)) else none)))))
  | .inr (ci, fs) => .inr (ci, fs.zipIdx.map (wfv ad x f))
def wW (sh : List Sh) (ad : Nat → Nat) (cA : Nat → ClassId) (M : Mem) : va_W := sh.zipIdx.map (fun q => (ad q.2, wcell ad cA q.2 (M q.2) q.1))
theorem wW_at (sh : List Sh) (ad : Nat → Nat) (cA : Nat → ClassId) (M : Mem) (i : Nat) : (wW sh ad cA M)[i]? = (sh[i]?).map (fun x => (ad i, wcell ad cA i (M i) x)) := by
  unfold wW
  rw [List.getElem?_map, List.getElem?_zipIdx]
  cases sh[i]? <;> simp
theorem wW_get {sh : List Sh} {x : Nat} {z : Sh} (ad : Nat → Nat) (cA : Nat → ClassId) (M : Mem) (h : sh[x]? = some z) : (wW sh ad cA M)[x]? = some (ad x, wcell ad cA x (M x) z) := by
  rw [wW_at, h]; rfl
theorem wW_set {sh : List Sh} {x : Nat} {z : Sh} {ad : Nat → Nat} {cA : Nat → ClassId} {M : Mem} (h : sh[x]? = some z) (M' : Mem) (hM : ∀ y, y ≠ x → M' y = M y) : (wW sh ad cA M).set x (ad x, wcell ad cA x (M' x) z) = wW sh ad cA M' := by
  have hl : x < (wW sh ad cA M).length := by
    unfold wW
    rw [List.length_map, List.length_zipIdx]
    exact (List.getElem?_eq_some_iff.mp h).1
  apply List.ext_getElem?
  intro i
  by_cases e : x = i
  · subst e
    rw [List.getElem?_set_self hl, wW_get ad cA M' h]
  · rw [List.getElem?_set_ne e, wW_at, wW_at, hM i (fun q => e q.symm)]
theorem wfs_get {fs : List (Option Nat)} {k : Nat} {o : Option Nat} (ad : Nat → Nat) (x : Nat) (f : Nat → Int32) (h : fs[k]? = some o) : (fs.zipIdx.map (wfv ad x f))[k]? = some (wfv ad x f (o, k)) := by
  rw [List.getElem?_map, List.getElem?_zipIdx, h]
  simp
theorem wfs_set {fs : List (Option Nat)} {k : Nat} (ad : Nat → Nat) (x : Nat) (f : Nat → Int32) (v : Int32) (h : fs[k]? = some none) : (fs.zipIdx.map (wfv ad x f)).set k (.int v) = fs.zipIdx.map (wfv ad x (upd f k v)) := by
  have hl : k < (fs.zipIdx.map (wfv ad x f)).length := by
    rw [List.length_map, List.length_zipIdx]
    exact (List.getElem?_eq_some_iff.mp h).1
  apply List.ext_getElem?
  intro i
  by_cases e : k = i
  · subst e
    rw [List.getElem?_set_self hl, wfs_get ad x (upd f k v) h]
    simp [wfv, upd]
  · rw [List.getElem?_set_ne e, List.getElem?_map, List.getElem?_map, List.getElem?_zipIdx]
    cases fs[i]? with
    | none => rfl
    | some o =>
      cases o with
      | none =>
        have e9 : ¬ i = k := fun q => e q.symm
        simp [wfv, upd, e9]
      | some d => simp [wfv]
/-- the addresses of a picture -/
def Az (sh : List Sh) (ad : Nat → Nat) : Nat → Prop := fun q => ∃ x, x < sh.length ∧ q = ad x
theorem wW_D {A : Nat → Prop} {sh : List Sh} {ad : Nat → Nat} {cA : Nat → ClassId} {M : Mem} (M' : Mem) (h : va_D A (wW sh ad cA M)) : va_D A (wW sh ad cA M') := by
  have k1 : ∀ (i : Nat) (p : Nat × va_E), (wW sh ad cA M')[i]? = some p → ∃ p', (wW sh ad cA M)[i]? = some p' ∧ p'.1 = p.1 := by
    intro i p hp
    rw [wW_at] at hp ⊢
    cases hs : sh[i]? with
    | none => rw [hs] at hp; cases hp
    | some z =>
      rw [hs] at hp
      cases hp
      exact ⟨_, rfl, rfl⟩
  refine ⟨fun i j p q hp hq e => ?_, fun i p hp => ?_⟩
  · obtain ⟨p', h1, h2⟩ := k1 i p hp
    obtain ⟨q', h3, h4⟩ := k1 j q hq
    exact h.1 i j p' q' h1 h3 (by rw [h2, h4, e])
  · obtain ⟨p', h1, h2⟩ := k1 i p hp
    rw [← h2]
    exact h.2 i p' h1
abbrev cls9 : List vw_C := [(RX0, TX0, 6), (RX1, TX1, 6), (RX2, TX2, 16), (RX3, TX3, 10), (RX4, TX4, 8), (RX5, TX5, 2), (RX6, TX6, 5), (RX7, TX7, 5), (RX8, TX8, 44)]
abbrev tysz (cA : Nat → ClassId) : List (ClassId × FieldType) := [(cA 0, .int), (cA 1, .array .int), (cA 2, .object "StarSenders$Sender"), (cA 3, .object "StarSenders$Gate")]
/-- what stays the same through a method's run -/
def Fx (D : va_G) (cA : Nat → ClassId) (own : String) (cc : ByteArray) (nL : Nat) (ret : Option FieldType) (p : Program) (s : State) (m : MethodId) (args : Array Value) (meth : Method) (c : Code) : Prop :=
  p.tables.exec = Jvm.exec ∧ c.code = cc ∧ c.maxLocals = nL ∧ s.vm.findClass own = some m.cls ∧ (∀ w ∈ BIG, w.before args s = true) ∧ va_K D cls9 (tysz cA) s ∧ meth.sig.returnType = ret ∧ meth.locks = false
/-- the heap holds the picture M, since H0 nothing but its cells has changed -/
def Wd (sh : List Sh) (D : va_G) (cA : Nat → ClassId) (ad : Nat → Nat) (H0 : Heap) (M : Mem) (H : Heap) (locs : List Loc) : Prop :=
  va_P D cls9 (wW sh ad cA M) H ∧ va_D (Az sh ad) (wW sh ad cA M) ∧ va_S (Az sh ad) H0 H locs
/-- the same, of a state: a contract's word -/
def Wp (sh : List Sh) (D : va_G) (cA : Nat → ClassId) (ad : Nat → Nat) (M : Mem) (U : State) : Prop :=
  va_P D cls9 (wW sh ad cA M) U.heap ∧ va_D (Az sh ad) (wW sh ad cA M) ∧ va_K D cls9 (tysz cA) U
/-- the pure side: a write, an index that is looked at -/
def wr {α : Type} (M : Mem) (x k : Nat) (v : Int32) (K : Mem → α) : α := K (up2 M x k v)
def ix {α : Type} (i : Int32) (n : Nat) (K : Option α) : Option α := if i < 0 ∨ n ≤ i.toNatClampNeg then none else K
theorem ix_some {α : Type} {i : Int32} {n : Nat} {K : Option α} {r : α} (h : ix i n K = some r) : vp_in i n ∧ K = some r := by
  unfold ix at h
  by_cases q : i < 0 ∨ n ≤ i.toNatClampNeg
  · rw [if_pos q] at h; cases h
  · rw [if_neg q] at h; exact ⟨q, h⟩
theorem ix_in {α : Type} {i : Int32} {n : Nat} {K : Option α} (h : vp_in i n) : ix i n K = K := if_neg h
def cpy {α : Type} (M : Mem) (x0 n0 x1 n1 : Nat) (sp dp n : Int32) (K : Mem → Option α) : Option α :=
  if sp < 0 ∨ dp < 0 ∨ n < 0 ∨ n0 < sp.toNatClampNeg + n.toNatClampNeg ∨ n1 < dp.toNatClampNeg + n.toNatClampNeg then none
  else K (fun y => if y = x1 then va_cpy (M x0) (M x1) sp.toNatClampNeg dp.toNatClampNeg n.toNatClampNeg else M y)
def FUEL : Nat := 4096
/-- a class's table -/
def Cz (ci : Nat) (C : String) (T : u_T) (N : Nat) : Prop := cls9[ci]? = some (C, T, N) ∧ (∀ w ∈ u_ws C T N, w ∈ BIG) ∧ (∃ ty0 : Nat → FieldType, ∀ k, k < N → parseFieldDescriptor (T k).2.2.1 = some (ty0 k)) ∧ (∀ a, a < N → ∀ b, b < N → a ≠ b → (T a).2.1 ≠ (T b).2.1)
section RZ
variable {p : Program} {l : Launch} {e : Env} {R : Room} {s : State} {m : MethodId} {args : Array Value} {below : List Frame} {meth : Method} {c : Code} {H : Heap} {locs : List Loc} {Q : State → Prop}
variable {sh : List Sh} {D : va_G} {cA : Nat → ClassId} {ad : Nat → Nat} {H0 : Heap} {M : Mem} {cc : ByteArray} {own : String} {nL : Nat} {ret : Option FieldType} {pc : Nat} {ls : Array Slot} {rest : List Value} {lv : List (Nat × Value)}
theorem r_get (F : Fx D cA own cc nL ret p s m args meth c) (hw : Wd sh D cA ad H0 M H locs) {x ci : Nat} {fs : List (Option Nat)} {C : String} {T : u_T} {N : Nat} (hz : Cz ci C T N) (hx : sh[x]? = some (.inr (ci, fs))) (k : Nat) (hk : k < N) {o : Option Nat} (ho : fs[k]? = some o) {index : Nat} (hl : Cond.fieldLink own index C (T k).2.1 (T k).2.2.1 ∈ BIG) (hT : (T k).1 = C) (hd : decode cc pc = .ok (.getfield index, 3))
    (kk : W p l e R s m args below meth c H locs 0 0 Q (F0 m (pc + 3) ls (wfv ad x (M x) (o, k) :: rest))) : W p l e R s m args below meth c H locs 0 0 Q (F0 m pc ls (.ref (ad x) :: rest)) := by
  obtain ⟨f1, f2, f3, f4, f5, f6, f7, f8⟩ := F
  exact va_get f1 f2 f5 hz.2.1 f4 f6 hw.1 x (wW_get ad cA M hx) hz.1 k hk (f5 _ hl) (fun _ h => by rw [hT] at h; exact h) (wfs_get ad x (M x) ho) hd kk
theorem r_put (F : Fx D cA own cc nL ret p s m args meth c) (hw : Wd sh D cA ad H0 M H locs) {x ci : Nat} {fs : List (Option Nat)} {C : String} {T : u_T} {N : Nat} (hz : Cz ci C T N) (hx : sh[x]? = some (.inr (ci, fs))) (k : Nat) (hk : k < N) (ho : fs[k]? = some none) {index : Nat} (hl : Cond.fieldLink own index C (T k).2.1 (T k).2.2.1 ∈ BIG) (hT : (T k).1 = C) (hfin : (T k).2.2.2 = false) (hdsc : parseFieldDescriptor (T k).2.2.1 = some .int) (hd : decode cc pc = .ok (.putfield index, 3)) {v : Int32} {α : Type} {K : Mem → α} {res : α} (hf : wr M x k v K = res)
    (kk : ∀ (M1 : Mem) (H1 : Heap) (locs1 : List Loc), Wd sh D cA ad H0 M1 H1 locs1 → K M1 = res → W p l e R s m args below meth c H1 locs1 0 0 Q (F0 m (pc + 3) ls rest)) : W p l e R s m args below meth c H locs 0 0 Q (F0 m pc ls (.int v :: .ref (ad x) :: rest)) := by
  obtain ⟨f1, f2, f3, f4, f5, f6, f7, f8⟩ := F
  obtain ⟨w1, w2, w3⟩ := hw
  obtain ⟨z1, z2, ⟨ty0, z3⟩, z4⟩ := hz
  refine va_put (ty := .int) f1 f2 f5 z2 ty0 z3 z4 f4 f6 w1 w2 w3 x (wW_get ad cA M hx) z1 k hk (f5 _ hl) (fun _ h => by rw [hT] at h; exact h) hfin hdsc rfl rfl ?_ hd (fun H1 locs1 h1 h2 h3 => ?_)
  · rw [List.length_map, List.length_zipIdx]
    exact (List.getElem?_eq_some_iff.mp ho).1
  · have e : (wW sh ad cA M).set x (ad x, .inr (ci, (fs.zipIdx.map (wfv ad x (M x))).set k (.int v))) = wW sh ad cA (up2 M x k v) := by
      rw [wfs_set ad x (M x) v ho, ← up2_same]
      exact wW_set hx (up2 M x k v) (fun y hy => up2_ne hy)
    rw [e] at h1 h2
    exact kk _ H1 locs1 ⟨h1, h2, h3⟩ hf
theorem r_iald0 (F : Fx D cA own cc nL ret p s m args meth c) (hw : Wd sh D cA ad H0 M H locs) {x n : Nat} (hx : sh[x]? = some (.inl (.inl n))) (hd : decode cc pc = .ok (.iaload, 1)) {i : Int32} (hin : vp_in i n)
    (kk : W p l e R s m args below meth c H locs 0 0 Q (F0 m (pc + 1) ls (.int (M x i.toNatClampNeg) :: rest))) : W p l e R s m args below meth c H locs 0 0 Q (F0 m pc ls (.int i :: .ref (ad x) :: rest)) := by
  obtain ⟨f1, f2, f3, f4, f5, f6, f7, f8⟩ := F
  exact va_iald (cA := cA 0) f1 f2 f6 hw.1 x 0 (wW_get ad cA M hx) rfl hin hd kk
theorem r_iald (F : Fx D cA own cc nL ret p s m args meth c) (hw : Wd sh D cA ad H0 M H locs) {x n : Nat} (hx : sh[x]? = some (.inl (.inl n))) (hd : decode cc pc = .ok (.iaload, 1)) {i : Int32} {α : Type} {K : Option α} {r : α} (hf : ix i n K = some r)
    (kk : vp_in i n → K = some r → W p l e R s m args below meth c H locs 0 0 Q (F0 m (pc + 1) ls (.int (M x i.toNatClampNeg) :: rest))) : W p l e R s m args below meth c H locs 0 0 Q (F0 m pc ls (.int i :: .ref (ad x) :: rest)) := by
  obtain ⟨h1, h2⟩ := ix_some hf
  exact r_iald0 F hw hx hd h1 (kk h1 h2)
theorem r_iast0 (F : Fx D cA own cc nL ret p s m args meth c) (hw : Wd sh D cA ad H0 M H locs) {x n : Nat} (hx : sh[x]? = some (.inl (.inl n))) (hd : decode cc pc = .ok (.iastore, 1)) {i v : Int32} (hin : vp_in i n) {α : Type} {K : Mem → α} {res : α} (hf : wr M x i.toNatClampNeg v K = res)
    (kk : ∀ (M1 : Mem) (H1 : Heap) (locs1 : List Loc), Wd sh D cA ad H0 M1 H1 locs1 → K M1 = res → W p l e R s m args below meth c H1 locs1 0 0 Q (F0 m (pc + 1) ls rest)) : W p l e R s m args below meth c H locs 0 0 Q (F0 m pc ls (.int v :: .int i :: .ref (ad x) :: rest)) := by
  obtain ⟨f1, f2, f3, f4, f5, f6, f7, f8⟩ := F
  obtain ⟨w1, w2, w3⟩ := hw
  refine va_iast (cA := cA 0) f1 f2 f6 w1 w2 w3 x 0 (wW_get ad cA M hx) rfl hin hd (fun H1 locs1 h1 h2 h3 => ?_)
  have e : (wW sh ad cA M).set x (ad x, .inl (cA 0, n, .inl (upd (M x) i.toNatClampNeg v))) = wW sh ad cA (up2 M x i.toNatClampNeg v) := by
    rw [← up2_same]
    exact wW_set hx (up2 M x i.toNatClampNeg v) (fun y hy => up2_ne hy)
  rw [e] at h1 h2
  exact kk _ H1 locs1 ⟨h1, h2, h3⟩ hf
theorem r_iast (F : Fx D cA own cc nL ret p s m args meth c) (hw : Wd sh D cA ad H0 M H locs) {x n : Nat} (hx : sh[x]? = some (.inl (.inl n))) (hd : decode cc pc = .ok (.iastore, 1)) {i v : Int32} {α : Type} {K : Mem → Option α} {r : α} (hf : ix i n (wr M x i.toNatClampNeg v K) = some r)
    (kk : vp_in i n → ∀ (M1 : Mem) (H1 : Heap) (locs1 : List Loc), Wd sh D cA ad H0 M1 H1 locs1 → K M1 = some r → W p l e R s m args below meth c H1 locs1 0 0 Q (F0 m (pc + 1) ls rest)) : W p l e R s m args below meth c H locs 0 0 Q (F0 m pc ls (.int v :: .int i :: .ref (ad x) :: rest)) := by
  obtain ⟨h1, h2⟩ := ix_some hf
  exact r_iast0 F hw hx hd h1 h2 (kk h1)
/-- an element of an array of references -/
theorem r_aald0 (F : Fx D cA own cc nL ret p s m args meth c) (hw : Wd sh D cA ad H0 M H locs) {x t b n : Nat} {ty : FieldType} (hty : (tysz cA)[t]? = some (cA t, ty)) (hrk : refKind ty = true) (hx : sh[x]? = some (.inl (.inr (t, b, n)))) (hd : decode cc pc = .ok (.aaload, 1)) {i : Int32} (hin : vp_in i n)
    (kk : W p l e R s m args below meth c H locs 0 0 Q (F0 m (pc + 1) ls (.ref (ad (b + i.toNatClampNeg)) :: rest))) : W p l e R s m args below meth c H locs 0 0 Q (F0 m pc ls (.int i :: .ref (ad x) :: rest)) := by
  obtain ⟨f1, f2, f3, f4, f5, f6, f7, f8⟩ := F
  have hlt : i.toNatClampNeg < n := Nat.not_le.mp fun q => hin (Or.inr q)
  have h0 : va_at D cls9 (ad x, wcell ad cA x (M x) (.inl (.inr (t, b, n)))) H := hw.1 x _ (wW_get ad cA M hx)
  exact W.aald (v := .ref (ad (b + i.toNatClampNeg))) (ty := ty) f1 f2 h0 ((f6.2 t _ hty).1 n (fun j => va_rf (if j < n then some (ad (b + j)) else none))) hrk (fun q => by cases q) (by show ¬ (i < 0 ∨ (arrV _ _ _).slots.size ≤ _); rw [arrV_size]; exact hin) (by show (arrV _ _ _).slots[_]? = _; rw [arrV_read _ _ hlt]; simp only [if_pos hlt]; rfl) rfl rfl hd kk
theorem r_aald (F : Fx D cA own cc nL ret p s m args meth c) (hw : Wd sh D cA ad H0 M H locs) {x t b n : Nat} {ty : FieldType} (hty : (tysz cA)[t]? = some (cA t, ty)) (hrk : refKind ty = true) (hx : sh[x]? = some (.inl (.inr (t, b, n)))) (hd : decode cc pc = .ok (.aaload, 1)) {i : Int32} {α : Type} {K : Option α} {r : α} (hf : ix i n K = some r)
    (kk : vp_in i n → K = some r → W p l e R s m args below meth c H locs 0 0 Q (F0 m (pc + 1) ls (.ref (ad (b + i.toNatClampNeg)) :: rest))) : W p l e R s m args below meth c H locs 0 0 Q (F0 m pc ls (.int i :: .ref (ad x) :: rest)) := by
  obtain ⟨h1, h2⟩ := ix_some hf
  exact r_aald0 F hw hty hrk hx hd h1 (kk h1 h2)
theorem r_alen (F : Fx D cA own cc nL ret p s m args meth c) (hw : Wd sh D cA ad H0 M H locs) {x n : Nat} (hx : sh[x]? = some (.inl (.inl n))) (hd : decode cc pc = .ok (.arraylength, 1))
    (kk : W p l e R s m args below meth c H locs 0 0 Q (F0 m (pc + 1) ls (.int (Int32.ofNat n) :: rest))) : W p l e R s m args below meth c H locs 0 0 Q (F0 m pc ls (.ref (ad x) :: rest)) := by
  obtain ⟨f1, f2, f3, f4, f5, f6, f7, f8⟩ := F
  have h0 : va_at D cls9 (ad x, wcell ad cA x (M x) (.inl (.inl n))) H := hw.1 x _ (wW_get ad cA M hx)
  exact W.alen (n := Int32.ofNat n) f1 f2 h0 ((f6.2 0 _ rfl).1 n (fun j => .int (M x j))) (by show (arrV _ _ _).slots.size.toInt32 = _; rw [arrV_size]) rfl rfl hd kk
end RZ
