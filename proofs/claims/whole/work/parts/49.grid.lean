/-! new int[6][4], and the word of an array over arrays, from the machine's own rules -/
theorem go_spec {args : Array Value} {first s : State} {o : Option Outcome} {idx : List Nat} {t : FieldType} (h : (Cond.arrayOver (.array t)).holds args first o s idx = true) :
    ∃ comp c k, s.vm.findClass (FieldType.array t).toString = some comp ∧ (s.vm.classes.findIdx? fun x => match x.kind with | .array component _ => component == comp | _ => false) = some c ∧ s.vm.classes[c]? = some k ∧ k.kind = .array comp (.array t) ∧ s.vm.findClass ("[" ++ (FieldType.array t).toString) = some c := by
  simp only [Cond.holds, Cond.value, beq_iff_eq] at h
  obtain ⟨comp, e1, h⟩ := Option.bind_eq_some_iff.mp h
  obtain ⟨c, e2, h⟩ := Option.bind_eq_some_iff.mp h
  obtain ⟨k, e3, h⟩ := Option.map_eq_some_iff.mp h
  obtain ⟨hlt, hp, -⟩ := Array.findIdx?_eq_some_iff_getElem.mp e2
  have e4 : s.vm.classes[c] = k := (Array.getElem?_eq_some_iff.mp e3).2
  rw [e4] at hp
  cases hk : k.kind with
  | array a b =>
    rw [hk] at h hp
    have h1 : a = comp := eq_of_beq hp
    have h2 := (Bool.and_eq_true _ _).mp h
    refine ⟨comp, c, k, e1, e2, e3, ?_, of_decide_eq_true h2.2⟩
    rw [hk, h1, of_decide_eq_true h2.1]
  | _ => rw [hk] at h; cases h
theorem go_alike {args args' : Array Value} {u U : State} {t : FieldType} (hal : u.vm.Alike U.vm) (h : (Cond.arrayOver (.array t)).before args u = true) : (Cond.arrayOver (.array t)).before args' U = true := by
  obtain ⟨comp, c, k, e1, e2, e3, e4, e5⟩ := go_spec h
  obtain ⟨k', f3, f4⟩ := hal.2.2 _ _ e3
  have f5 : k'.kind = .array comp (.array t) := by rw [f4]; exact e4
  simp only [Cond.before, Cond.holds, Cond.value, beq_iff_eq]
  refine Option.bind_eq_some_iff.mpr ⟨comp, by rw [hal.findClass]; exact e1, Option.bind_eq_some_iff.mpr ⟨c, by rw [hal.findIdx?_eqK _ (fun _ => rfl)]; exact e2, Option.map_eq_some_iff.mpr ⟨k', f3, ?_⟩⟩⟩
  rw [f5, hal.findClass, e5]
  simp
def gOut (c1 : ClassId) (h0 i : Nat) : Cell := arrV c1 6 (fun j => va_rf (if j < i then some (h0 + 1 + j) else none))
def gIn (c0 : ClassId) : Cell := arrV c0 4 (fun _ => .int 0)
def gSt (c1 c0 : ClassId) (S : State) : Nat → State
  | 0 => S.pushCell (gOut c1 S.heap.size 0)
  | i + 1 => ((gSt c1 c0 S i).pushCell (gIn c0)).setCell S.heap.size (gOut c1 S.heap.size (i + 1))
def gLs (h0 : Nat) : Nat → List Loc
  | 0 => []
  | i + 1 => gLs h0 i ++ [⟨h0, i⟩]
theorem gLs_base {h0 : Nat} : ∀ {i : Nat} {l : Loc}, l ∈ gLs h0 i → l.base = h0
  | 0, l, h => by cases h
  | i + 1, l, h => by
    rcases List.mem_append.mp h with h | h
    · exact gLs_base h
    · rw [List.mem_singleton.mp h]
theorem gOut_new (c1 : ClassId) (h0 : Nat) : ({ cls := c1, slots := Array.replicate 6 .null, vm := .none } : Cell) = gOut c1 h0 0 := by
  rw [arrV_new]
  exact congrArg (arrV c1 6) (funext fun j => by rw [if_neg (Nat.not_lt_zero j)]; rfl)
theorem gIn_new (c0 : ClassId) : ({ cls := c0, slots := Array.replicate 4 (.int 0), vm := .none } : Cell) = gIn c0 := arrV_new _ _ _
theorem gOut_next (c1 : ClassId) (h0 i : Nat) : (gOut c1 h0 i).setSlot i (.ref (h0 + 1 + i)) = gOut c1 h0 (i + 1) := by
  unfold gOut
  rw [arrV_store]
  refine congrArg (arrV c1 6) (funext fun j => ?_)
  unfold updV
  by_cases e : j = i
  · rw [if_pos e, if_pos (by omega), e]; rfl
  · rw [if_neg e]
    show va_rf (if j < i then some (h0 + 1 + j) else none) = _
    by_cases h : j < i
    · rw [if_pos h, if_pos (by omega)]
    · rw [if_neg h, if_neg (by omega)]
theorem gSt_facts (c1 c0 : ClassId) (S : State) : ∀ i : Nat, (gSt c1 c0 S i).heap.size = S.heap.size + 1 + i ∧ (gSt c1 c0 S i).heap[S.heap.size]? = some (gOut c1 S.heap.size i) ∧ (∀ x, x < S.heap.size → (gSt c1 c0 S i).heap[x]? = S.heap[x]?) ∧ (∀ j, j < i → (gSt c1 c0 S i).heap[S.heap.size + 1 + j]? = some (gIn c0)) ∧ (gSt c1 c0 S i).vm = S.vm ∧ (gSt c1 c0 S i).slotsUsed = S.slotsUsed + 6 + i * 4 := by
  intro i
  induction i with
  | zero => exact ⟨State.heap_size_pushCell _ _, State.heap_pushCell_size _ _, fun x hx => State.heap_pushCell_of_lt _ _ hx, fun j hj => absurd hj (Nat.not_lt_zero j), rfl, by show S.slotsUsed + (gOut c1 S.heap.size 0).slots.size = _; unfold gOut; rw [arrV_size]⟩
  | succ i ih =>
    obtain ⟨a1, a2, a3, a4, a5, a6⟩ := ih
    have hp : ∀ x, x < S.heap.size + 1 + i → ((gSt c1 c0 S i).pushCell (gIn c0)).heap[x]? = (gSt c1 c0 S i).heap[x]? := fun x hx => State.heap_pushCell_of_lt (gSt c1 c0 S i) (gIn c0) (show x < (gSt c1 c0 S i).heap.size by rw [a1]; exact hx)
    have ho : ∀ x, ¬ S.heap.size = x → (gSt c1 c0 S (i + 1)).heap[x]? = ((gSt c1 c0 S i).pushCell (gIn c0)).heap[x]? := fun x hx => State.heap_setCell_other hx
    refine ⟨?_, State.heap_setCell_self (c := gOut c1 S.heap.size i) ((hp _ (by omega)).trans a2), fun x hx => ?_, fun j hj => ?_, a5, ?_⟩
    · show (((gSt c1 c0 S i).heap.push (gIn c0)).setIfInBounds _ _).size = _
      rw [Array.size_setIfInBounds, Array.size_push]; omega
    · rw [ho x (by omega), hp x (by omega)]; exact a3 x hx
    · rw [ho _ (by omega)]
      by_cases e : j = i
      · subst e
        rw [← a1]
        exact State.heap_pushCell_size _ _
      · rw [hp _ (by omega)]
        exact a4 j (by omega)
    · show (gSt c1 c0 S i).slotsUsed + (gIn c0).slots.size = _
      unfold gIn
      rw [arrV_size]; omega
theorem gSt_top (c1 c0 : ClassId) (S : State) (f : JFrame) : ∀ i : Nat, gSt c1 c0 (S.setTop f) i = (gSt c1 c0 S i).setTop f
  | 0 => rfl
  | i + 1 => by
    show ((gSt c1 c0 (S.setTop f) i).pushCell (gIn c0)).setCell S.heap.size (gOut c1 S.heap.size (i + 1)) = _
    rw [gSt_top c1 c0 S f i]; rfl
section GW
variable {E : CtlPost} {e : Env} {d : Bool} {acts : List Action}
theorem gIn_wp {S : State} {c0 x : ClassId} {k : Class} {Q : Addr → Pre} (hk : S.vm.classes[c0]? = some k) (hkind : k.kind = .array x .int) (h1 : 4 ≤ e.platform.arrayLengthLimit) (h2 : 16 ≤ e.platform.maxHeapBytes) (h3 : S.heap.size < e.platform.maxCells) (h4 : S.slotsUsed + 4 ≤ e.platform.maxSlots) (hq : ∀ acts', Q S.heap.size d acts' (S.pushCell (gIn c0))) : wp (multianewarray.make c0 [4]) Q E e d acts S := by
  have n4 : ¬ (4 : Int32) < 0 := by decide
  have m4 : (4 : Int32).toNatClampNeg = 4 := by decide
  rw [multianewarray.make]
  simp only [wp_bind', W.ite, n4, if_false, wp_pure', W.theClass, hk, Option.some.injEq, exists_eq_left', hkind, m4]
  refine W.newArray_of hk hkind (by omega) (show ¬ 4 * 4 > e.platform.maxHeapBytes by omega) h3 h4 rfl (fun acts' => ?_)
  have := hq acts'
  rw [← gIn_new] at this
  exact this
theorem gOut_wp {S : State} {c1 c0 x : ClassId} {k1 k0 : Class} {Q : Addr → Pre} (hk1 : S.vm.classes[c1]? = some k1) (hd1 : k1.kind = .array c0 (.array .int)) (hk0 : S.vm.classes[c0]? = some k0) (hd0 : k0.kind = .array x .int) (h1 : 6 ≤ e.platform.arrayLengthLimit) (h2 : 24 ≤ e.platform.maxHeapBytes) (h3 : S.heap.size + 7 ≤ e.platform.maxCells) (h4 : S.slotsUsed + 30 ≤ e.platform.maxSlots) (hq : ∀ d' acts', Q S.heap.size d' acts' (gSt c1 c0 S 6)) : wp (multianewarray.make c1 [6, 4]) Q E e d acts S := by
  have n6 : ¬ (6 : Int32) < 0 := by decide
  have z6 : ((6 : Int32) == 0) = false := by decide
  have m6 : (6 : Int32).toNatClampNeg = 6 := by decide
  rw [multianewarray.make]
  simp only [wp_bind', W.ite, n6, if_false, wp_pure', W.theClass, hk1, Option.some.injEq, exists_eq_left', hd1, m6, z6, Bool.false_eq_true]
  refine W.newArray_of (comp := c0) (type := .array .int) hk1 hd1 (by omega) (show ¬ 6 * 4 > e.platform.maxHeapBytes by omega) (by omega) (by omega) rfl (fun acts1 => ?_)
  have e0 : S.pushCell { cls := c1, slots := Array.replicate 6 .null } = gSt c1 c0 S 0 := congrArg S.pushCell (gOut_new c1 S.heap.size)
  rw [e0]
  simp only [wp_bind', Std.Legacy.Range.forIn_eq_forIn_range', Std.Legacy.Range.size]
  refine wp_forIn_inv (fun r s' => ∃ i, i ≤ 6 ∧ r = List.range' i (6 - i) ∧ s' = gSt c1 c0 S i) _ _ ⟨0, by omega, rfl, rfl⟩ ?_ ?_
  · intro y r s' d' acts' Q' hI hk
    obtain ⟨i, hi, hr, rfl⟩ := hI
    obtain ⟨a1, a2, a3, a4, a5, a6⟩ := gSt_facts c1 c0 S i
    by_cases hz : i = 6
    · subst hz; cases hr
    · have hi6 : i < 6 := by omega
      rw [show 6 - i = (6 - (i + 1)) + 1 by omega, List.range'_succ] at hr
      obtain ⟨rfl, rfl⟩ := List.cons.inj hr
      simp only [wp_bind', wp_pure']
      refine gIn_wp (k := k0) (x := x) (by rw [a5]; exact hk0) hd0 (by omega) (by omega) (by omega) (by omega) (fun acts2 => ?_)
      simp only [wp_bind', wp_pure', W.writeLoc]
      refine ⟨gOut c1 S.heap.size y, (State.heap_pushCell_of_lt (gSt c1 c0 S y) (gIn c0) (show S.heap.size < (gSt c1 c0 S y).heap.size by rw [a1]; omega)).trans a2, fun q => (by cases q), by unfold gOut; rw [arrV_size]; exact hi6, ?_, ?_⟩
      · show (gSt c1 c0 S y).fitsSlot c1 .none y _ = true
        simp [State.fitsSlot, State.slotType?, a5, hk1, hd1]
        rfl
      · rw [a1, gOut_next]
        exact hk _ _ _ ⟨y + 1, by omega, rfl, rfl⟩
  · intro s' d' acts' hI
    obtain ⟨i, hi, hr, rfl⟩ := hI
    have h6 : i = 6 := by
      by_cases hz : i = 6
      · exact hz
      · rw [show 6 - i = (6 - (i + 1)) + 1 by omega, List.range'_succ] at hr
        cases hr
    subst h6
    exact hq _ _
end GW
section GN
variable {p : Program} {l : Launch} {e : Env} {R : Room} {s : State} {m : MethodId} {args : Array Value} {below : List Frame} {meth : Method} {c : Code} {T : State} {locs : List Loc} {cells slots : Nat}
theorem gSt_stand (X : Stand p l e R s m args below meth c T locs cells slots) (c1 c0 : ClassId) : ∀ i : Nat, Stand p l e R s m args below meth c (gSt c1 c0 T i) (locs ++ gLs T.heap.size i) (cells + (1 + i)) (slots + (6 + i * 4))
  | 0 => by
    have h := X.pushed (gOut c1 T.heap.size 0)
    rw [show (gOut c1 T.heap.size 0).slots.size = 6 from arrV_size _ _ _] at h
    show Stand p l e R s m args below meth c _ (locs ++ []) _ _
    rw [List.append_nil]
    exact h
  | i + 1 => by
    obtain ⟨a1, a2, -⟩ := gSt_facts c1 c0 T i
    have h := (gSt_stand X c1 c0 i).pushed (gIn c0)
    rw [show (gIn c0).slots.size = 4 from arrV_size _ _ _] at h
    have h2 := h.stored (a := T.heap.size) (cell := gOut c1 T.heap.size i) ((State.heap_pushCell_of_lt (gSt c1 c0 T i) (gIn c0) (show T.heap.size < (gSt c1 c0 T i).heap.size by rw [a1]; omega)).trans a2) i (.ref (T.heap.size + 1 + i))
    rw [gOut_next, List.append_assoc, show cells + (1 + i) + 1 = cells + (1 + (i + 1)) by omega, show slots + (6 + i * 4) + 4 = slots + (6 + (i + 1) * 4) by omega] at h2
    exact h2
theorem gNew (X : Stand p l e R s m args below meth c T locs cells slots) (hexec : p.tables.exec = Jvm.exec) {own : String} {index : Nat} (hown : s.vm.findClass own = some m.cls)
    (hcl : (Cond.classLink own index ("[" ++ (FieldType.array .int).toString)).before args s = true) (hov : (Cond.arrayOver (.array .int)).before args s = true) (har : (Cond.arrayClass .int).before args s = true)
    {g : JFrame} (hg : g.method = m) (hdg : decode c.code g.pc = .ok (.multianewarray index 2, 4)) {rest : List Value} (hst : g.stack = .int 4 :: .int 6 :: rest) (hc : cells + (1 + 6) ≤ R.cells) (hs : slots + (6 + 6 * 4) ≤ R.slots) :
    ∃ (vm₁ : Vm) (c1 c0 : ClassId), s.vm.findClass ("[" ++ (FieldType.array .int).toString) = some c1 ∧ s.vm.findClass (FieldType.array .int).toString = some c0 ∧
      Stand p l e R s m args below meth c (gSt c1 c0 (T.setVm vm₁) 6) (locs ++ gLs T.heap.size 6) (cells + (1 + 6)) (slots + (6 + 6 * 4)) ∧
      ∀ target, Steps p.tables e below ((gSt c1 c0 (T.setVm vm₁) 6).setTop { g with pc := g.pc + 4, stack := .ref T.heap.size :: rest }) target → Steps p.tables e below (T.setTop g) target := by
  subst hg
  have hpl : e.platform.magicAccessors = ({} : Platform).magicAccessors := by rw [X.admits.platform]
  obtain ⟨c0, c1, k1, b1, -, b3, b4, b5⟩ := go_spec hov
  obtain ⟨cI, kI, x, i1, i2, i3⟩ := Cond.arrayClass_spec har
  have hcI : cI = c0 := Option.some.inj (i1.symm.trans b1)
  subst hcI
  obtain ⟨cc, l1, l2⟩ := Cond.classLink_spec hown hcl e.platform hpl
  have hcc : cc = c1 := Option.some.inj (l1.symm.trans b5)
  subst hcc
  obtain ⟨hg1, hw1, hr1⟩ := State.classEntry (e := e) X.warmed l2
  generalize T.vm.noted g.method.cls index (.cls cc) = vm₁ at hg1 hw1 hr1
  have hal : s.vm.Alike vm₁ := hw1.alike
  obtain ⟨k1', q1, q2⟩ := hal.2.2 _ _ b3
  obtain ⟨k0', q3, q4⟩ := hal.2.2 _ _ i2
  have q5 : k1'.kind = .array cI (.array .int) := by rw [q2]; exact b4
  have q6 : k0'.kind = .array x .int := by rw [q4]; exact i3
  obtain ⟨r1, r2⟩ := X.roomAbove hc hs
  have hlim : 6 ≤ e.platform.arrayLengthLimit := by rw [Launch.admits_arrayLengthLimit X.admits]; omega
  have hhp : 24 ≤ e.platform.maxHeapBytes := by rw [Launch.admits_maxHeapBytes X.admits]; omega
  refine ⟨vm₁, cc, cI, b5, b1, gSt_stand (X.noted hw1) cc cI 6, fun target hrest => ?_⟩
  refine Steps.instr (c := c) X.here ?_
  rw [hdg]
  show wpRun (p.tables.exec _) _ _ _ _
  rw [hexec]
  show wp (multianewarray.sem index 2) _ _ _ _ _ _
  have hs0 : T.topJava?.isSome := X.here.top
  rw [multianewarray.sem, wp_bind', W.resolveClassAt_transfer (s := T.setTop g) (State.method?_setTop g hs0) hg1 hr1]
  rw [W.resolveClassAt_ready (s := (T.setTop g).setVm vm₁) (State.method?_setTop g hs0) hr1]
  simp only [popN, wp_bind', W.pop, wp_pure']
  have hs1 : ((T.setTop g).setVm vm₁).topJava? = some g := State.topJava?_setTop' g hs0
  refine ⟨g, hs1, .int 4, .int 6 :: rest, hst, { g with stack := .int 6 :: rest }, State.topJava?_setTop' _ (by rw [hs1]; rfl), .int 6, rest, rfl, ?_⟩
  show wp (List.mapM _ [Value.int 6, Value.int 4]) _ _ _ _ _ _
  simp only [List.mapM_cons, List.mapM_nil, wp_bind', wp_pure']
  rw [State.setTop_setTop]
  refine gOut_wp (k1 := k1') (k0 := k0') (x := x) q1 q5 q3 q6 hlim hhp r1 r2 (fun d' acts' => ?_)
  have et : gSt cc cI (((T.setTop g).setVm vm₁).setTop { g with stack := rest }) 6 = (gSt cc cI (T.setVm vm₁) 6).setTop { g with stack := rest } := by
    have e1 : ((T.setTop g).setVm vm₁).setTop { g with stack := rest } = (T.setVm vm₁).setTop { g with stack := rest } := State.setTop_setTop (T.setVm vm₁) g _
    rw [e1]
    exact gSt_top cc cI (T.setVm vm₁) _ 6
  have hs2 : (gSt cc cI (T.setVm vm₁) 6).topJava?.isSome := (gSt_stand (X.noted hw1) cc cI 6).here.top
  simp only [wp_bind', W.mark, W.pushRef, et, State.topJava?_setTop' _ hs2, Option.some.injEq, exists_eq_left', State.setTop_setTop]
  intro acts
  rw [afterInstr_ok]
  exact hrest
end GN
