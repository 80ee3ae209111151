/-! contracts over the one picture; returns, calls, branches -/
abbrev rz (fr lo : Nat) : Room := { frames := fr, cells := 0, slots := 0, locals := lo }
def wz (y : MethodName) (bytes : ByteArray) (nL : Nat) (ret : Option FieldType) : List Cond := .code y bytes nL ret :: BIG
def Qzi (sh : List Sh) (D : va_G) (cA : Nat → ClassId) (ad : Nat → Nat) (ty : FieldType) (r : Int32) (M' : Mem) : Array Value → State → Outcome → State → Prop := va_Qi (fun r' (_ : Unit) => r' = r ∧ narrow ty (.int r') = .int r') (fun _ t => Wp sh D cA ad M' t) (Az sh ad)
def Qzl (sh : List Sh) (D : va_G) (cA : Nat → ClassId) (ad : Nat → Nat) (r : Int64) (M' : Mem) : Array Value → State → Outcome → State → Prop := va_Ql (fun r' (_ : Unit) => r' = r) (fun _ t => Wp sh D cA ad M' t) (Az sh ad)
def Qzv (sh : List Sh) (D : va_G) (cA : Nat → ClassId) (ad : Nat → Nat) (M' : Mem) : Array Value → State → Outcome → State → Prop := va_Qv (fun (_ : Unit) => True) (fun _ t => Wp sh D cA ad M' t) (Az sh ad)
def Ctg (l : Launch) (y : MethodName) (bytes : ByteArray) (nL : Nat) (ret : Option FieldType) (fr lo : Nat) (sh : List Sh) (D : va_G) (cA : Nat → ClassId) (ad : Nat → Nat) (av : List Value) (M : Mem) (Qc : Array Value → State → Outcome → State → Prop) : Prop :=
  Met l y (wz y bytes nL ret) (rz fr lo) (va_Pc av (fun U => Wp sh D cA ad M U)) Qc 0 0 (Az sh ad)
theorem big_in {ws : List Cond} (h : ∀ w ∈ ws, w ∈ BIG) : GoodIn BIG ws := fun w hw => big_good w (h w hw)
theorem Wp_blind {sh : List Sh} {D : va_G} {cA : Nat → ClassId} {ad : Nat → Nat} {av : List Value} {M : Mem} : FrameBlind (va_Pc av (fun U => Wp sh D cA ad M U)) := fun a U g mk q => by
  obtain ⟨q0, qP, qD, qK⟩ := q
  exact ⟨q0, qP, qD, va_K.moved (u := U) (U := U.calling g mk a) (Vm.Alike.refl U.vm) qK⟩
/-- a call's words -/
def Cw (own : String) (index : Nat) (y : MethodName) (bytes : ByteArray) (nL : Nat) (ret : Option FieldType) (C : String) (n : Nat) : Prop :=
  (Cond.methodLink own index y ∈ BIG ∧ Cond.instanceMethod y ∈ BIG ∧ Cond.selects C y y ∈ BIG ∧ Cond.initialized C ∈ BIG ∧ Cond.code y bytes nL ret ∈ BIG) ∧ y.cls = C ∧ y.cls ≠ "java/lang/invoke/MethodHandle" ∧ y.cls ≠ "java/lang/invoke/VarHandle" ∧ (parseMethodDescriptor y.desc).map (fun d => d.parameters.length) = some n
def Cs (own : String) (index : Nat) (y : MethodName) (bytes : ByteArray) (nL : Nat) (ret : Option FieldType) (n : Nat) : Prop :=
  (Cond.methodLink own index y ∈ BIG ∧ Cond.static y ∈ BIG ∧ Cond.initialized y.cls ∈ BIG ∧ Cond.code y bytes nL ret ∈ BIG) ∧ y.cls ≠ "java/lang/invoke/MethodHandle" ∧ y.cls ≠ "java/lang/invoke/VarHandle" ∧ (parseMethodDescriptor y.desc).map (fun d => d.parameters.length) = some n
theorem bind_some' {α β : Type} {o : Option α} {K : α → Option β} {r : β} (h : o.bind K = some r) : ∃ a, o = some a ∧ K a = some r := by
  cases o with
  | none => cases h
  | some a => exact ⟨a, rfl, h⟩
section RY
variable {p : Program} {l : Launch} {e : Env} {R : Room} {s : State} {m : MethodId} {args : Array Value} {below : List Frame} {meth : Method} {c : Code} {H : Heap} {locs : List Loc} {Q : State → Prop}
variable {sh : List Sh} {D : va_G} {cA : Nat → ClassId} {ad : Nat → Nat} {H0 : Heap} {M : Mem} {cc : ByteArray} {own : String} {nL : Nat} {ret : Option FieldType} {pc : Nat} {ls : Array Slot} {rest : List Value} {lv : List (Nat × Value)}
theorem ct_in {y : MethodName} {bytes : ByteArray} {fr lo : Nat} {av : List Value} {Qc : Array Value → State → Outcome → State → Prop} (hy : plainName y.cls = true) (hlen : (lg_sl av).length ≤ nL)
    (body : ∀ (p : Program) (e : Env) (s : State) (m : MethodId) (below : List Frame) (meth : Method) (c : Code) (ls : Array Slot), Fx D cA y.cls bytes nL ret p s m av.toArray meth c → lv_has ls nL (lv_args 0 av) → Wd sh D cA ad s.heap M s.heap [] → W p l e (rz fr lo) s m av.toArray below meth c s.heap [] 0 0 (MQ below Qc av.toArray s 0 0 (Az sh ad)) (F0 m 0 ls [])) :
    Ctg l y bytes nL ret fr lo sh D cA ad av M Qc := by
  refine Met.ofW (cc := bytes) (maxL := nL) (ret := ret) hy rfl ?_
  intro p e s m args below meth c s₁ B hml hv
  obtain ⟨rfl, hP, hD, hK⟩ := hv
  have hts := atoms_spec (ws := wz y bytes nL ret) B.pre
  have hown : s.vm.findClass y.cls = some m.cls := findClass_of_methodNamed B.named
  have hl := lv_entry av (n := nL) hlen
  rw [lg_entry_eq]
  exact body p e s m below meth c _ ⟨B.exec, B.bytes, hml, hown, fun w h => hts w (List.mem_cons_of_mem _ h), hK, B.returns, B.notSynchronized⟩ hl ⟨hP, hD, va_S.rf⟩
theorem met_ofWF {y : MethodName} {ws ws' : List Cond} {rm : Room} {Pc : Array Value → State → Prop} {Qc : Array Value → State → Outcome → State → Prop} {mc ms : Nat} {free : Addr → Prop} {cc : ByteArray} {maxL : Nat} {ret : Option FieldType}
    (hy : plainFor y = true) (hw : ws = Cond.code y cc maxL ret :: ws')
    (body : ∀ p e s m args below meth c s₁, BodyLoose p l y (headSpec ws rm) cc maxL ret e s m args below meth c s₁ → c.maxLocals = maxL → Pc args s →
      W p l e (headSpec ws rm).room s m args below meth c s.heap [] 0 0 (MQ below Qc args s mc ms free) (entryFrame m args maxL)) : Met l y ws rm Pc Qc mc ms free := by
  refine MetFree.of_bodySF (code := cc) (maxLocals := maxL) (ret := ret) hy ?_ ?_
  · intro args s m h hn
    obtain ⟨meth, c, h1, h2, h3, h4, h5, h6, -, -⟩ := Cond.code_spec hn (atoms_spec (ws := ws) h _ (by rw [hw]; exact List.mem_cons_self))
    exact ⟨meth, c, h1, h2, h3, h4, h5, h6⟩
  · intro p e s m args below meth c s₁ B hml hP _
    have hh0 : s₁.heap = s.heap := by rw [B.state]; rfl
    obtain ⟨t, a1, o, b1, b2, b3⟩ := body p e s m args below meth c s₁ B hml hP s₁ hh0 (Stand.of_body B)
    exact ⟨t, o, a1, b1, b2, ⟨b3.1, b3.2⟩⟩
theorem ct_inF {y : MethodName} {bytes : ByteArray} {fr lo : Nat} {av : List Value} {Qc : Array Value → State → Outcome → State → Prop} (hy : plainFor y = true) (hlen : (lg_sl av).length ≤ nL)
    (body : ∀ (p : Program) (e : Env) (s : State) (m : MethodId) (below : List Frame) (meth : Method) (c : Code) (ls : Array Slot), Fx D cA y.cls bytes nL ret p s m av.toArray meth c → lv_has ls nL (lv_args 0 av) → Wd sh D cA ad s.heap M s.heap [] → W p l e (rz fr lo) s m av.toArray below meth c s.heap [] 0 0 (MQ below Qc av.toArray s 0 0 (Az sh ad)) (F0 m 0 ls [])) :
    Ctg l y bytes nL ret fr lo sh D cA ad av M Qc := by
  refine met_ofWF (cc := bytes) (maxL := nL) (ret := ret) hy rfl ?_
  intro p e s m args below meth c s₁ B hml hv
  obtain ⟨rfl, hP, hD, hK⟩ := hv
  have hts := atoms_spec (ws := wz y bytes nL ret) B.pre
  have hown : s.vm.findClass y.cls = some m.cls := findClass_of_methodNamed B.named
  have hl := lv_entry av (n := nL) hlen
  rw [lg_entry_eq]
  exact body p e s m below meth c _ ⟨B.exec, B.bytes, hml, hown, fun w h => hts w (List.mem_cons_of_mem _ h), hK, B.returns, B.notSynchronized⟩ hl ⟨hP, hD, va_S.rf⟩
theorem r_iret {ty : FieldType} (F : Fx D cA own cc nL (some ty) p s m args meth c) (hw : Wd sh D cA ad s.heap M H locs) {v : Int32} (hn : narrow ty (.int v) = .int v) (hd : decode cc pc = .ok (.ireturn, 1)) :
    W p l e R s m args below meth c H locs 0 0 (MQ below (Qzi sh D cA ad ty v M) args s 0 0 (Az sh ad)) (F0 m pc ls [.int v]) := by
  obtain ⟨f1, f2, f3, f4, f5, f6, f7, f8⟩ := F
  obtain ⟨w1, w2, w3⟩ := hw
  exact W.zret (ty := ty) f1 f2 f7 hn (fun t ht hW => ⟨⟨v, (), rfl, ⟨rfl, hn⟩, by rw [ht]; exact w1, w2, va_K.moved hW.alike f6⟩, w3.F ht⟩) w3.2.2 hd f8
theorem r_iret_t {ty : FieldType} (F : Fx D cA own cc nL (some ty) p s m args meth c) (hw : Wd sh D cA ad s.heap M H locs) {v r : Int32} (hn : narrow ty (.int v) = .int v) (hd : decode cc pc = .ok (.ireturn, 1)) (hf : v = r) :
    W p l e R s m args below meth c H locs 0 0 (MQ below (Qzi sh D cA ad ty r M) args s 0 0 (Az sh ad)) (F0 m pc ls [.int v]) := by
  subst hf; exact r_iret F hw hn hd
theorem r_iret_o {ty : FieldType} (F : Fx D cA own cc nL (some ty) p s m args meth c) (hw : Wd sh D cA ad s.heap M H locs) {v r : Int32} (hn : narrow ty (.int v) = .int v) (hd : decode cc pc = .ok (.ireturn, 1)) (hf : some v = some r) :
    W p l e R s m args below meth c H locs 0 0 (MQ below (Qzi sh D cA ad ty r M) args s 0 0 (Az sh ad)) (F0 m pc ls [.int v]) := by
  cases hf; exact r_iret F hw hn hd
theorem r_iret_w {ty : FieldType} (F : Fx D cA own cc nL (some ty) p s m args meth c) (hw : Wd sh D cA ad s.heap M H locs) {v r : Int32} {M' : Mem} (hn : narrow ty (.int v) = .int v) (hd : decode cc pc = .ok (.ireturn, 1)) (hf : some (v, M) = some (r, M')) :
    W p l e R s m args below meth c H locs 0 0 (MQ below (Qzi sh D cA ad ty r M') args s 0 0 (Az sh ad)) (F0 m pc ls [.int v]) := by
  cases hf; exact r_iret F hw hn hd
theorem r_lret (F : Fx D cA own cc nL (some .long) p s m args meth c) (hw : Wd sh D cA ad s.heap M H locs) {v : Int64} (hd : decode cc pc = .ok (.lreturn, 1)) :
    W p l e R s m args below meth c H locs 0 0 (MQ below (Qzl sh D cA ad v M) args s 0 0 (Az sh ad)) (F0 m pc ls [.long v]) := by
  obtain ⟨f1, f2, f3, f4, f5, f6, f7, f8⟩ := F
  obtain ⟨w1, w2, w3⟩ := hw
  exact W.lret f1 f2 f7 (fun t ht hW => ⟨⟨v, (), rfl, rfl, by rw [ht]; exact w1, w2, va_K.moved hW.alike f6⟩, w3.F ht⟩) w3.2.2 hd f8
theorem r_lret_o (F : Fx D cA own cc nL (some .long) p s m args meth c) (hw : Wd sh D cA ad s.heap M H locs) {v r : Int64} (hd : decode cc pc = .ok (.lreturn, 1)) (hf : some v = some r) :
    W p l e R s m args below meth c H locs 0 0 (MQ below (Qzl sh D cA ad r M) args s 0 0 (Az sh ad)) (F0 m pc ls [.long v]) := by
  cases hf; exact r_lret F hw hd
theorem r_lret_w (F : Fx D cA own cc nL (some .long) p s m args meth c) (hw : Wd sh D cA ad s.heap M H locs) {v r : Int64} {M' : Mem} (hd : decode cc pc = .ok (.lreturn, 1)) (hf : some (v, M) = some (r, M')) :
    W p l e R s m args below meth c H locs 0 0 (MQ below (Qzl sh D cA ad r M') args s 0 0 (Az sh ad)) (F0 m pc ls [.long v]) := by
  cases hf; exact r_lret F hw hd
theorem r_vret_w (F : Fx D cA own cc nL none p s m args meth c) (hw : Wd sh D cA ad s.heap M H locs) {M' : Mem} (hd : decode cc pc = .ok (.return_, 1)) (hf : some M = some M') :
    W p l e R s m args below meth c H locs 0 0 (MQ below (Qzv sh D cA ad M') args s 0 0 (Az sh ad)) (F0 m pc ls []) := by
  cases hf
  obtain ⟨f1, f2, f3, f4, f5, f6, f7, f8⟩ := F
  obtain ⟨w1, w2, w3⟩ := hw
  exact W.vret f1 f2 f7 (fun t ht hW => ⟨⟨(), rfl, trivial, by rw [ht]; exact w1, w2, va_K.moved hW.alike f6⟩, w3.F ht⟩) w3.2.2 hd f8
theorem r_runV (F : Fx D cA own cc nL ret p s m args meth c) (hw : Wd sh D cA ad H0 M H locs) (hl : lv_has ls nL lv) {y : MethodName} {bytes : ByteArray} {nL' fr lo x ci index : Nat} {ret' : Option FieldType} {As : List Value} {Qc : Array Value → State → Outcome → State → Prop} {C : String} {T : u_T} {N : Nat} {fs : List (Option Nat)}
    (hC : Ctg l y bytes nL' ret' fr lo sh D cA ad (.ref (ad x) :: As) M Qc) (hz : Cz ci C T N) (hx : sh[x]? = some (.inr (ci, fs))) (k : Cw own index y bytes nL' ret' C As.length) (hR : fr + 1 ≤ R.frames ∧ 8 + (nL' + 11) + lo ≤ R.locals) (hrm : (rest.map fun v => v.category).sum ≤ 8) (hd : decode cc pc = .ok (.invokevirtual index, 3)) :
    va_Run p l e R s m args below meth c H locs 0 0 0 0 (F0 m pc ls (As.reverse ++ .ref (ad x) :: rest)) rest (Qc (Value.ref (ad x) :: As).toArray) (Az sh ad) := by
  obtain ⟨f1, f2, f3, f4, f5, f6, f7, f8⟩ := F
  obtain ⟨w1, w2, w3⟩ := hw
  obtain ⟨⟨k1, k2, k3, k4, k5⟩, k6⟩ := k
  refine va_runV (As := As) (C := C) (n := As.length) (Ts := BIG) ⟨f1, f2, f3, f4, f5⟩ hC (cwV As.length f5 (big_in ?_) rfl rfl rfl k6 hR) ⟨Wp_blind, va_recv f6 w1 hz.1 (wW_get ad cA M hx), fun U hU hW => ⟨rfl, by rw [hU]; exact w1, w2, va_K.moved hW.alike f6⟩⟩ rfl rfl hl.1 rfl (lv_room hrm) hd ⟨Nat.zero_le _, Nat.zero_le _⟩
  intro w hw
  rcases List.mem_append.mp hw with h | h
  · rcases List.mem_cons.mp h with rfl | h
    · exact k1
    · rcases List.mem_cons.mp h with rfl | h
      · exact k2
      · rcases List.mem_cons.mp h with rfl | h
        · exact k3
        · rcases List.mem_cons.mp h with rfl | h
          · exact k4
          · cases h
  · rcases List.mem_cons.mp h with rfl | h
    · exact k5
    · exact h
theorem r_runS (F : Fx D cA own cc nL ret p s m args meth c) (hw : Wd sh D cA ad H0 M H locs) (hl : lv_has ls nL lv) {y : MethodName} {bytes : ByteArray} {nL' fr lo index : Nat} {ret' : Option FieldType} {As : List Value} {Qc : Array Value → State → Outcome → State → Prop}
    (hC : Ctg l y bytes nL' ret' fr lo sh D cA ad As M Qc) (k : Cs own index y bytes nL' ret' As.length) (hR : fr + 1 ≤ R.frames ∧ 8 + (nL' + 11) + lo ≤ R.locals) (hrm : (rest.map fun v => v.category).sum ≤ 8) (hd : decode cc pc = .ok (.invokestatic index, 3)) :
    va_Run p l e R s m args below meth c H locs 0 0 0 0 (F0 m pc ls (As.reverse ++ rest)) rest (Qc As.toArray) (Az sh ad) := by
  obtain ⟨f1, f2, f3, f4, f5, f6, f7, f8⟩ := F
  obtain ⟨w1, w2, w3⟩ := hw
  obtain ⟨⟨k1, k2, k3, k5⟩, k6⟩ := k
  refine va_runS (As := As) (n := As.length) (Ts := BIG) ⟨f1, f2, f3, f4, f5⟩ hC (va_cwS As.length f5 (big_in ?_) rfl rfl rfl k6 hR) ⟨Wp_blind, fun U hU hW => ⟨rfl, by rw [hU]; exact w1, w2, va_K.moved hW.alike f6⟩⟩ rfl rfl hl.1 rfl (lv_room hrm) hd ⟨Nat.zero_le _, Nat.zero_le _⟩
  intro w hw
  rcases List.mem_append.mp hw with h | h
  · rcases List.mem_cons.mp h with rfl | h
    · exact k1
    · rcases List.mem_cons.mp h with rfl | h
      · exact k2
      · rcases List.mem_cons.mp h with rfl | h
        · exact k3
        · cases h
  · rcases List.mem_cons.mp h with rfl | h
    · exact k5
    · exact h
theorem r_afti {ty : FieldType} {r : Int32} {M1 : Mem} {st0 : List Value} {a : Array Value} (hw : Wd sh D cA ad H0 M H locs) (hr : va_Run p l e R s m args below meth c H locs 0 0 0 0 (F0 m pc ls st0) rest (Qzi sh D cA ad ty r M1 a) (Az sh ad))
    (kk : ∀ (H1 : Heap) (locs1 : List Loc), Wd sh D cA ad H0 M1 H1 locs1 → narrow ty (.int r) = .int r → W p l e R s m args below meth c H1 locs1 0 0 Q (F0 m (pc + 3) ls (.int r :: rest))) : W p l e R s m args below meth c H locs 0 0 Q (F0 m pc ls st0) := by
  refine va_calli hr hw.2.2 (fun q _ h => h) (fun q h => h) (fun r' u t H1 locs1 ht hvm hp hB hz1 hk1 hS => ?_)
  obtain ⟨rfl, hn⟩ := hp
  obtain ⟨b1, b2, b3⟩ := hB
  rw [ht] at b1
  exact kk H1 locs1 ⟨b1, b2, hS⟩ hn
theorem r_aftl {r : Int64} {M1 : Mem} {st0 : List Value} {a : Array Value} (hw : Wd sh D cA ad H0 M H locs) (hr : va_Run p l e R s m args below meth c H locs 0 0 0 0 (F0 m pc ls st0) rest (Qzl sh D cA ad r M1 a) (Az sh ad))
    (kk : ∀ (H1 : Heap) (locs1 : List Loc), Wd sh D cA ad H0 M1 H1 locs1 → W p l e R s m args below meth c H1 locs1 0 0 Q (F0 m (pc + 3) ls (.long r :: rest))) : W p l e R s m args below meth c H locs 0 0 Q (F0 m pc ls st0) := by
  refine va_calll hr hw.2.2 (fun q _ h => h) (fun q h => h) (fun r' u t H1 locs1 ht hvm hp hB hz1 hk1 hS => ?_)
  obtain rfl := hp
  obtain ⟨b1, b2, b3⟩ := hB
  rw [ht] at b1
  exact kk H1 locs1 ⟨b1, b2, hS⟩
theorem r_aftv {M1 : Mem} {st0 : List Value} {a : Array Value} (hw : Wd sh D cA ad H0 M H locs) (hr : va_Run p l e R s m args below meth c H locs 0 0 0 0 (F0 m pc ls st0) rest (Qzv sh D cA ad M1 a) (Az sh ad))
    (kk : ∀ (H1 : Heap) (locs1 : List Loc), Wd sh D cA ad H0 M1 H1 locs1 → W p l e R s m args below meth c H1 locs1 0 0 Q (F0 m (pc + 3) ls rest)) : W p l e R s m args below meth c H locs 0 0 Q (F0 m pc ls st0) := by
  refine va_callv hr hw.2.2 (fun q _ h => h) (fun q h => h) (fun u t H1 locs1 ht hvm hp hB hz1 hk1 hS => ?_)
  obtain ⟨b1, b2, b3⟩ := hB
  rw [ht] at b1
  exact kk H1 locs1 ⟨b1, b2, hS⟩
theorem r_max (F : Fx D cA own cc nL ret p s m args meth c) (hl : lv_has ls nL lv) {index : Nat} (k1 : Cond.methodLink own index Lib.Math.max.name ∈ BIG) (k2 : Cond.static Lib.Math.max.name ∈ BIG) (k3 : Cond.initialized "java/lang/Math" ∈ BIG) (k4 : Cond.code Lib.Math.max.name Lib.Math.max.code 2 (some .int) ∈ BIG) (hR : 1 ≤ R.frames ∧ (rest.map fun v => v.category).sum + 13 ≤ R.locals) {x y : Int32} (hd : decode cc pc = .ok (.invokestatic index, 3))
    (kk : W p l e R s m args below meth c H locs 0 0 Q (F0 m (pc + 3) ls (.int (if x < y then y else x) :: rest))) : W p l e R s m args below meth c H locs 0 0 Q (F0 m pc ls (.int y :: .int x :: rest)) := by
  obtain ⟨f1, f2, f3, f4, f5, f6, f7, f8⟩ := F
  exact va_mmax f1 f2 (f3.trans hl.1.symm) f4 (f5 _ k1) (f5 _ k2) (f5 _ k3) (f5 _ k4) hR.1 hR.2 (Nat.zero_le _) (Nat.zero_le _) hd kk
theorem r_copy (F : Fx D cA own cc nL ret p s m args meth c) (hw : Wd sh D cA ad H0 M H locs) (hl : lv_has ls nL lv) {index : Nat} (k1 : Cond.methodLink own index arraycopyName ∈ BIG) (k2 : Cond.native arraycopyName ∈ BIG) (k3 : Cond.static arraycopyName ∈ BIG) (k4 : Cond.initialized "java/lang/System" ∈ BIG) {x0 n0 x1 n1 : Nat} (hx0 : sh[x0]? = some (.inl (.inl n0))) (hx1 : sh[x1]? = some (.inl (.inl n1))) (hR : 1 ≤ R.frames ∧ (rest.map fun v => v.category).sum + (nativeFrameWords "java/lang/System" "arraycopy" 5 + 11) ≤ R.locals) {sp dp n : Int32} (hd : decode cc pc = .ok (.invokestatic index, 3)) {α : Type} {K : Mem → Option α} {r : α} (hf : cpy M x0 n0 x1 n1 sp dp n K = some r)
    (kk : ∀ (M1 : Mem) (H1 : Heap) (locs1 : List Loc), Wd sh D cA ad H0 M1 H1 locs1 → K M1 = some r → W p l e R s m args below meth c H1 locs1 0 0 Q (F0 m (pc + 3) ls rest)) : W p l e R s m args below meth c H locs 0 0 Q (F0 m pc ls (.int n :: .int dp :: .ref (ad x1) :: .int sp :: .ref (ad x0) :: rest)) := by
  obtain ⟨f1, f2, f3, f4, f5, f6, f7, f8⟩ := F
  obtain ⟨w1, w2, w3⟩ := hw
  unfold cpy at hf
  by_cases q : sp < 0 ∨ dp < 0 ∨ n < 0 ∨ n0 < sp.toNatClampNeg + n.toNatClampNeg ∨ n1 < dp.toNatClampNeg + n.toNatClampNeg
  · rw [if_pos q] at hf; cases hf
  · rw [if_neg q] at hf
    refine va_copyi (c0 := cA 0) (c1 := cA 0) (ty := .int) f1 f2 (f3.trans hl.1.symm) f4 (f5 _ k1) (f5 _ k2) (f5 _ k3) (f5 _ k4) f6 w1 w2 w3 x0 x1 0 0 (wW_get ad cA M hx0) (wW_get ad cA M hx1) rfl rfl rfl (fun h => q (Or.inl h)) (fun h => q (Or.inr (Or.inl h))) (fun h => q (Or.inr (Or.inr (Or.inl h)))) (Nat.not_lt.mp fun h => q (Or.inr (Or.inr (Or.inr (Or.inl h))))) (Nat.not_lt.mp fun h => q (Or.inr (Or.inr (Or.inr (Or.inr h))))) (fun _ _ => rfl) hR.1 hR.2 hd (fun H1 locs1 h1 h2 h3 => ?_)
    have e9 : (wW sh ad cA M).set x1 (ad x1, .inl (cA 0, n1, .inl (va_cpy (M x0) (M x1) sp.toNatClampNeg dp.toNatClampNeg n.toNatClampNeg))) = wW sh ad cA (fun y => if y = x1 then va_cpy (M x0) (M x1) sp.toNatClampNeg dp.toNatClampNeg n.toNatClampNeg else M y) := by
      have h9 := wW_set (ad := ad) (cA := cA) (M := M) hx1 (fun y => if y = x1 then va_cpy (M x0) (M x1) sp.toNatClampNeg dp.toNatClampNeg n.toNatClampNeg else M y) (fun y hy => if_neg hy)
      simp only [if_pos] at h9
      exact h9
    rw [e9] at h1 h2
    exact kk _ H1 locs1 ⟨h1, h2, h3⟩ hf
theorem b_icmp_eq (F : Fx D cA own cc nL ret p s m args meth c) {x y : Int32} {off : Int} {tgt : Nat} (hd : decode cc pc = .ok (.if_icmp .eq off, 3)) (ht : (pc : Int) + off = (tgt : Int)) {α : Type} {X Y res : α} [d9 : Decidable (x = y)] (hf : (if x = y then X else Y) = res)
    (kt : x = y → X = res → W p l e R s m args below meth c H locs 0 0 Q (F0 m tgt ls rest)) (kf : ¬ x = y → Y = res → W p l e R s m args below meth c H locs 0 0 Q (F0 m (pc + 3) ls rest)) : W p l e R s m args below meth c H locs 0 0 Q (F0 m pc ls (.int y :: .int x :: rest)) :=
  lv_icmp_eq F.1 F.2.1 hd ht (fun h => kt h (by rw [if_pos h] at hf; exact hf)) (fun h => kf h (by rw [if_neg h] at hf; exact hf))
theorem b_icmp_ne (F : Fx D cA own cc nL ret p s m args meth c) {x y : Int32} {off : Int} {tgt : Nat} (hd : decode cc pc = .ok (.if_icmp .ne off, 3)) (ht : (pc : Int) + off = (tgt : Int)) {α : Type} {X Y res : α} [d9 : Decidable (x = y)] (hf : (if x = y then X else Y) = res)
    (kf : x = y → X = res → W p l e R s m args below meth c H locs 0 0 Q (F0 m (pc + 3) ls rest)) (kt : ¬ x = y → Y = res → W p l e R s m args below meth c H locs 0 0 Q (F0 m tgt ls rest)) : W p l e R s m args below meth c H locs 0 0 Q (F0 m pc ls (.int y :: .int x :: rest)) :=
  lv_icmp_ne F.1 F.2.1 hd ht (fun h => kt h (by rw [if_neg h] at hf; exact hf)) (fun h => kf h (by rw [if_pos h] at hf; exact hf))
theorem b_icmp_lt (F : Fx D cA own cc nL ret p s m args meth c) {x y : Int32} {off : Int} {tgt : Nat} (hd : decode cc pc = .ok (.if_icmp .lt off, 3)) (ht : (pc : Int) + off = (tgt : Int)) {α : Type} {X Y res : α} [d9 : Decidable (x < y)] (hf : (if x < y then X else Y) = res)
    (kt : x < y → X = res → W p l e R s m args below meth c H locs 0 0 Q (F0 m tgt ls rest)) (kf : ¬ x < y → Y = res → W p l e R s m args below meth c H locs 0 0 Q (F0 m (pc + 3) ls rest)) : W p l e R s m args below meth c H locs 0 0 Q (F0 m pc ls (.int y :: .int x :: rest)) :=
  lv_icmp_lt F.1 F.2.1 hd ht (fun h => kt h (by rw [if_pos h] at hf; exact hf)) (fun h => kf h (by rw [if_neg h] at hf; exact hf))
theorem b_icmp_ge (F : Fx D cA own cc nL ret p s m args meth c) {x y : Int32} {off : Int} {tgt : Nat} (hd : decode cc pc = .ok (.if_icmp .ge off, 3)) (ht : (pc : Int) + off = (tgt : Int)) {α : Type} {X Y res : α} [d9 : Decidable (y ≤ x)] (hf : (if y ≤ x then X else Y) = res)
    (kt : y ≤ x → X = res → W p l e R s m args below meth c H locs 0 0 Q (F0 m tgt ls rest)) (kf : ¬ y ≤ x → Y = res → W p l e R s m args below meth c H locs 0 0 Q (F0 m (pc + 3) ls rest)) : W p l e R s m args below meth c H locs 0 0 Q (F0 m pc ls (.int y :: .int x :: rest)) :=
  lv_icmp_ge F.1 F.2.1 hd ht (fun h => kt h (by rw [if_pos h] at hf; exact hf)) (fun h => kf h (by rw [if_neg h] at hf; exact hf))
theorem b_icmp_gt (F : Fx D cA own cc nL ret p s m args meth c) {x y : Int32} {off : Int} {tgt : Nat} (hd : decode cc pc = .ok (.if_icmp .gt off, 3)) (ht : (pc : Int) + off = (tgt : Int)) {α : Type} {X Y res : α} [d9 : Decidable (y < x)] (hf : (if y < x then X else Y) = res)
    (kt : y < x → X = res → W p l e R s m args below meth c H locs 0 0 Q (F0 m tgt ls rest)) (kf : ¬ y < x → Y = res → W p l e R s m args below meth c H locs 0 0 Q (F0 m (pc + 3) ls rest)) : W p l e R s m args below meth c H locs 0 0 Q (F0 m pc ls (.int y :: .int x :: rest)) :=
  lv_icmp_gt F.1 F.2.1 hd ht (fun h => kt h (by rw [if_pos h] at hf; exact hf)) (fun h => kf h (by rw [if_neg h] at hf; exact hf))
theorem b_icmp_le (F : Fx D cA own cc nL ret p s m args meth c) {x y : Int32} {off : Int} {tgt : Nat} (hd : decode cc pc = .ok (.if_icmp .le off, 3)) (ht : (pc : Int) + off = (tgt : Int)) {α : Type} {X Y res : α} [d9 : Decidable (x ≤ y)] (hf : (if x ≤ y then X else Y) = res)
    (kt : x ≤ y → X = res → W p l e R s m args below meth c H locs 0 0 Q (F0 m tgt ls rest)) (kf : ¬ x ≤ y → Y = res → W p l e R s m args below meth c H locs 0 0 Q (F0 m (pc + 3) ls rest)) : W p l e R s m args below meth c H locs 0 0 Q (F0 m pc ls (.int y :: .int x :: rest)) :=
  lv_icmp_le F.1 F.2.1 hd ht (fun h => kt h (by rw [if_pos h] at hf; exact hf)) (fun h => kf h (by rw [if_neg h] at hf; exact hf))
theorem b_if_eq (F : Fx D cA own cc nL ret p s m args meth c) {x : Int32} {off : Int} {tgt : Nat} (hd : decode cc pc = .ok (.ifCond .eq off, 3)) (ht : (pc : Int) + off = (tgt : Int)) {α : Type} {X Y res : α} [d9 : Decidable (x = 0)] (hf : (if x = 0 then X else Y) = res)
    (kt : x = 0 → X = res → W p l e R s m args below meth c H locs 0 0 Q (F0 m tgt ls rest)) (kf : ¬ x = 0 → Y = res → W p l e R s m args below meth c H locs 0 0 Q (F0 m (pc + 3) ls rest)) : W p l e R s m args below meth c H locs 0 0 Q (F0 m pc ls (.int x :: rest)) :=
  lv_if_eq F.1 F.2.1 hd ht (fun h => kt h (by rw [if_pos h] at hf; exact hf)) (fun h => kf h (by rw [if_neg h] at hf; exact hf))
theorem b_if_ne (F : Fx D cA own cc nL ret p s m args meth c) {x : Int32} {off : Int} {tgt : Nat} (hd : decode cc pc = .ok (.ifCond .ne off, 3)) (ht : (pc : Int) + off = (tgt : Int)) {α : Type} {X Y res : α} [d9 : Decidable (x = 0)] (hf : (if x = 0 then X else Y) = res)
    (kf : x = 0 → X = res → W p l e R s m args below meth c H locs 0 0 Q (F0 m (pc + 3) ls rest)) (kt : ¬ x = 0 → Y = res → W p l e R s m args below meth c H locs 0 0 Q (F0 m tgt ls rest)) : W p l e R s m args below meth c H locs 0 0 Q (F0 m pc ls (.int x :: rest)) :=
  lv_if_ne F.1 F.2.1 hd ht (fun h => kt h (by rw [if_neg h] at hf; exact hf)) (fun h => kf h (by rw [if_pos h] at hf; exact hf))
theorem b_if_lt (F : Fx D cA own cc nL ret p s m args meth c) {x : Int32} {off : Int} {tgt : Nat} (hd : decode cc pc = .ok (.ifCond .lt off, 3)) (ht : (pc : Int) + off = (tgt : Int)) {α : Type} {X Y res : α} [d9 : Decidable (x < 0)] (hf : (if x < 0 then X else Y) = res)
    (kt : x < 0 → X = res → W p l e R s m args below meth c H locs 0 0 Q (F0 m tgt ls rest)) (kf : ¬ x < 0 → Y = res → W p l e R s m args below meth c H locs 0 0 Q (F0 m (pc + 3) ls rest)) : W p l e R s m args below meth c H locs 0 0 Q (F0 m pc ls (.int x :: rest)) :=
  lv_if_lt F.1 F.2.1 hd ht (fun h => kt h (by rw [if_pos h] at hf; exact hf)) (fun h => kf h (by rw [if_neg h] at hf; exact hf))
theorem b_if_ge (F : Fx D cA own cc nL ret p s m args meth c) {x : Int32} {off : Int} {tgt : Nat} (hd : decode cc pc = .ok (.ifCond .ge off, 3)) (ht : (pc : Int) + off = (tgt : Int)) {α : Type} {X Y res : α} [d9 : Decidable (0 ≤ x)] (hf : (if 0 ≤ x then X else Y) = res)
    (kt : 0 ≤ x → X = res → W p l e R s m args below meth c H locs 0 0 Q (F0 m tgt ls rest)) (kf : ¬ 0 ≤ x → Y = res → W p l e R s m args below meth c H locs 0 0 Q (F0 m (pc + 3) ls rest)) : W p l e R s m args below meth c H locs 0 0 Q (F0 m pc ls (.int x :: rest)) :=
  lv_if_ge F.1 F.2.1 hd ht (fun h => kt h (by rw [if_pos h] at hf; exact hf)) (fun h => kf h (by rw [if_neg h] at hf; exact hf))
theorem b_if_gt (F : Fx D cA own cc nL ret p s m args meth c) {x : Int32} {off : Int} {tgt : Nat} (hd : decode cc pc = .ok (.ifCond .gt off, 3)) (ht : (pc : Int) + off = (tgt : Int)) {α : Type} {X Y res : α} [d9 : Decidable (0 < x)] (hf : (if 0 < x then X else Y) = res)
    (kt : 0 < x → X = res → W p l e R s m args below meth c H locs 0 0 Q (F0 m tgt ls rest)) (kf : ¬ 0 < x → Y = res → W p l e R s m args below meth c H locs 0 0 Q (F0 m (pc + 3) ls rest)) : W p l e R s m args below meth c H locs 0 0 Q (F0 m pc ls (.int x :: rest)) :=
  lv_if_gt F.1 F.2.1 hd ht (fun h => kt h (by rw [if_pos h] at hf; exact hf)) (fun h => kf h (by rw [if_neg h] at hf; exact hf))
theorem b_if_le (F : Fx D cA own cc nL ret p s m args meth c) {x : Int32} {off : Int} {tgt : Nat} (hd : decode cc pc = .ok (.ifCond .le off, 3)) (ht : (pc : Int) + off = (tgt : Int)) {α : Type} {X Y res : α} [d9 : Decidable (x ≤ 0)] (hf : (if x ≤ 0 then X else Y) = res)
    (kt : x ≤ 0 → X = res → W p l e R s m args below meth c H locs 0 0 Q (F0 m tgt ls rest)) (kf : ¬ x ≤ 0 → Y = res → W p l e R s m args below meth c H locs 0 0 Q (F0 m (pc + 3) ls rest)) : W p l e R s m args below meth c H locs 0 0 Q (F0 m pc ls (.int x :: rest)) :=
  lv_if_le F.1 F.2.1 hd ht (fun h => kt h (by rw [if_pos h] at hf; exact hf)) (fun h => kf h (by rw [if_neg h] at hf; exact hf))
end RY
