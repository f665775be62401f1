/-! Calls over bs_J: the callee's own judgement, from its entry; it returns, or throws. -/
/-- a callee's end, by what it returns -/
def bs_kI (Φ : bs_R → bs_H → Prop) (k : Int32 → bs_H → Prop) (r : bs_R) (h : bs_H) : Prop := match r with
  | .ok (some (.int v)) => k v h
  | .error X => Φ (.error X) h
  | _ => False
def bs_kL (Φ : bs_R → bs_H → Prop) (k : Int64 → bs_H → Prop) (r : bs_R) (h : bs_H) : Prop := match r with
  | .ok (some (.long v)) => k v h
  | .error X => Φ (.error X) h
  | _ => False
def bs_kV (Φ : bs_R → bs_H → Prop) (k : bs_H → Prop) (r : bs_R) (h : bs_H) : Prop := match r with
  | .ok none => k h
  | .error X => Φ (.error X) h
  | _ => False
/-- a method's name: of a plain class, with so many parameters -/
def bs_nm (y : MethodName) (n : Nat) : Bool := plainName y.cls && !(y.cls == "java/lang/invoke/MethodHandle") && !(y.cls == "java/lang/invoke/VarHandle") && ((parseMethodDescriptor y.desc).map (fun d => d.parameters.length) == some n)
theorem bs_nm_1 {y : MethodName} {n : Nat} (h : bs_nm y n = true) : plainName y.cls = true := by
  simp only [bs_nm, Bool.and_eq_true] at h
  exact h.1.1.1
theorem bs_nm_2 {y : MethodName} {n : Nat} (h : bs_nm y n = true) : y.cls ≠ "java/lang/invoke/MethodHandle" ∧ y.cls ≠ "java/lang/invoke/VarHandle" := by
  simp only [bs_nm, Bool.and_eq_true, Bool.not_eq_true', beq_eq_false_iff_ne] at h
  exact ⟨h.1.1.2, h.1.2⟩
theorem bs_nm_3 {y : MethodName} {n : Nat} (h : bs_nm y n = true) {sig : MethodDescriptor} (hs : parseMethodDescriptor y.desc = some sig) : n = sig.parameters.length := by
  simp only [bs_nm, Bool.and_eq_true] at h
  have h2 := h.2
  rw [hs] at h2
  simp at h2
  exact h2.symm
section BC
variable {l : Launch} {K : bs_K} {R : Room} {Φ : bs_R → bs_H → Prop} {pc : Nat} {lo : List (Nat × Value)} {st : List Value} {h : bs_H}
/-- a method's record, as its words have it -/
def bs_Me (s : State) (y : MethodName) (K' : bs_K) (mk : MethodId) (methk : Method) (ck : Code) : Prop :=
  s.methodNamed? y = some mk ∧ s.vm.method? mk = some methk ∧ methk.code = some ck ∧ ck.code = K'.2.1 ∧ ck.maxLocals = K'.2.2.1 ∧ methk.sig.returnType = K'.2.2.2.1 ∧ methk.locks = false ∧
  ck.exceptionTable.toList.map (fun x => (x.startPc, x.endPc, x.handlerPc, x.catchType)) = K'.2.2.2.2.1 ∧ y.cls = K'.1 ∧ y.name = K'.2.2.2.2.2 ∧ parseMethodDescriptor y.desc = some methk.sig
theorem bs_Me.ofCode {args : Array Value} {s : State} {y : MethodName} {K' : bs_K} (hc : (Cond.code y K'.2.1 K'.2.2.1 K'.2.2.2.1).before args s = true) (h1 : K'.1 = y.cls) (h2 : K'.2.2.2.2 = ([], y.name)) : ∃ (mk : MethodId) (methk : Method) (ck : Code), bs_Me s y K' mk methk ck := by
  obtain ⟨mk, hn⟩ := Cond.code_named hc
  obtain ⟨methk, ck, q1, q2, q3, q4, q5, q6, q7, q8⟩ := Cond.code_spec hn hc
  refine ⟨mk, methk, ck, hn, q1, q2, q3, q4, q5, q6, ?_, h1.symm, by rw [h2], q8⟩
  have h0 : ck.exceptionTable.size = 0 := by simpa [Array.isEmpty] using q7
  have h3 : ck.exceptionTable.toList = [] := List.eq_nil_of_length_eq_zero (by simpa using h0)
  rw [h3, h2]
  rfl
theorem bs_Me.ofWith {args : Array Value} {s : State} {y : MethodName} {K' : bs_K} (hc : (Cond.codeWith y K'.2.1 K'.2.2.1 K'.2.2.2.1 K'.2.2.2.2.1).before args s = true) (h1 : K'.1 = y.cls) (h2 : K'.2.2.2.2.2 = y.name) : ∃ (mk : MethodId) (methk : Method) (ck : Code), bs_Me s y K' mk methk ck := by
  obtain ⟨mk, methk, ck, q0, q1, q2, q3, q4, q5, q6, q7, q8⟩ := Cond.codeWith_spec hc
  exact ⟨mk, methk, ck, q0, q1, q2, q3, q4, q6, q7, q5, h1.symm, h2.symm, q8⟩
/-- the callee's own walk, and what it leaves -/
theorem bs_core {D : bs_D} {p : Program} {e : Env} {s : State} {m : MethodId} {args : Array Value} {below : List Frame} {meth : Method} {c : Code} {F : Addr → Prop} {H : Heap} {locs : List Loc} {cells slots : Nat} {T : State} {Ψ : bs_R → bs_H → Prop}
    (X : Stand p l e R s m args below meth c T locs cells slots) (hX : bs_X l K D p s m args meth c) (hG : bs_G D F s h H locs) (hT : T.heap = H) (hc : cells + h.2.2.1 ≤ R.cells) (hs : slots + h.2.2.2.1 ≤ R.slots)
    {g : JFrame} (hg : g.method = m) (hsize : g.locals.size = c.maxLocals) (hmon : g.monitorRoom = 0) (hst : (g.stack.map fun v => v.category).sum ≤ 8) {ig : Instr} (hdg : decode c.code g.pc = .ok (ig, 3))
    {y : MethodName} {np : Nat} {mk : MethodId} {methk : Method} {ck : Code} {K' : bs_K} (hM : bs_Me s y K' mk methk ck) (hy : bs_nm y np = true) {d0 d1 : Nat} (hR : bs_rm d0 R) (hd : d1 < d0) (hmax : K'.2.2.1 ≤ 40)
    {argsL : List Value} (hfit : (lg_sl argsL).length ≤ K'.2.2.1) (hJ : ∀ R' : Room, bs_rm d1 R' → bs_J l K' R' Ψ 0 (lv_args 0 argsL) [] h) :
    ∃ (T' : State) (r : bs_R) (h' : bs_H) (L : List Loc) (k n : Nat), Stand p l e R s m args below meth c T' (locs ++ L) (cells + k) (slots + n) ∧ Ψ r h' ∧ bs_G D F s h' T'.heap (locs ++ L) ∧ cells + k + h'.2.2.1 ≤ R.cells ∧ slots + n + h'.2.2.2.1 ≤ R.slots ∧
      ((∃ v, r = .ok v ∧ ∀ target, Steps p.tables e below (T'.setTop { g with pc := g.pc + 3, stack := v.toList ++ g.stack }) target → ∀ acts, Steps p.tables e below (doInvoke e (T.setTop g) acts mk argsL.toArray).1 target) ∨
       ∃ (Xn : String) (a : Addr) (cell : Cell), r = .error Xn ∧ T'.heap[a]? = some cell ∧ s.vm.findClass Xn = some cell.cls ∧ cell.vm.isStatics = false ∧
        ∀ target, Steps p.tables e below ((T'.setTop g).pushFrame (.throwing a)) target → ∀ acts, Steps p.tables e below (doInvoke e (T.setTop g) acts mk argsL.toArray).1 target) := by
  obtain ⟨hn, hmk, hck, e1, e2, e3, e4, e5, e6, e7, e8⟩ := hM
  have hal := X.warmed.alike
  have hmkT : T.vm.method? mk = some methk := by rw [hal.method?]; exact hmk
  have hpk : T.plainMethod mk := X.warmed.plainAt (fun k hk => by
    obtain ⟨kY, hkY, hnY⟩ := className_of_methodNamed hn
    cases hkY.symm.trans hk
    rw [hnY]; exact bs_nm_1 hy)
  have r1 := hR.1
  have r2 := hR.2
  obtain ⟨Y, hin⟩ := X.into hg hsize hdg argsL.toArray (R' := { frames := R.frames - 1, cells := h.2.2.1, slots := h.2.2.2.1, locals := R.locals - (K'.2.2.1 + 19) }) hmkT hck e4 hpk (by show R.frames - 1 + 1 ≤ _; omega)
    (by rw [hmon, e2]; show 2 * 0 + _ + _ + (R.locals - (K'.2.2.1 + 19)) ≤ _; omega) hc hs
  have hheap2 : ((T.setTop g).pushFrame (.java (entryFrame mk argsL.toArray ck.maxLocals))).heap = H := hT
  generalize ((T.setTop g).pushFrame (.java (entryFrame mk argsL.toArray ck.maxLocals))) = T2 at Y hin hheap2
  have hXc : bs_X l K' D p (T.calling g mk argsL.toArray) mk argsL.toArray methk ck := by
    refine ⟨hX.1, e1, e2, ?_, bs_ws_at (U := T.calling g mk argsL.toArray) X.warmed hX.2.2.2.2.1, bs_K_at (U := T.calling g mk argsL.toArray) hal hX.2.2.2.2.2.1, e4, e3, e5, (name_of_methodNamed hn hmk).1.trans e7, hX.2.2.2.2.2.2.2.2.2.2.1, fun q hq => (hX.2.2.2.2.2.2.2.2.2.2.2 q hq).moved (U := T.calling g mk argsL.toArray) hal⟩
    show T.vm.findClass _ = _
    rw [hal.findClass, ← e6]
    exact findClass_of_methodNamed hn
  have hGc : bs_G D F (T.calling g mk argsL.toArray) h H [] := hG.fore (t := T.calling g mk argsL.toArray) hal hT
  obtain ⟨t, hst2, o, r, h', L, k, n, q1, q2, q3, q4, q5, q6, q7, q8, q9⟩ := hJ { frames := R.frames - 1, cells := h.2.2.1, slots := h.2.2.2.1, locals := R.locals - (K'.2.2.1 + 19) } ⟨by show _ ≤ R.frames - 1; omega, by show _ ≤ R.locals - _; omega⟩ D p e (T.calling g mk argsL.toArray) mk argsL.toArray (.java g :: below) methk ck F H [] 0 0 _ hXc hGc (Nat.le_of_eq (Nat.zero_add _)) (Nat.le_of_eq (Nat.zero_add _)) (lv_entry argsL hfit) T2 hheap2 Y
  have hto : ∀ acts, Steps p.tables e below (doInvoke e (T.setTop g) acts mk argsL.toArray).1 t := by
    intro acts
    rw [hin acts, e2, lg_entry_eq]
    exact bs_steps_up (mid := [.java g]) hst2
  cases r with
  | ok v =>
    cases q3
    obtain ⟨T', X', hW', hB', ht⟩ := X.outOf hg hdg q2 q6 q7
    have hh : T'.heap = t.heap := by
      rw [ht]
      simp
    refine ⟨T', .ok v, h', L, k, n, X', q4, ?_, ?_, ?_, Or.inl ⟨v, rfl, fun target hs2 acts => ?_⟩⟩
    · rw [hh]
      exact hG.back (t := T.calling g mk argsL.toArray) hal.symm hT q5
    · have : k + h'.2.2.1 ≤ h.2.2.1 := q8
      omega
    · have : n + h'.2.2.2.1 ≤ h.2.2.2.1 := q9
      omega
    · have h1 := hto acts
      rw [ht] at h1
      exact h1.trans hs2
  | error Xn =>
    obtain ⟨a, cell, q3, q31, q32, q33⟩ := q3
    cases q3
    obtain ⟨T', X', hW', hB', ht⟩ := X.outOfThrown hg q2 q6 q7
    have hh : T'.heap = t.heap := by
      rw [ht]
      exact (Stand.throwing_heap T' g a).symm
    refine ⟨T', .error Xn, h', L, k, n, X', q4, ?_, ?_, ?_, Or.inr ⟨Xn, a, cell, rfl, by rw [hh]; exact q31, ?_, q33, fun target hs2 acts => ?_⟩⟩
    · rw [hh]
      exact hG.back (t := T.calling g mk argsL.toArray) hal.symm hT q5
    · have : k + h'.2.2.1 ≤ h.2.2.1 := q8
      omega
    · have : n + h'.2.2.2.1 ≤ h.2.2.2.1 := q9
      omega
    · have h1 : T.vm.findClass Xn = some cell.cls := q32
      rw [hal.findClass] at h1
      exact h1
    · have h1 := hto acts
      rw [ht] at h1
      exact h1.trans hs2
/-- behind a call, in a method without handlers -/
theorem bs_after {D : bs_D} {p : Program} {e : Env} {s : State} {m : MethodId} {args : Array Value} {below : List Frame} {meth : Method} {c : Code} {F : Addr → Prop} {H : Heap} {locs : List Loc} {cells slots : Nat} {T : State} {Ψ : bs_R → bs_H → Prop} {ls : Array Slot}
    (X : Stand p l e R s m args below meth c T locs cells slots) (hX : bs_X l K D p s m args meth c) (hG : bs_G D F s h H locs) (hT : T.heap = H) (hc : cells + h.2.2.1 ≤ R.cells) (hs : slots + h.2.2.2.1 ≤ R.slots) (hl : lv_has ls K.2.2.1 lo) (hno : K.2.2.2.2.1 = [])
    (hst : (st.map fun v => v.category).sum ≤ 8) {ig : Instr} (hdg : decode c.code pc = .ok (ig, 3))
    {y : MethodName} {np : Nat} {mk : MethodId} {methk : Method} {ck : Code} {K' : bs_K} (hM : bs_Me s y K' mk methk ck) (hy : bs_nm y np = true) {d0 d1 : Nat} (hR : bs_rm d0 R) (hd : d1 < d0) (hmax : K'.2.2.1 ≤ 40)
    {argsL : List Value} (hfit : (lg_sl argsL).length ≤ K'.2.2.1) (hJ : ∀ R' : Room, bs_rm d1 R' → bs_J l K' R' Ψ 0 (lv_args 0 argsL) [] h)
    (hok : ∀ v h', Ψ (.ok v) h' → bs_J l K R Φ (pc + 3) lo (v.toList ++ st) h') (her : ∀ Xn h', Ψ (.error Xn) h' → Φ (.error Xn) h') :
    ∃ t, (∀ acts, Steps p.tables e below (doInvoke e (T.setTop (F0 m pc ls st)) acts mk argsL.toArray).1 t) ∧ bs_Q D F Φ below s R t := by
  obtain ⟨T', r, h', L, k, n, X', q1, q2, q3, q4, q5⟩ := bs_core X hX hG hT hc hs (g := F0 m pc ls st) rfl (hl.1.trans hX.2.2.1.symm) rfl hst hdg hM hy hR hd hmax hfit hJ
  rcases q5 with ⟨v, rfl, hgo⟩ | ⟨Xn, a, cell, rfl, k1, k2, k3, hgo⟩
  · obtain ⟨t, a1, b1⟩ := hok v h' q1 D p e s m args below meth c F T'.heap _ _ _ ls hX q2 q3 q4 hl T' rfl X'
    exact ⟨t, hgo t a1, b1⟩
  · have hout : ∀ x ∈ c.exceptionTable.toList, covers x (F0 m pc ls st).pc = false := by
      have h1 := hX.2.2.2.2.2.2.2.2.1
      rw [hno] at h1
      intro x hx
      rw [List.map_eq_nil_iff.mp h1] at hx
      cases hx
    obtain ⟨w1, w2, w3, w4, w5⟩ := X'.leaveThrown a (g := F0 m pc ls st) rfl rfl rfl hout hX.2.2.2.2.2.2.1
    exact ⟨_, hgo _ w1, .threw a, .error Xn, h', _, _, _, w2, w3, ⟨a, cell, rfl, k1, k2, k3⟩, her Xn h' q1, q2, w4, w5, q3, q4⟩
theorem bj_callS {y : MethodName} {index np d0 d1 : Nat} {K' : bs_K} {argsL S : List Value} {Ψ : bs_R → bs_H → Prop} (hS : argsL.reverse ++ st = S) (d : decode K.2.1 pc = .ok (.invokestatic index, 3)) (hw1 : Cond.methodLink K.1 index y ∈ bs_WS ∨ ∃ host, Cond.methodLinkNest K.1 index y host ∈ bs_WS) (hw2 : Cond.static y ∈ bs_WS) (hw3 : Cond.initialized y.cls ∈ bs_WS)
    (hM : ∀ (args : Array Value) (s : State), (∀ w ∈ bs_WS, w.before args s = true) → ∃ (mk : MethodId) (methk : Method) (ck : Code), bs_Me s y K' mk methk ck) (hy : bs_nm y np = true) (hR : bs_rm d0 R) (hd : d1 < d0) (hmax : K'.2.2.1 ≤ 40) (hno : K.2.2.2.2.1 = []) (hst : (st.map fun v => v.category).sum ≤ 8) (hnp : argsL.length = np) (hfit : (lg_sl argsL).length ≤ K'.2.2.1)
    (hJ : ∀ R' : Room, bs_rm d1 R' → bs_J l K' R' Ψ 0 (lv_args 0 argsL) [] h) (hok : ∀ v h', Ψ (.ok v) h' → bs_J l K R Φ (pc + 3) lo (v.toList ++ st) h') (her : ∀ Xn h', Ψ (.error Xn) h' → Φ (.error Xn) h') : bs_J l K R Φ pc lo S h := by
  subst hS
  intro D p e s m args below meth c F H locs cells slots ls hX hG hcs hss hl T hT X
  have hts := hX.2.2.2.2.1
  obtain ⟨mk, methk, ck, hMe⟩ := hM args s hts
  have hdg : decode c.code pc = .ok (.invokestatic index, 3) := by rw [hX.2.1]; exact d
  have hstat : methk.isStatic = true := Cond.static_spec hMe.1 hMe.2.1 (hts _ hw2)
  obtain ⟨kP, hkP, -⟩ := className_of_methodNamed hMe.1
  have hini : kP.init = .initialized := Cond.initialized_spec (findClass_of_methodNamed hMe.1) hkP (hts _ hw3)
  have hlen : argsL.length = methk.sig.parameters.length := hnp.trans (bs_nm_3 hy hMe.2.2.2.2.2.2.2.2.2.2)
  have key : ∃ vm', Stand p l e R s m args below meth c (T.setVm vm') locs cells slots ∧ ∀ target, (∀ acts, Steps p.tables e below (doInvoke e ((T.setVm vm').setTop { F0 m pc ls (argsL.reverse ++ st) with stack := st }) acts mk argsL.toArray).1 target) → Steps p.tables e below (T.setTop (F0 m pc ls (argsL.reverse ++ st))) target := by
    rcases hw1 with hw | ⟨host, hw⟩
    · exact X.invokestatic hX.1 hX.2.2.2.1 (hts _ hw) hMe.1 hMe.2.1 hstat hkP hini (bs_nm_2 hy) (g := F0 m pc ls (argsL.reverse ++ st)) rfl (argsL := argsL) (rest := st) hlen rfl hdg
    · exact X.invokestaticNest hX.1 hX.2.2.2.1 (hts _ hw) hMe.1 hMe.2.1 hstat hkP hini (bs_nm_2 hy) (g := F0 m pc ls (argsL.reverse ++ st)) rfl (argsL := argsL) (rest := st) hlen rfl hdg
  obtain ⟨vm', X', step⟩ := key
  obtain ⟨t, a1, b1⟩ := bs_after (T := T.setVm vm') (ls := ls) X' hX hG hT hcs hss hl hno hst hdg hMe hy hR hd hmax hfit hJ hok her
  exact ⟨t, step t a1, b1⟩
theorem bj_callV {y : MethodName} {index np d0 d1 a ci : Nat} {q : vw_C} {fs : List Value} {K' : bs_K} {argsL S : List Value} {Ψ : bs_R → bs_H → Prop} (hS : argsL.reverse ++ .ref a :: st = S) (d : decode K.2.1 pc = .ok (.invokevirtual index, 3)) (hw1 : Cond.methodLink K.1 index y ∈ bs_WS ∨ ∃ host, Cond.methodLinkNest K.1 index y host ∈ bs_WS) (hw2 : Cond.instanceMethod y ∈ bs_WS) (hc : bs_cl[ci]? = some q) (hw3 : Cond.selects q.1 y y ∈ bs_WS)
    (hM : ∀ (args : Array Value) (s : State), (∀ w ∈ bs_WS, w.before args s = true) → ∃ (mk : MethodId) (methk : Method) (ck : Code), bs_Me s y K' mk methk ck) (hy : bs_nm y np = true) (hR : bs_rm d0 R) (hd : d1 < d0) (hmax : K'.2.2.1 ≤ 40) (hno : K.2.2.2.2.1 = []) (hst : (st.map fun v => v.category).sum ≤ 8) (hnp : argsL.length = np) (hfit : (lg_sl (.ref a :: argsL)).length ≤ K'.2.2.1)
    (hx : h.1 a = some (bs_obj ci fs)) (hJ : ∀ R' : Room, bs_rm d1 R' → bs_J l K' R' Ψ 0 (lv_args 0 (.ref a :: argsL)) [] h) (hok : ∀ v h', Ψ (.ok v) h' → bs_J l K R Φ (pc + 3) lo (v.toList ++ st) h') (her : ∀ Xn h', Ψ (.error Xn) h' → Φ (.error Xn) h') : bs_J l K R Φ pc lo S h := by
  subst hS
  intro D p e s m args below meth c F H locs cells slots ls hX hG hcs hss hl T hT X
  have hts := hX.2.2.2.2.1
  obtain ⟨mk, methk, ck, hMe⟩ := hM args s hts
  have hdg : decode c.code pc = .ok (.invokevirtual index, 3) := by rw [hX.2.1]; exact d
  obtain ⟨mk', methM, hnamed, hmethM, hstM, habM⟩ := Cond.instanceMethod_spec (hts _ hw2)
  cases hMe.1.symm.trans hnamed
  cases hMe.2.1.symm.trans hmethM
  obtain ⟨cellB, hcell, hobj, hcls⟩ := va_recv hX.2.2.2.2.2.1 (hG.1.one hx) hc (q0 := 0) rfl
  obtain ⟨c2, r2, m2, q1, q2, q3, q4, kP, hkP, hkPi⟩ := Cond.selects_spec (hts _ hw3)
  cases hcls.symm.trans q1
  cases (State.methodFound?_of_named hnamed (bs_nm_2 hy)).symm.trans q2
  cases hnamed.symm.trans q3
  have hselP : selectMethod e.platform s.vm cellB.cls mk = .method mk := by rw [Launch.admits_selectMethod X.admits]; exact q4
  have hlen : argsL.length = methk.sig.parameters.length := hnp.trans (bs_nm_3 hy hMe.2.2.2.2.2.2.2.2.2.2)
  have key : ∃ vm', Stand p l e R s m args below meth c (T.setVm vm') locs cells slots ∧ ∀ target, (∀ acts, Steps p.tables e below (doInvoke e ((T.setVm vm').setTop { F0 m pc ls (argsL.reverse ++ .ref a :: st) with stack := st }) acts mk (.ref a :: argsL).toArray).1 target) → Steps p.tables e below (T.setTop (F0 m pc ls (argsL.reverse ++ .ref a :: st))) target := by
    rcases hw1 with hw | ⟨host, hw⟩
    · exact X.invokevirtual hX.1 hX.2.2.2.1 (hts _ hw) hnamed hmethM hstM hkP hkPi (bs_nm_2 hy) (a := a) (cell := cellB) (by rw [hT]; exact hcell) (fun z hz => by rw [hz] at hobj; cases hobj) hselP hmethM habM hkP hkPi (g := F0 m pc ls (argsL.reverse ++ .ref a :: st)) rfl (argsL := argsL) (rest := st) hlen rfl hdg
    · exact X.invokevirtualNest hX.1 hX.2.2.2.1 (hts _ hw) hnamed hmethM hstM hkP hkPi (bs_nm_2 hy) (a := a) (cell := cellB) (by rw [hT]; exact hcell) (fun z hz => by rw [hz] at hobj; cases hobj) hselP hmethM habM hkP hkPi (g := F0 m pc ls (argsL.reverse ++ .ref a :: st)) rfl (argsL := argsL) (rest := st) hlen rfl hdg
  obtain ⟨vm', X', step⟩ := key
  obtain ⟨t, a1, b1⟩ := bs_after (T := T.setVm vm') (ls := ls) X' hX hG hT hcs hss hl hno hst hdg hMe hy hR hd hmax hfit hJ hok her
  exact ⟨t, step t a1, b1⟩
theorem bj_callI {y : MethodName} {index np d0 d1 a : Nat} {K' : bs_K} {argsL S : List Value} {Ψ : bs_R → bs_H → Prop} (hS : argsL.reverse ++ .ref a :: st = S) (d : decode K.2.1 pc = .ok (.invokespecial index, 3)) (hw1 : Cond.methodLink K.1 index y ∈ bs_WS ∨ ∃ host, Cond.methodLinkNest K.1 index y host ∈ bs_WS) (hw2 : Cond.instanceMethod y ∈ bs_WS) (hyn : y.name = "<init>") (hw3 : Cond.code y K'.2.1 K'.2.2.1 none ∈ bs_WS) (hr : K'.2.2.2.1 = none) (hK1 : K'.1 = y.cls) (hK2 : K'.2.2.2.2 = ([], y.name))
    (hy : bs_nm y np = true) (hR : bs_rm d0 R) (hd : d1 < d0) (hmax : K'.2.2.1 ≤ 40) (hno : K.2.2.2.2.1 = []) (hst : (st.map fun v => v.category).sum ≤ 8) (hnp : argsL.length = np) (hfit : (lg_sl (.ref a :: argsL)).length ≤ K'.2.2.1)
    (hJ : ∀ R' : Room, bs_rm d1 R' → bs_J l K' R' Ψ 0 (lv_args 0 (.ref a :: argsL)) [] h) (hok : ∀ v h', Ψ (.ok v) h' → bs_J l K R Φ (pc + 3) lo (v.toList ++ st) h') (her : ∀ Xn h', Ψ (.error Xn) h' → Φ (.error Xn) h') : bs_J l K R Φ pc lo S h := by
  subst hS
  intro D p e s m args below meth c F H locs cells slots ls hX hG hcs hss hl T hT X
  have hts := hX.2.2.2.2.1
  have hcode := hts _ hw3
  obtain ⟨mk, methk, ck, hMe⟩ := bs_Me.ofCode (args := args) (s := s) (y := y) (K' := K') (by rw [hr]; exact hcode) hK1 hK2
  have hdg : decode c.code pc = .ok (.invokespecial index, 3) := by rw [hX.2.1]; exact d
  have hpl : e.platform.magicAccessors = ({} : Platform).magicAccessors := by rw [X.admits.platform]
  have hlen : ∀ sig, parseMethodDescriptor y.desc = some sig → argsL.length = sig.parameters.length := fun sig hs => hnp.trans (bs_nm_3 hy hs)
  have key : ∃ vm', s.WarmedH vm' ∧ ∀ target, (∀ acts, Steps p.tables e below (doInvoke e ((T.setVm vm').setTop { F0 m pc ls (argsL.reverse ++ .ref a :: st) with stack := st }) acts mk (.ref a :: argsL).toArray).1 target) → Steps p.tables e below (T.setTop (F0 m pc ls (argsL.reverse ++ .ref a :: st))) target := by
    rcases hw1 with hw | ⟨host, hw⟩
    · obtain ⟨mk', methM, cM, kP, vm₁, hnamed, -, -, -, -, -, -, -, hW₁, hstep₁⟩ := Steps.initColdArgs (e := e) X.here hX.1 X.warmed hpl hX.2.2.2.1 hyn (bs_nm_2 hy) (hts _ hw) (hts _ hw2) hcode (f := F0 m pc ls (argsL.reverse ++ .ref a :: st)) rfl hlen rfl hdg
      cases hMe.1.symm.trans hnamed
      exact ⟨vm₁, hW₁, hstep₁⟩
    · obtain ⟨mk', methM, cM, kP, vm₁, hnamed, -, -, -, -, -, -, -, hW₁, hstep₁⟩ := Steps.initColdArgsNest (e := e) X.here hX.1 X.warmed hpl hX.2.2.2.1 hyn (bs_nm_2 hy) (hts _ hw) (hts _ hw2) hcode (f := F0 m pc ls (argsL.reverse ++ .ref a :: st)) rfl hlen rfl hdg
      cases hMe.1.symm.trans hnamed
      exact ⟨vm₁, hW₁, hstep₁⟩
  obtain ⟨vm', hW', step⟩ := key
  obtain ⟨t, a1, b1⟩ := bs_after (T := T.setVm vm') (ls := ls) (X.noted hW') hX hG hT hcs hss hl hno hst hdg hMe hy hR hd hmax hfit hJ hok her
  exact ⟨t, step t a1, b1⟩
/-- the three kinds of end, as the calls ask them -/
theorem bs_kI_ok {Ψ : bs_R → bs_H → Prop} {k : Int32 → bs_H → Prop} (hk : ∀ v h', k v h' → bs_J l K R Φ pc lo (.int v :: st) h') : ∀ v h', bs_kI Ψ k (.ok v) h' → bs_J l K R Φ pc lo (v.toList ++ st) h' := by
  intro v h' hv
  unfold bs_kI at hv
  split at hv
  · rename_i x e
    cases e
    exact hk x h' hv
  · rename_i e
    cases e
  · exact hv.elim
theorem bs_kL_ok {Ψ : bs_R → bs_H → Prop} {k : Int64 → bs_H → Prop} (hk : ∀ v h', k v h' → bs_J l K R Φ pc lo (.long v :: st) h') : ∀ v h', bs_kL Ψ k (.ok v) h' → bs_J l K R Φ pc lo (v.toList ++ st) h' := by
  intro v h' hv
  unfold bs_kL at hv
  split at hv
  · rename_i x e
    cases e
    exact hk x h' hv
  · rename_i e
    cases e
  · exact hv.elim
theorem bs_kV_ok {Ψ : bs_R → bs_H → Prop} {k : bs_H → Prop} (hk : ∀ h', k h' → bs_J l K R Φ pc lo st h') : ∀ v h', bs_kV Ψ k (.ok v) h' → bs_J l K R Φ pc lo (v.toList ++ st) h' := by
  intro v h' hv
  unfold bs_kV at hv
  split at hv
  · rename_i e
    cases e
    exact hk h' hv
  · rename_i e
    cases e
  · exact hv.elim
end BC
