/-! A handler of the method's own: the search resolves the classes that its table names, if they aren't yet. -/
theorem bs_go_cold {E : CtlPost} {e : Env} {d : Bool} {acts : List Action} {s : State} {f : JFrame} {a : Addr} {Q : Handler → Pre} {x : ExceptionTableEntry} {t : List ExceptionTableEntry} {c : ClassId} {vm' : Vm} {cell : Cell} (hx : covers x f.pc = true) (h0 : x.catchType ≠ 0)
    (hg : (Jvm.resolveClass f.method.cls x.catchType).Gives e.toSetting s.vm (.ok c) vm') (hsz : vm'.classes.size ≤ s.vm.classes.size) (hcell : s.heap[a]? = some cell) (hobj : ∀ k, cell.vm ≠ .statics k) (hk : ∃ k, vm'.classes[cell.cls]? = some k) (hc : ∃ k, vm'.classes[c]? = some k) :
    wp (findHandler.go f a (x :: t)) Q E e d acts s ↔ if vm'.assignable cell.cls c = true then Q (.found x.handlerPc) d acts (s.setVm vm') else wp (findHandler.go f a t) Q E e d acts (s.setVm vm') := by
  obtain ⟨ha, ht⟩ := hg.op (op := VmOp.resolveClass f.method.cls x.catchType) rfl
  simp only [covers] at hx
  cases hfit : vm'.assignable cell.cls c <;>
    simp [findHandler.go, hx, h0, ha, ht, hsz, hcell, hobj, hk, hc, hfit, VmOp.dirties, VmOp.acts]
theorem bs_step_catch {e : Env} {s s' : State} {a : Addr} {f : JFrame} {r : List Frame} {pc : Nat} (hfind : ∀ (Q : Handler → Pre) (E : CtlPost) (d : Bool) (acts : List Action), wp (findHandler f a) Q E e d acts s ↔ Q (.found pc) d acts s') :
    (stepThrowing e s a (.java f :: r)).Is (s'.setFrames (.java { f with pc := pc, stack := [.ref a] } :: r)) [] := by
  simp only [stepThrowing, searchFrame, vmDo]
  generalize hr : Sem.go _ e false [] s = res
  obtain ⟨as, rfl, ha⟩ := Sem.eq_ok_of hr (a := Handler.found pc) (s' := s') (acts' := []) (by simp [hfind _ _ _ _])
  exact ⟨rfl, ha⟩
/-- where a thrown X goes on: by the first row of the table, or by the second, if X is no kind of the first's class -/
def bs_Hand (K : bs_K) (pc : Nat) (X : String) (hpc : Nat) : Prop :=
  (∃ (s0 e0 c0 : Nat) (r : List (Nat × Nat × Nat × Nat)), K.2.2.2.2.1 = (s0, e0, hpc, c0) :: r ∧ (decide (s0 ≤ pc) && decide (pc < e0)) = true ∧ c0 ≠ 0 ∧ Cond.classLink K.1 c0 X ∈ bs_WS ∧ Cond.castable X X ∈ bs_WS) ∨
  ∃ (s0 e0 h0 c0 s1 e1 c1 : Nat) (r : List (Nat × Nat × Nat × Nat)) (C : String), K.2.2.2.2.1 = (s0, e0, h0, c0) :: (s1, e1, hpc, c1) :: r ∧ (decide (s0 ≤ pc) && decide (pc < e0)) = true ∧ c0 ≠ 0 ∧ (decide (s1 ≤ pc) && decide (pc < e1)) = true ∧ c1 ≠ 0 ∧ Cond.classLink K.1 c0 C ∈ bs_WS ∧ Cond.classLink K.1 c1 X ∈ bs_WS ∧ Cond.castable X X ∈ bs_WS ∧ (X, C) ∈ bs_nc
theorem bs_hand1 {K : bs_K} {pc hpc s0 e0 c0 : Nat} {r : List (Nat × Nat × Nat × Nat)} {X : String} (h1 : K.2.2.2.2.1 = (s0, e0, hpc, c0) :: r) (h2 : (decide (s0 ≤ pc) && decide (pc < e0)) = true) (h3 : c0 ≠ 0) (h4 : Cond.classLink K.1 c0 X ∈ bs_WS) (h5 : Cond.castable X X ∈ bs_WS) : bs_Hand K pc X hpc := Or.inl ⟨s0, e0, c0, r, h1, h2, h3, h4, h5⟩
theorem bs_hand2 {K : bs_K} {pc hpc s0 e0 h0 c0 s1 e1 c1 : Nat} {r : List (Nat × Nat × Nat × Nat)} {X C : String} (h1 : K.2.2.2.2.1 = (s0, e0, h0, c0) :: (s1, e1, hpc, c1) :: r) (h2 : (decide (s0 ≤ pc) && decide (pc < e0)) = true) (h3 : c0 ≠ 0) (h4 : (decide (s1 ≤ pc) && decide (pc < e1)) = true) (h5 : c1 ≠ 0) (h6 : Cond.classLink K.1 c0 C ∈ bs_WS) (h7 : Cond.classLink K.1 c1 X ∈ bs_WS) (h8 : Cond.castable X X ∈ bs_WS) (h9 : (X, C) ∈ bs_nc) : bs_Hand K pc X hpc := Or.inr ⟨s0, e0, h0, c0, s1, e1, c1, r, C, h1, h2, h3, h4, h5, h6, h7, h8, h9⟩
section BK
variable {l : Launch} {K : bs_K} {R : Room} {Φ : bs_R → bs_H → Prop} {pc : Nat} {lo : List (Nat × Value)} {st : List Value} {h : bs_H}
theorem bs_noted_size (vm : Vm) (d i : Nat) (r : Resolved) : (vm.noted d i r).classes.size ≤ vm.classes.size := by simp
theorem bs_caught {D : bs_D} {p : Program} {e : Env} {s : State} {m : MethodId} {args : Array Value} {below : List Frame} {meth : Method} {c : Code} {T : State} {locs : List Loc} {cells slots : Nat}
    (X : Stand p l e R s m args below meth c T locs cells slots) (hX : bs_X l K D p s m args meth c) {g : JFrame} (hg : g.method = m) (hgp : g.pc = pc) {Xn : String} {hpc : Nat} (hH : bs_Hand K pc Xn hpc) {a : Addr} {cell : Cell} (hcell : T.heap[a]? = some cell) (hcls : s.vm.findClass Xn = some cell.cls) (hns : cell.vm.isStatics = false) :
    ∃ vm' : Vm, s.WarmedH vm' ∧ ∀ target, Steps p.tables e below ((T.setVm vm').setTop { g with pc := hpc, stack := [.ref a] }) target → Steps p.tables e below ((T.setTop g).pushFrame (.throwing a)) target := by
  have hts := hX.2.2.2.2.1
  have hown := hX.2.2.2.1
  have hpl : e.platform.magicAccessors = ({} : Platform).magicAccessors := by rw [X.admits.platform]
  have hobj : ∀ k, cell.vm ≠ .statics k := fun k hk => by rw [hk] at hns; cases hns
  have hUv : ((T.setTop g).pushFrame (.throwing a)).vm = T.vm := Stand.throwing_vm T g a
  have hUh : ((T.setTop g).pushFrame (.throwing a)).heap = T.heap := Stand.throwing_heap T g a
  have key : ∃ vm' : Vm, s.WarmedH vm' ∧ ∀ (Q : Handler → Pre) (E : CtlPost) (d : Bool) (acts : List Action), wp (findHandler g a) Q E e d acts ((T.setTop g).pushFrame (.throwing a)) ↔ Q (.found hpc) d acts (((T.setTop g).pushFrame (.throwing a)).setVm vm') := by
    have hfe : ∀ (Q : Handler → Pre) (E : CtlPost) (d : Bool) (acts : List Action), wp (findHandler g a) Q E e d acts ((T.setTop g).pushFrame (.throwing a)) ↔ wp (findHandler.go g a c.exceptionTable.toList) Q E e d acts ((T.setTop g).pushFrame (.throwing a)) :=
      fun Q E d acts => W.findHandler_eq (meth := meth) (code := c) (by rw [hUv, hg]; exact X.method') X.code
    have htab := hX.2.2.2.2.2.2.2.2.1
    obtain ⟨kc0, hkc0⟩ := Vm.classAt_of_findClass hcls
    rcases hH with ⟨s0, e0, c0, r, w1, w2, w3, w4, w5⟩ | ⟨s0, e0, h0, c0, s1, e1, c1, r, C, w1, w2, w3, w4, w5, w6, w7, w8, w9⟩
    · rw [w1] at htab
      obtain ⟨x, t, hxt, hx1, -⟩ := List.map_eq_cons_iff.mp htab
      obtain ⟨cc, hfc, hcl⟩ := Cond.classLink_spec hown (hts _ w4) e.platform hpl
      cases hcls.symm.trans hfc
      obtain ⟨q1, q2, q3⟩ := State.classEntry (e := e) X.warmed hcl
      have hal2 := q2.alike
      obtain ⟨kc, hkc, -⟩ := hal2.2.2 _ _ hkc0
      obtain ⟨t1, t2, g1, g2, g3⟩ := Cond.castable_spec (hts _ w5)
      cases hcls.symm.trans g1
      cases hcls.symm.trans g2
      have has : (T.vm.noted m.cls c0 (.cls cell.cls)).assignable cell.cls cell.cls = true := by rw [hal2.assignable]; exact g3
      have hx2 := congrArg (·.1) hx1
      have hx3 := congrArg (·.2.1) hx1
      have hx4 := congrArg (·.2.2.1) hx1
      have hx5 := congrArg (·.2.2.2) hx1
      dsimp only at hx2 hx3 hx4 hx5
      refine ⟨_, q2, fun Q E d acts => ?_⟩
      rw [hfe, hxt, bs_go_cold (vm' := T.vm.noted m.cls c0 (.cls cell.cls)) (c := cell.cls) (cell := cell) (by simp only [covers, hx2, hx3, hgp]; exact w2) (by rw [hx5]; exact w3) (by rw [hg, hx5, hUv]; exact q1) (by rw [hUv]; exact bs_noted_size _ _ _ _) (by rw [hUh]; exact hcell) hobj ⟨_, hkc⟩ ⟨_, hkc⟩, if_pos has, hx4]
    · rw [w1] at htab
      obtain ⟨x, t, hxt, hx1, htab2⟩ := List.map_eq_cons_iff.mp htab
      obtain ⟨x', t', hxt', hx1', -⟩ := List.map_eq_cons_iff.mp htab2
      obtain ⟨cC, hfC, hclC⟩ := Cond.classLink_spec hown (hts _ w6) e.platform hpl
      obtain ⟨p1, p2, p3⟩ := State.classEntry (e := e) X.warmed hclC
      obtain ⟨cc, hfc, hcl⟩ := Cond.classLink_spec hown (hts _ w7) e.platform hpl
      cases hcls.symm.trans hfc
      obtain ⟨q1, q2, q3⟩ := State.classEntry (e := e) p2 hcl
      have hal1 := p2.alike
      have hal2 := q2.alike
      obtain ⟨kc, hkc, -⟩ := hal2.2.2 _ _ hkc0
      obtain ⟨kc1, hkc1, -⟩ := hal1.2.2 _ _ hkc0
      obtain ⟨kC0, hkC0⟩ := Vm.classAt_of_findClass hfC
      obtain ⟨kC, hkC, -⟩ := hal1.2.2 _ _ hkC0
      obtain ⟨t1, t2, g1, g2, g3⟩ := Cond.castable_spec (hts _ w8)
      cases hcls.symm.trans g1
      cases hcls.symm.trans g2
      obtain ⟨n1, n2, k1, k2, k3⟩ := hX.2.2.2.2.2.2.2.2.2.2.2 _ w9
      cases hcls.symm.trans k1
      cases hfC.symm.trans k2
      have has : ((T.vm.noted m.cls c0 (.cls cC)).noted m.cls c1 (.cls cell.cls)).assignable cell.cls cell.cls = true := by rw [hal2.assignable]; exact g3
      have hnas : ¬ (T.vm.noted m.cls c0 (.cls cC)).assignable cell.cls cC = true := by rw [hal1.assignable, k3]; decide
      have hx2 := congrArg (·.1) hx1
      have hx3 := congrArg (·.2.1) hx1
      have hx5 := congrArg (·.2.2.2) hx1
      have hx2' := congrArg (·.1) hx1'
      have hx3' := congrArg (·.2.1) hx1'
      have hx4' := congrArg (·.2.2.1) hx1'
      have hx5' := congrArg (·.2.2.2) hx1'
      dsimp only at hx2 hx3 hx5 hx2' hx3' hx4' hx5'
      refine ⟨_, q2, fun Q E d acts => ?_⟩
      rw [hfe, hxt, bs_go_cold (vm' := T.vm.noted m.cls c0 (.cls cC)) (c := cC) (cell := cell) (by simp only [covers, hx2, hx3, hgp]; exact w2) (by rw [hx5]; exact w3) (by rw [hg, hx5, hUv]; exact p1) (by rw [hUv]; exact bs_noted_size _ _ _ _) (by rw [hUh]; exact hcell) hobj ⟨_, hkc1⟩ ⟨_, hkC⟩, if_neg hnas,
        hxt', bs_go_cold (vm' := (T.vm.noted m.cls c0 (.cls cC)).noted m.cls c1 (.cls cell.cls)) (c := cell.cls) (cell := cell) (by simp only [covers, hx2', hx3', hgp]; exact w4) (by rw [hx5']; exact w5) (by rw [hg, hx5']; exact q1) (bs_noted_size _ _ _ _) (by show ((T.setTop g).pushFrame (.throwing a)).heap[a]? = _; rw [hUh]; exact hcell) hobj ⟨_, hkc⟩ ⟨_, hkc⟩, if_pos has, hx4']
      rfl
  obtain ⟨vm', hW, hfind⟩ := key
  refine ⟨vm', hW, fun target hrest => ?_⟩
  have hAt : At T g.method c below := by rw [hg]; exact X.here
  obtain ⟨hgo, hw⟩ := hAt.throwing a
  refine Steps.head hgo hw ?_
  rw [stepThread_throwing (frames_entered hAt.top _), (bs_step_catch hfind).1]
  obtain ⟨g₀, hr⟩ := X.frames_eq
  have hr' : (T.setVm vm').frames = .java g₀ :: below := hr
  rw [State.setTop_of_frames _ hr'] at hrest
  have e1 : (((T.setTop g).pushFrame (.throwing a)).setVm vm').setFrames (.java { g with pc := hpc, stack := [.ref a] } :: T.frames.tail) = (T.setVm vm').setFrames (.java { g with pc := hpc, stack := [.ref a] } :: below) := by
    rw [X.tail, State.pushFrame, State.setTop_of_frames _ hr, State.setFrames_setFrames]
    show ((T.setFrames _).setVm vm').setFrames _ = _
    show ((T.setVm vm').setFrames _).setFrames _ = _
    rw [State.setFrames_setFrames]
  rw [e1]
  exact hrest
theorem bs_afterC {D : bs_D} {p : Program} {e : Env} {s : State} {m : MethodId} {args : Array Value} {below : List Frame} {meth : Method} {c : Code} {F : Addr → Prop} {H : Heap} {locs : List Loc} {cells slots : Nat} {T : State} {Ψ : bs_R → bs_H → Prop} {ls : Array Slot}
    (X : Stand p l e R s m args below meth c T locs cells slots) (hX : bs_X l K D p s m args meth c) (hG : bs_G D F s h H locs) (hT : T.heap = H) (hc : cells + h.2.2.1 ≤ R.cells) (hs : slots + h.2.2.2.1 ≤ R.slots) (hl : lv_has ls K.2.2.1 lo)
    (hst : (st.map fun v => v.category).sum ≤ 8) {ig : Instr} (hdg : decode c.code pc = .ok (ig, 3))
    {y : MethodName} {np : Nat} {mk : MethodId} {methk : Method} {ck : Code} {K' : bs_K} (hM : bs_Me s y K' mk methk ck) (hy : bs_nm y np = true) {d0 d1 : Nat} (hR : bs_rm d0 R) (hd : d1 < d0) (hmax : K'.2.2.1 ≤ 40)
    {argsL : List Value} (hfit : (lg_sl argsL).length ≤ K'.2.2.1) (hJ : ∀ R' : Room, bs_rm d1 R' → bs_J l K' R' Ψ 0 (lv_args 0 argsL) [] h)
    (hok : ∀ v h', Ψ (.ok v) h' → bs_J l K R Φ (pc + 3) lo (v.toList ++ st) h') (her : ∀ Xn h', Ψ (.error Xn) h' → ∃ hpc : Nat, bs_Hand K pc Xn hpc ∧ ∀ a : Nat, bs_J l K R Φ hpc lo [.ref a] h') :
    ∃ t, (∀ acts, Steps p.tables e below (doInvoke e (T.setTop (F0 m pc ls st)) acts mk argsL.toArray).1 t) ∧ bs_Q D F Φ below s R t := by
  obtain ⟨T', r, h', L, k, n, X', q1, q2, q3, q4, q5⟩ := bs_core X hX hG hT hc hs (g := F0 m pc ls st) rfl (hl.1.trans hX.2.2.1.symm) rfl hst hdg hM hy hR hd hmax hfit hJ
  rcases q5 with ⟨v, rfl, hgo⟩ | ⟨Xn, a, cell, rfl, k1, k2, k3, hgo⟩
  · obtain ⟨t, a1, b1⟩ := hok v h' q1 D p e s m args below meth c F T'.heap _ _ _ ls hX q2 q3 q4 hl T' rfl X'
    exact ⟨t, hgo t a1, b1⟩
  · obtain ⟨hpc, hH, hJ2⟩ := her Xn h' q1
    obtain ⟨vm', hW, hgo2⟩ := bs_caught X' hX (g := F0 m pc ls st) rfl rfl hH k1 k2 k3
    obtain ⟨t, a1, b1⟩ := hJ2 a D p e s m args below meth c F T'.heap _ _ _ ls hX q2 q3 q4 hl (T'.setVm vm') rfl (X'.noted hW)
    exact ⟨t, hgo t (hgo2 t a1), b1⟩
theorem bj_callVC {y : MethodName} {index np d0 d1 a ci : Nat} {q : vw_C} {fs : List Value} {K' : bs_K} {argsL S : List Value} {Ψ : bs_R → bs_H → Prop} (hS : argsL.reverse ++ .ref a :: st = S) (d : decode K.2.1 pc = .ok (.invokevirtual index, 3)) (hw1 : Cond.methodLink K.1 index y ∈ bs_WS ∨ ∃ host, Cond.methodLinkNest K.1 index y host ∈ bs_WS) (hw2 : Cond.instanceMethod y ∈ bs_WS) (hc : bs_cl[ci]? = some q) (hw3 : Cond.selects q.1 y y ∈ bs_WS)
    (hM : ∀ (args : Array Value) (s : State), (∀ w ∈ bs_WS, w.before args s = true) → ∃ (mk : MethodId) (methk : Method) (ck : Code), bs_Me s y K' mk methk ck) (hy : bs_nm y np = true) (hR : bs_rm d0 R) (hd : d1 < d0) (hmax : K'.2.2.1 ≤ 40) (hst : (st.map fun v => v.category).sum ≤ 8) (hnp : argsL.length = np) (hfit : (lg_sl (.ref a :: argsL)).length ≤ K'.2.2.1)
    (hx : h.1 a = some (bs_obj ci fs)) (hJ : ∀ R' : Room, bs_rm d1 R' → bs_J l K' R' Ψ 0 (lv_args 0 (.ref a :: argsL)) [] h) (hok : ∀ v h', Ψ (.ok v) h' → bs_J l K R Φ (pc + 3) lo (v.toList ++ st) h') (her : ∀ Xn h', Ψ (.error Xn) h' → ∃ hpc : Nat, bs_Hand K pc Xn hpc ∧ ∀ a : Nat, bs_J l K R Φ hpc lo [.ref a] h') : bs_J l K R Φ pc lo S h := by
  subst hS
  intro D p e s m args below meth c F H locs cells slots ls hX hG hcs hss hl T hT X
  have hts := hX.2.2.2.2.1
  obtain ⟨mk, methk, ck, hMe⟩ := hM args s hts
  have hdg : decode c.code pc = .ok (.invokevirtual index, 3) := by rw [hX.2.1]; exact d
  obtain ⟨mk', methM, hnamed, hmethM, hstM, habM⟩ := Cond.instanceMethod_spec (hts _ hw2)
  cases hMe.1.symm.trans hnamed
  cases hMe.2.1.symm.trans hmethM
  obtain ⟨cellB, hcell, hobj, hcls⟩ := va_recv hX.2.2.2.2.2.1 (hG.1.one hx) hc (q0 := 0) rfl
  obtain ⟨c2, r2, m2, q1, q2, q3, q4, kP, hkP, hkPi⟩ := Cond.selects_spec (hts _ hw3)
  cases hcls.symm.trans q1
  cases (State.methodFound?_of_named hnamed (bs_nm_2 hy)).symm.trans q2
  cases hnamed.symm.trans q3
  have hselP : selectMethod e.platform s.vm cellB.cls mk = .method mk := by rw [Launch.admits_selectMethod X.admits]; exact q4
  have hlen : argsL.length = methk.sig.parameters.length := hnp.trans (bs_nm_3 hy hMe.2.2.2.2.2.2.2.2.2.2)
  have key : ∃ vm', Stand p l e R s m args below meth c (T.setVm vm') locs cells slots ∧ ∀ target, (∀ acts, Steps p.tables e below (doInvoke e ((T.setVm vm').setTop { F0 m pc ls (argsL.reverse ++ .ref a :: st) with stack := st }) acts mk (.ref a :: argsL).toArray).1 target) → Steps p.tables e below (T.setTop (F0 m pc ls (argsL.reverse ++ .ref a :: st))) target := by
    rcases hw1 with hw | ⟨host, hw⟩
    · exact X.invokevirtual hX.1 hX.2.2.2.1 (hts _ hw) hnamed hmethM hstM hkP hkPi (bs_nm_2 hy) (a := a) (cell := cellB) (by rw [hT]; exact hcell) (fun z hz => by rw [hz] at hobj; cases hobj) hselP hmethM habM hkP hkPi (g := F0 m pc ls (argsL.reverse ++ .ref a :: st)) rfl (argsL := argsL) (rest := st) hlen rfl hdg
    · exact X.invokevirtualNest hX.1 hX.2.2.2.1 (hts _ hw) hnamed hmethM hstM hkP hkPi (bs_nm_2 hy) (a := a) (cell := cellB) (by rw [hT]; exact hcell) (fun z hz => by rw [hz] at hobj; cases hobj) hselP hmethM habM hkP hkPi (g := F0 m pc ls (argsL.reverse ++ .ref a :: st)) rfl (argsL := argsL) (rest := st) hlen rfl hdg
  obtain ⟨vm', X', step⟩ := key
  obtain ⟨t, a1, b1⟩ := bs_afterC (T := T.setVm vm') (ls := ls) X' hX hG hT hcs hss hl hst hdg hMe hy hR hd hmax hfit hJ hok her
  exact ⟨t, step t a1, b1⟩
end BK
