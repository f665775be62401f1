/-! 'throw new X()' over bs_J, and the copy of an int array: both told from where the walk stands. -/
def bs_ref1 : Cond := .isRef (.static "java/lang/Throwable" "UNASSIGNED_STACK" "[Ljava/lang/StackTraceElement;")
def bs_ref2 : Cond := .isRef (.static "java/lang/Throwable" "SUPPRESSED_SENTINEL" "Ljava/util/List;")
def bs_ls1 : Cond := .laysStatic "java/lang/Throwable" "UNASSIGNED_STACK" "[Ljava/lang/StackTraceElement;"
def bs_ls2 : Cond := .laysStatic "java/lang/Throwable" "SUPPRESSED_SENTINEL" "Ljava/util/List;"
theorem bs_ref_of {C n d : String} {F : Addr → Prop} {s : State} {args : Array Value} (h : va_Zq C n d F s s.heap) : (Cond.isRef (.static C n d)).before args s = true := by
  rcases h with h | ⟨t, h⟩
  · obtain ⟨cf, kf, fi, f, a, cell, h1, h2, h3, h4, h5, h6, h7, -⟩ := h
    simp [Cond.before, Cond.holds, Cond.value, Term.eval, State.fieldNamed?, h1, h2, h4, h5, h6, h7]
  · obtain ⟨cf, kf, fi, f, a, cell, h1, h2, h3, h4, h5, h6, h7, -⟩ := h
    simp [Cond.before, Cond.holds, Cond.value, Term.eval, State.fieldNamed?, h1, h2, h4, h5, h6, h7]
abbrev bs_four : List Cond := [bs_ref1, bs_ref2, bs_ls1, bs_ls2]
/-- the words of a throw, by their places: each of the four others, or of the tables -/
theorem bs_pick {l : List Cond} (ks : List Nat) (h : l = ks.filterMap (fun i => (bs_four ++ lw_tbl)[i]?)) (hk : ks.all (fun i => decide (i < 4) || ((lw_tbl[i - 4]?).any bs_okw)) = true) : ∀ w ∈ l, w ∈ bs_four ++ bs_WS := by
  intro w hw
  rw [h] at hw
  obtain ⟨i, hi, hiw⟩ := List.mem_filterMap.mp hw
  have h1 := List.all_eq_true.mp hk i hi
  by_cases h4 : i < 4
  · rw [List.getElem?_append_left h4] at hiw
    exact List.mem_append.mpr (Or.inl (List.mem_of_getElem? hiw))
  · rw [List.getElem?_append_right (by show 4 ≤ i; omega)] at hiw
    have h5 : lw_tbl[i - 4]? = some w := hiw
    simp only [h4, decide_false, Bool.false_or, h5, Option.any_some] at h1
    exact List.mem_append.mpr (Or.inr (bs_at _ h5 h1))
theorem bs_old {s : State} {t : State} {k n : Nat} (h : s.sameButNew t [] k n) : ∀ q : Nat, q < s.heap.size → t.heap[q]? = s.heap[q]? := by
  intro q hq
  obtain ⟨-, -, -, -, -, h6⟩ := h
  have hc : s.heap[q]? = some s.heap[q] := Array.getElem?_eq_getElem hq
  obtain ⟨c', h1, h2, h3, h4⟩ := h6 q _ hc
  rw [h1, hc]
  have hsl : c'.slots = (s.heap[q]).slots := by
    apply Array.ext_getElem?
    intro i
    exact h4 i (by simp)
  rw [h2, hsl]
section BT
variable {l : Launch} {K : bs_K} {R : Room} {Φ : bs_R → bs_H → Prop} {pc : Nat} {lo : List (Nat × Value)} {st : List Value} {h : bs_H}
theorem bj_throw {cls : String} {names : List String} {i1 i2 d0 : Nat} (d1 : decode K.2.1 pc = .ok (.new i1, 3)) (d2 : decode K.2.1 (pc + 3) = .ok (.dup, 1)) (d3 : decode K.2.1 (pc + 4) = .ok (.invokespecial i2, 3)) (d4 : decode K.2.1 (pc + 7) = .ok (.athrow, 1))
    (hw1 : Cond.classLink K.1 i1 cls ∈ bs_WS) (hw2 : Cond.instantiable cls 6 ∈ bs_WS) (hw3 : Cond.initialized cls ∈ bs_WS) (hw4 : ∀ w ∈ Bundle.ownAtoms0 K.1 i2 cls names, w ∈ bs_four ++ bs_WS) (hcls : Bundle.fit cls = true) (hnames : ∀ n ∈ names, Bundle.fit n = true) (hlen : names.length ≤ 3)
    (hno : K.2.2.2.2.1 = []) (hR : bs_rm d0 R) (hst : (st.map fun v => v.category).sum ≤ 8) (h1 : 1 ≤ h.2.2.1) (h2 : 6 ≤ h.2.2.2.1) (k : Φ (.error cls) (bs_thrown h)) : bs_J l K R Φ pc lo st h := by
  intro D p e s m args below meth c F H locs cells slots ls hX hG hcs hss hl T hT X
  have r1 := hR.1
  have r2 := hR.2
  have hal := X.warmed.alike
  have Y0 := bs_rebase X (R2 := { frames := R.frames, cells := h.2.2.1, slots := h.2.2.2.1, locals := R.locals }) (Nat.le_refl _) (Nat.le_refl _) hcs hss
  have hG2 : bs_G D F (bs_re T m args below) h H [] := hG.fore (t := bs_re T m args below) hal hT
  have hts : ∀ w ∈ bs_WS, w.before args (bs_re T m args below) = true := bs_ws_at (U := bs_re T m args below) X.warmed hX.2.2.2.2.1
  have hown : (bs_re T m args below).vm.findClass K.1 = some m.cls := by
    show T.vm.findClass _ = _
    rw [hal.findClass]
    exact hX.2.2.2.1
  have hE := hG2.2.2.2.2.2.2.2.2
  have hat : ∀ w ∈ Bundle.ownAtoms0 K.1 i2 cls names, w.before args (bs_re T m args below) = true := by
    intro w hw
    rcases List.mem_append.mp (hw4 w hw) with hw' | hw'
    · simp only [List.mem_cons, List.not_mem_nil, or_false] at hw'
      rcases hw' with rfl | rfl | rfl | rfl
      · exact bs_ref_of hE.2.2.1
      · exact bs_ref_of hE.2.2.2.1
      · exact hE.2.2.2.2.1.use
      · exact hE.2.2.2.2.2.use
    · exact hts w hw'
  have hout : ∀ x ∈ c.exceptionTable.toList, covers x (pc + 4 + 3) = false := by
    have h3 := hX.2.2.2.2.2.2.2.2.1
    rw [hno] at h3
    intro x hx
    rw [List.map_eq_nil_iff.mp h3] at hx
    cases hx
  have htr : e.platform.stackTraces = false := by
    have h3 := congrArg Platform.stackTraces X.admits.platform
    exact h3.trans hX.2.2.2.2.2.2.2.2.2.2.1
  have key : W p l e { frames := R.frames, cells := h.2.2.1, slots := h.2.2.2.1, locals := R.locals } (bs_re T m args below) m args below meth c H [] 0 0 (bs_Q D F Φ below s R) (F0 m pc ls st) := by
    refine W.newc hX.1 hX.2.1 hown (hts _ hw1) (hts _ hw2) (hts _ hw3) rfl d1 (by show 0 + 1 ≤ h.2.2.1; omega) (by show 0 + 6 ≤ h.2.2.2.1; omega) fun cC kC f1 f2 f3 f4 => ?_
    refine lv_dup hX.1 hX.2.1 d2 rfl ?_
    intro U hU XU
    have hb := hX.2.1
    obtain ⟨V, v1, v2, v3, v4, v5, ce, v6, v7⟩ := XU.ctorThrow0 hX.1 htr (own := K.1) (cls := cls) (names := names) (ic := i2) hown hcls hnames hat (fun x hx => by cases hx) (a := H.size) (cX := cC) (kX := kC) f1 f2
      (by rw [hU, Array.getElem?_push, if_pos rfl]) (by show T.heap.size ≤ H.size; rw [hT]; exact Nat.le_refl _) (g := F0 m (pc + 4) ls (.ref H.size :: .ref H.size :: st)) rfl (hl.1.trans hX.2.2.1.symm) rfl rfl rfl
      (by rw [hb]; exact d3) (by rw [hb]; exact d4) hout (by show names.length + 3 < R.frames; omega) (by show 2 * 0 + (1 + (st.map fun v => v.category).sum) + _ ≤ R.locals; omega) hX.2.2.2.2.2.2.1
    refine ⟨V, v1, .threw H.size, .error cls, bs_thrown h, locs, cells + 1, slots + 6, v2, v3, ⟨H.size, ce, rfl, v6, ?_, by rw [v7.vm]; rfl⟩, k, ?_, State.WarmedH.trans X.warmed v4, ?_, ?_, ?_⟩
    · have h3 : T.vm.findClass cls = some ce.cls := v7.cls
      rw [hal.findClass] at h3
      exact h3
    · have hold := bs_old v5
      have hold' : ∀ q : Nat, q < H.size → V.heap[q]? = H[q]? := by
        intro q hq
        have h3 := hold q (by show q < T.heap.size; rw [hT]; exact hq)
        rw [show ({ V with vm := (bs_re T m args below).vm } : State).heap = V.heap from rfl, show (bs_re T m args below).heap = H from hT] at h3
        exact h3
      have hz1 : H.size ≤ V.heap.size := by
        have h3 := v5.2.1
        rw [show (bs_re T m args below).heap = H from hT] at h3
        exact h3
      have hz2 : V.heap.size ≤ H.size + 1 := by
        have h3 := v5.2.2.1
        rw [show (bs_re T m args below).heap = H from hT] at h3
        exact h3
      obtain ⟨g1, g2, g3, g4, g5, g6, g7, g8, g9⟩ := hG
      refine ⟨g1.kept (fun q y hy => hold' q (g1.lt hy)), (fun n hn => by cases hn), g3, g4, Nat.le_trans g5 hz1, g6, fun q q1 q2 => (hold' q (Nat.lt_of_lt_of_le q1 g5)).trans (g7 q q1 q2), fun q cell q1 q2 => ?_, g9⟩
      by_cases hq : q < H.size
      · rw [hold' q hq] at q2
        exact g8 q cell q1 q2
      · have hq2 : q < V.heap.size := (Array.getElem?_eq_some_iff.mp q2).1
        have hq3 : q = H.size := by omega
        subst hq3
        rw [v6] at q2
        cases q2
        rw [v7.vm]; rfl
    · have h3 : T.sameButNew (V.setVm T.vm) [] (0 + 1) (0 + 6) := by
        obtain ⟨w1, w2⟩ := v5
        refine ⟨?_, w2⟩
        unfold bs_re at w1
        rw [State.setFrames_setFrames] at w1
        exact w1
      have h4 := X.same.trans (h3.setVm s.vm)
      rw [List.append_nil] at h4
      exact h4
    · show cells + 1 + (h.2.2.1 - 1) ≤ _
      omega
    · show slots + 6 + (h.2.2.2.1 - 6) ≤ _
      omega
  exact key T hT Y0
/-- System.arraycopy of ints between two arrays -/
theorem bj_copy {index a0 a1 n0 n1 d0 : Nat} {f g : Nat → Int32} {sp dp n : Int32} (d : decode K.2.1 pc = .ok (.invokestatic index, 3)) (hw1 : Cond.methodLink K.1 index arraycopyName ∈ bs_WS) (hw2 : Cond.native arraycopyName ∈ bs_WS) (hw3 : Cond.static arraycopyName ∈ bs_WS) (hw4 : Cond.initialized "java/lang/System" ∈ bs_WS)
    (hx0 : h.1 a0 = some (bs_ia n0 f)) (hx1 : h.1 a1 = some (bs_ia n1 g)) (hne : a0 ≠ a1) (h1 : ¬ sp < 0) (h2 : ¬ dp < 0) (h3 : ¬ n < 0) (h4 : sp.toNatClampNeg + n.toNatClampNeg ≤ n0) (h5 : dp.toNatClampNeg + n.toNatClampNeg ≤ n1) (hR : bs_rm d0 R) (hst : (st.map fun v => v.category).sum ≤ 8)
    (kk : bs_J l K R Φ (pc + 3) lo st (bs_set h a1 (bs_ia n1 (va_cpy f g sp.toNatClampNeg dp.toNatClampNeg n.toNatClampNeg)))) : bs_J l K R Φ pc lo (.int n :: .int dp :: .ref a1 :: .int sp :: .ref a0 :: st) h := by
  intro D p e s m args below meth c F H locs cells slots ls hX hG hcs hss hl T hT X
  have r1 := hR.1
  have r2 := hR.2
  have hal := X.warmed.alike
  have Y0 := bs_rebase X (R2 := { frames := R.frames, cells := h.2.2.1, slots := h.2.2.2.1, locals := R.locals }) (Nat.le_refl _) (Nat.le_refl _) hcs hss
  have hts : ∀ w ∈ bs_WS, w.before args (bs_re T m args below) = true := bs_ws_at (U := bs_re T m args below) X.warmed hX.2.2.2.2.1
  have hown : (bs_re T m args below).vm.findClass K.1 = some m.cls := by
    show T.vm.findClass _ = _
    rw [hal.findClass]
    exact hX.2.2.2.1
  have hK := bs_K_at (U := bs_re T m args below) hal hX.2.2.2.2.2.1
  have hP : va_P D.1 bs_cl [(a0, bs_cell D (bs_ia n0 f)), (a1, bs_cell D (bs_ia n1 g))] H := (hG.1.one hx0).app (hG.1.one hx1)
  have hD : va_D (fun q => q = a0 ∨ q = a1) [(a0, bs_cell D (bs_ia n0 f)), (a1, bs_cell D (bs_ia n1 g))] := by
    refine ⟨fun i j x y hi hj hxy => ?_, fun k q hq => ?_⟩
    · rcases i with _ | _ | i <;> rcases j with _ | _ | j <;> simp at hi hj
      · rfl
      · rw [← hi, ← hj] at hxy; exact absurd hxy hne
      · rw [← hi, ← hj] at hxy; exact absurd hxy.symm hne
      · rfl
    · rcases k with _ | _ | k <;> simp at hq
      · rw [← hq]; exact Or.inl rfl
      · rw [← hq]; exact Or.inr rfl
  have hcell1 : H[a1]? = some (vp_cell D.2.1 (n1, .inl g)) := hG.1 a1 _ hx1
  have key : W p l e { frames := R.frames, cells := h.2.2.1, slots := h.2.2.2.1, locals := R.locals } (bs_re T m args below) m args below meth c H [] 0 0 (bs_Q D F Φ below s R) (F0 m pc ls (.int n :: .int dp :: .ref a1 :: .int sp :: .ref a0 :: st)) := by
    refine va_copyi hX.1 hX.2.1 (hX.2.2.1.trans hl.1.symm) hown (hts _ hw1) (hts _ hw2) (hts _ hw3) (hts _ hw4) hK hP hD (H0 := H) ⟨Nat.le_refl _, fun _ _ _ => rfl, fun q hq => by cases hq⟩ 0 1 0 0 rfl rfl rfl rfl rfl h1 h2 h3 h4 h5 (fun _ _ => rfl) (by show 1 ≤ R.frames; omega) (by show _ + (nativeFrameWords "java/lang/System" "arraycopy" 5 + 11) ≤ R.locals; have : nativeFrameWords "java/lang/System" "arraycopy" 5 ≤ 100 := (by decide); omega) d fun H1 locs1 hP1 hD1 hS1 => ?_
    intro U hU XU
    have XS := bs_unbase X XU
    have hoth : ∀ q : Nat, q ≠ a1 → H1[q]? = H[q]? := by
      intro q hq
      by_cases hq0 : q = a0
      · subst hq0
        have e1 : H1[q]? = some (vp_cell D.2.1 (n0, .inl f)) := hP1 0 _ rfl
        have e2 : H[q]? = some (vp_cell D.2.1 (n0, .inl f)) := hG.1 q _ hx0
        rw [e1, e2]
      · by_cases hlt : q < H.size
        · exact hS1.2.1 q hlt (fun z => z.elim hq0 hq)
        · have hz : U.heap.size ≤ T.heap.size + 0 := XU.heapSize
          rw [hU, hT] at hz
          rw [Array.getElem?_eq_none (by omega), Array.getElem?_eq_none (by omega)]
    have hsz : H1.size = H.size := by
      have hz : U.heap.size ≤ T.heap.size + 0 := XU.heapSize
      rw [hU, hT] at hz
      have := hS1.1
      omega
    have hnew : H1[a1]? = some (vp_cell D.2.1 (n1, .inl (va_cpy f g sp.toNatClampNeg dp.toNatClampNeg n.toNatClampNeg))) := hP1 1 _ rfl
    have hG1 : bs_G D F s (bs_set h a1 (bs_ia n1 (va_cpy f g sp.toNatClampNeg dp.toNatClampNeg n.toNatClampNeg))) H1 (locs ++ locs1) := by
      have hg := hG.put (j := 0) hx1 (x := bs_ia n1 (va_cpy f g sp.toNatClampNeg dp.toNatClampNeg n.toNatClampNeg)) hnew hsz hoth (fun cell hc2 => by rw [hnew] at hc2; cases hc2; rfl)
      refine ⟨hg.1, hg.2.1, hg.2.2.1, hg.2.2.2.1, hg.2.2.2.2.1, fun q hq => ?_, hg.2.2.2.2.2.2⟩
      rcases List.mem_append.mp hq with h6 | h6
      · exact hG.2.2.2.2.2.1 q h6
      · rcases hS1.2.2 q h6 with h7 | h7
        · rw [h7]; exact hG.2.2.1 a0 _ hx0
        · rw [h7]; exact hG.2.2.1 a1 _ hx1
    exact kk D p e s m args below meth c F H1 _ _ _ ls hX hG1 hcs hss hl U hU XS
  exact key T hT Y0
end BT
