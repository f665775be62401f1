/-! THE CLAIM OUT OF ONE WALK OF THE LAW'S BODY. Your part is whole_start (and what it stands on); all else here is the same for every law, but numbers. -/
def R_law : String := "BitShufflerLaw"
def lw_P (b : Addr) (xs : List Int32) (args : Array Value) (s : State) : Prop := args = #[.ref b] ∧ s.IntsAt b xs ∧ xs.length ≤ 2560 ∧ (Jvm.Cond.and given_1 narrow_1).before args s = true
def lw_Q (_ : Array Value) (s : State) (o : Outcome) (t : State) : Prop := o = .returned (some (.int 1)) ∧ Framed s o t [] 601024 7293034
def lw_Z (below : List Frame) (a : Array Value) (s : State) : State → Prop := fun t => ∃ o, t.status = .running ∧ Ended t below o ∧ lw_Q a s o t
/-- the law's own end, with 1 on the stack, nothing written that was there before, its room as the claim has it -/
theorem lw_ret {p : Program} {l : Launch} {e : Env} {s : State} {m : MethodId} {below : List Frame} {meth : Method} {c : Code} {b : Nat} (hx : p.tables.exec = Jvm.exec) (hb : c.code = code) (hr : meth.sig.returnType = ret) (hlocks : meth.locks = false) {pc : Nat} {H : Heap} {ls : Array Slot} (hdg : decode code pc = .ok (.ireturn, 1)) : W p l e room_1 s m #[Value.ref b] below meth c H [] 601024 7293034 (lw_Z below #[Value.ref b] s) (F0 m pc ls [.int 1]) := by
  intro T hT X
  obtain ⟨fs, hret, hrun, hended, hW, hframe⟩ := X.leave (v := some (.int 1)) (hlocks := hlocks) (fun h => by rw [hr] at h; cases h)
  have hmeth' : T.vm.method? m = some meth := X.method'
  refine ⟨T.setFrames fs, ?_, .returned (some (.int 1)), hrun, hended, rfl, ⟨_, rfl⟩, hW, hframe⟩
  jvm_step X.here [X.here.top, hx, hb, hdg, hmeth', hr, ret, narrow_b1]
  (try refine ⟨rfl, ?_⟩); (try refine ⟨rfl, ?_⟩)
  first | (intro acts; rw [hret _ acts rfl rfl rfl]) | rw [hret _ _ rfl rfl rfl]
  exact Steps.refl _
/-- what holds at the law's entry: the machine, the code, the tables' words (any of lw_tbl by 'hts w (by decide +kernel)'), the script of L ints xs at the cell b, what the Statement gives of the start (any of its parts by flat_of_before) -/
def lw_At (p : Program) (s : State) (m : MethodId) (meth : Method) (c : Code) (b L : Nat) (xs : Nat → Int32) : Prop :=
  p.tables.exec = Jvm.exec ∧ c.code = code ∧ meth.sig.returnType = ret ∧ c.maxLocals = 8 ∧ s.vm.findClass R_law = some m.cls ∧ (∀ w ∈ lw_tbl, w.before #[Value.ref b] s = true) ∧ va_X b L xs s s.heap ∧ b < s.heap.size ∧ meth.locks = false ∧ (Jvm.Cond.and given_1 narrow_1).before #[Value.ref b] s = true ∧ c.exceptionTable.isEmpty = true ∧ meth.name = "law"
theorem le_inst (ci : Nat) (q : vw_C) (h : bs_cl[ci]? = some q) : Cond.instantiable q.1 q.2.2 ∈ bs_WS := by
  rcases ci with _ | _ | _ | _ | _ | _ | _ | _ | ci
  · cases h; exact q_65
  · cases h; exact q_73
  · cases h; exact q_88
  · cases h; exact q_108
  · cases h; exact q_127
  · cases h; exact q_149
  · cases h; exact q_177
  · cases h; exact q_739
  · cases h
theorem le_known {s : State} {args : Array Value} (hts : ∀ w ∈ bs_WS, w.before args s = true) (ci : Nat) : ∃ (cC : ClassId) (iS : Nat → Nat), ∀ q, bs_cl[ci]? = some q → u_Kn s q.1 q.2.1 q.2.2 cC iS := by
  cases h : bs_cl[ci]? with
  | none => exact ⟨0, fun _ => 0, fun q hq => by cases hq⟩
  | some q =>
    have hin := (bs_ok ci q h).1
    have hi : Cond.instantiable q.1 q.2.2 ∈ bs_WS := le_inst ci q h
    obtain ⟨cC, iS, hk⟩ := u_known hts hin (hts _ hi)
    exact ⟨cC, iS, fun q' hq' => by cases hq'; exact hk⟩
theorem le_cells : room_1.cells = 601024 := rfl
theorem le_slots : room_1.slots = 7293034 := rfl
theorem le_rm : bs_rm 13 room_1 := by
  refine ⟨?_, ?_⟩
  · show 10 + 2 * 13 ≤ 2048; omega
  · show 200 + 100 * 13 ≤ 84000; omega
def le_tk (j : Nat) : Int32 := ([1, 1, 1, 1, 1, 6, 1, 3, 3] : List Int32).getD j 0
theorem whole_start {p : Program} {e : Env} {s : State} {m : MethodId} {below : List Frame} {meth : Method} {c : Code} (l : Launch) (hfl : l.flags = flags0) {b L : Nat} {xs : Nat → Int32} (hL : L ≤ 2560) (C0 : lw_At p s m meth c b L xs) : W p l e room_1 s m #[Value.ref b] below meth c s.heap [] 0 0 (lw_Z below #[Value.ref b] s) (entryFrame m ([Value.ref b] : List Value).toArray 8) := by
  obtain ⟨hx, hcode, hret, hml, hown, hts0, hX, hbl, hlk, hgv, hexc, hnm⟩ := C0
  have hts : ∀ w ∈ bs_WS, w.before #[Value.ref b] s = true := fun w hw => hts0 w (List.mem_filter.mp hw).1
  have hfl2 := flat_of_before _ hgv
  have hA : ∀ a : Nat, a < s.heap.size → ¬ (fun q : Nat => s.heap.size ≤ q) a := fun a h1 h2 => absurd h1 (Nat.not_lt.mpr h2)
  obtain ⟨cI, kI, oI, a1, a2, a3⟩ := Cond.arrayClass_spec (hts _ q_85)
  obtain ⟨cJ, kJ, oJ, b1, b2, b3⟩ := Cond.arrayClass_spec (hts _ q_106)
  obtain ⟨cZ, kZ, oZ, c1, c2, c3⟩ := Cond.arrayClass_spec (hts _ q_830)
  obtain ⟨oR, cR, kR, d1, d2, d3, d4, d5⟩ := Cond.arrayOver_spec (hts _ q_86)
  have hK : va_K ((fun ci => (le_known hts ci).choose, fun ci => (le_known hts ci).choose_spec.choose) : va_G) bs_cl [(cI, .int), (cJ, .long), (cZ, .boolean), (cR, .object "BitShuffler$BitMap")] s := by
    refine ⟨fun ci q hq => (le_known hts ci).choose_spec.choose_spec q hq, fun k q hk => ?_⟩
    rcases k with _ | _ | _ | _ | k
    · cases hk; exact ⟨fun n z => ⟨fun k h => (by cases h), kI, a2, oI, a3⟩, a1⟩
    · cases hk; exact ⟨fun n z => ⟨fun k h => (by cases h), kJ, b2, oJ, b3⟩, b1⟩
    · cases hk; exact ⟨fun n z => ⟨fun k h => (by cases h), kZ, c2, oZ, c3⟩, c1⟩
    · cases hk; exact ⟨fun n z => ⟨fun k h => (by cases h), kR, d3, oR, d4⟩, kR, oR, d3, d4, d1, d5⟩
    · cases hk
  have hls : (Cond.laysStatic "BitShuffler$Program" "TICKS_OF_OPS" "[I").before #[Value.ref b] s = true := hts0 _ (by decide +kernel)
  have hlsU : (Cond.laysStatic "java/lang/Throwable" "UNASSIGNED_STACK" "[Ljava/lang/StackTraceElement;").before #[Value.ref b] s = true := hts0 _ (by decide +kernel)
  have hlsS : (Cond.laysStatic "java/lang/Throwable" "SUPPRESSED_SENTINEL" "Ljava/util/List;").before #[Value.ref b] s = true := hts0 _ (by decide +kernel)
  have hiP : (Cond.initialized "BitShuffler$Program").before #[Value.ref b] s = true := hts0 _ (by decide +kernel)
  have hiT : (Cond.initialized "java/lang/Throwable").before #[Value.ref b] s = true := hts0 _ (by decide +kernel)
  obtain ⟨tk, htk, hT⟩ := va_Tof (args := #[Value.ref b]) (s := s) (tm := .static "BitShuffler$Program" "TICKS_OF_OPS" "[I") (ty := .int) (N := 9) (f := fun j => .int (le_tk j)) (A := fun q => s.heap.size ≤ q) (by decide) (hfl2 _ (by decide +kernel)) (va_eqt (hfl2 _ (by decide +kernel))) (fun j hj => by
    rcases j with _ | _ | _ | _ | _ | _ | _ | _ | _ | j
    · exact va_eqt (hfl2 _ (by decide +kernel))
    · exact va_eqt (hfl2 _ (by decide +kernel))
    · exact va_eqt (hfl2 _ (by decide +kernel))
    · exact va_eqt (hfl2 _ (by decide +kernel))
    · exact va_eqt (hfl2 _ (by decide +kernel))
    · exact va_eqt (hfl2 _ (by decide +kernel))
    · exact va_eqt (hfl2 _ (by decide +kernel))
    · exact va_eqt (hfl2 _ (by decide +kernel))
    · exact va_eqt (hfl2 _ (by decide +kernel))
    · omega) hA
  obtain ⟨scr, x1, x2, x3, x4, x5⟩ := hX
  have hTb : va_T .int b L (fun j => .int (xs j)) (fun q => s.heap.size ≤ q) s s.heap := ⟨scr, x1, x2, x3, Nat.le_of_eq x4.symm, by rw [x4], x5, hA b hbl⟩
  have hLS : ∀ (C n d : String), (Cond.laysStatic C n d).before #[Value.ref b] s = true → bs_LS C n d (fun q => s.heap.size ≤ q) s s.heap := by
    intro C n d hl
    obtain ⟨c', k, i, f, a, cell, e1, e2, e3, e4, e5, e6, e7, e8, e9⟩ := Cond.laysStatic_spec hl
    exact ⟨c', k, i, f, a, cell, e1, e2, e3, e4, e5, e6, e7, e8, e9, hA a (Array.getElem?_eq_some_iff.mp e5).1⟩
  have htkb : tk = b → L = 9 ∧ ∀ j, j < 9 → xs j = le_tk j := by
    intro hz
    subst hz
    obtain ⟨cell, y1, y2, y3, y4, y5, y6, y7⟩ := hT
    cases x1.symm.trans y1
    have hl9 : L = 9 := by
      have h1 : Int32.ofNat L = Int32.ofNat 9 := by rw [← y5, x4]
      exact (nI_eq (a := L) (b := 9) (by omega) (by decide)).mp h1
    refine ⟨hl9, fun j hj => ?_⟩
    have h1 := (x5 j (by omega)).symm.trans (y6 j hj)
    simpa using h1
  have hG : bs_G ((((fun ci => (le_known hts ci).choose, fun ci => (le_known hts ci).choose_spec.choose) : va_G), cI, cJ, cZ, cR) : bs_D) (fun q => s.heap.size ≤ q) s ((fun _ => none, (some s.heap.size, (601024, (7293034, (fun a => if a = b then some (L, xs) else if a = tk then some (9, le_tk) else none, tk))))) : bs_H) s.heap [] := by
    refine ⟨fun a x hx => (by cases hx), fun n hn => (by cases hn; rfl), fun a x hx => (by cases hx), fun a ha => ha, Nat.le_refl _, fun q hq => (by cases hq), fun _ _ _ => rfl, fun q cell h1 h2 => ?_, fun a n f ha => ?_, va_Zof hls hiP htk hA, va_Zqof hlsU hiT (hfl2 _ (by decide +kernel)) hA, va_Zqof hlsS hiT (hfl2 _ (by decide +kernel)) hA, hLS _ _ _ hlsU, hLS _ _ _ hlsS⟩
    · exact absurd (Array.getElem?_eq_some_iff.mp h2).1 (Nat.not_lt.mpr h1)
    · by_cases hab : a = b
      · simp only [hab, if_true] at ha
        cases ha
        rw [hab]
        exact hTb
      · simp only [if_neg hab] at ha
        by_cases hat : a = tk
        · simp only [hat, if_true] at ha
          cases ha
          rw [hat]
          exact hT
        · simp only [if_neg hat] at ha
          cases ha
  have hXX : bs_X l K_L_law ((((fun ci => (le_known hts ci).choose, fun ci => (le_known hts ci).choose_spec.choose) : va_G), cI, cJ, cZ, cR) : bs_D) p s m #[Value.ref b] meth c := by
    refine ⟨hx, hcode, hml, hown, hts, hK, hlk, hret, ?_, hnm, ?_, fun q hq => ?_⟩
    · have h0 : c.exceptionTable.size = 0 := by simpa [Array.isEmpty] using hexc
      have h3 : c.exceptionTable.toList = [] := List.eq_nil_of_length_eq_zero (by simpa using h0)
      rw [h3]; rfl
    · unfold Launch.stackTraces
      rw [hfl]
      decide +kernel
    · simp only [bs_nc, List.mem_cons, List.not_mem_nil, or_false] at hq
      rcases hq with rfl | rfl | rfl
      · exact va_Nc.of (hfl2 _ (by decide +kernel))
      · exact va_Nc.of (hfl2 _ (by decide +kernel))
      · exact va_Nc.of (hfl2 _ (by decide +kernel))
  have J := m_L_law (l := l) (R := room_1) le_rm (Φ := fun r _ => r = .ok (some (.int 1))) (x0 := b) (main_law (b := b) (n0 := s.heap.size) (L := L) (xs := xs) hL (h := ((fun _ => none, (some s.heap.size, (601024, (7293034, (fun a => if a = b then some (L, xs) else if a = tk then some (9, le_tk) else none, tk))))) : bs_H)) (fun _ => rfl) rfl rfl rfl (by simp) (by
    by_cases hz : tk = b
    · obtain ⟨h1, h2⟩ := htkb hz
      exact ⟨xs, by simp [hz, h1], h2⟩
    · exact ⟨le_tk, by simp [hz], fun _ _ => rfl⟩))
  have hb1 : 0 + 601024 ≤ room_1.cells := by rw [le_cells]; exact Nat.le_of_eq (Nat.zero_add _)
  have hb2 : 0 + 7293034 ≤ room_1.slots := by rw [le_slots]; exact Nat.le_of_eq (Nat.zero_add _)
  rw [lg_entry_eq]
  intro T hT2 X
  obtain ⟨t, st, o, r, h', L', cells, slots, q1, q2, q3, q4, q5, q6, q7, q8, q9⟩ := J _ p e s m #[Value.ref b] below meth c _ s.heap [] 0 0 _ hXX hG hb1 hb2 (lv_entry [Value.ref b] (Nat.le_of_ble_eq_true rfl)) T hT2 X
  subst q4
  refine ⟨t, st, o, q1, q2, q3, ⟨_, q3⟩, q6, q7.weaken (fun y hy hlt => absurd hlt (Nat.not_lt.mpr (q5.2.2.2.2.2.1 y hy))) ?_ ?_⟩
  · rw [le_cells] at q8
    exact Nat.le_trans (Nat.le_add_right _ _) q8
  · rw [le_slots] at q9
    exact Nat.le_trans (Nat.le_add_right _ _) q9
set_option maxHeartbeats 4000000 in
theorem lw_walk (l : Launch) (hfl : l.flags = flags0) (b : Addr) (xs : List Int32) : MetFree l x (headSpec (Jvm.Cond.code x code maxLocals ret :: tables_1) room_1) (lw_P b xs) (fun _ _ _ _ _ => True) lw_Q := by
  refine MetFree.of_bodyS (code := code) (maxLocals := maxLocals) (ret := ret) (by decide) ?_ ?_
  · intro args s m h hn
    obtain ⟨meth, c, h1, h2, h3, h4, h5, h6, -, -⟩ := Cond.code_spec hn (atoms_spec (ws := Jvm.Cond.code x code maxLocals ret :: tables_1) h _ List.mem_cons_self)
    exact ⟨meth, c, h1, h2, h3, h4, h5, h6⟩
  · intro p e s m args below meth c s₁ B hml0 hP _
    obtain ⟨rfl, hx, hbd, hgv⟩ := hP
    obtain ⟨scr, harrAt, hlist, hof, hsmall⟩ := hx
    obtain ⟨hcb, hkn, -, -⟩ := State.arrayAt?_spec harrAt
    have hown : s.vm.findClass R_law = some m.cls := findClass_of_methodNamed B.named
    have hts0 : ∀ c ∈ (Jvm.Cond.code x code maxLocals ret :: tables_1), c.before #[Value.ref b] s = true := atoms_spec (ws := Jvm.Cond.code x code maxLocals ret :: tables_1) B.pre
    have hts : ∀ w ∈ lw_tbl, w.before #[Value.ref b] s = true := k2_hts_sels lw_privs (fun w hw => hts0 w (List.mem_cons_of_mem _ hw)) lw_privs_ok
    have hml : c.maxLocals = 8 := B.maxLocals_eq (hts0 _ List.mem_cons_self)
    have X₀ : Stand p l e room_1 s m #[Value.ref b] below meth c s₁ [] 0 0 := Stand.of_body B
    have hh0 : s₁.heap = s.heap := by rw [B.state]; rfl
    have hsz : scr.slots.size = xs.length := by rw [← Array.length_toList, hlist, List.length_map]
    have hval : ∀ j : Nat, j < xs.length → scr.slots[j]? = some (.int (xs.getD j 0)) := fun j hj => by
      rw [← Array.getElem?_toList, hlist]
      simp [hj]
    have hbl : b < s.heap.size := (Array.getElem?_eq_some_iff.mp hcb).1
    have hX : va_X b xs.length (fun j => xs.getD j 0) s s.heap := ⟨scr, hcb, hof, hkn, hsz, hval⟩
    have K : W p l e room_1 s m #[Value.ref b] below meth c s₁.heap [] 0 0 (lw_Z below #[Value.ref b] s) (entryFrame m ([Value.ref b] : List Value).toArray 8) := by
      rw [hh0]
      exact whole_start l hfl hbd ⟨B.exec, B.bytes, B.returns, hml, hown, hts, hX, hbl, B.notSynchronized, hgv, B.noHandlers (hts0 _ List.mem_cons_self), (name_of_methodNamed B.named B.method).1⟩
    obtain ⟨t, a1, o, b1, b2, b3⟩ := K s₁ rfl X₀
    exact ⟨t, o, a1, b1, b2, b3⟩
theorem lw_pre_spec {args : Array Value} {s : State} (h : (Jvm.Cond.and given_1 narrow_1).before args s = true) (hr : rest_1_c.before args s = true) : ∃ (b : Addr) (xs : List Int32), lw_P b xs args s := by
  have hs := flat_of_before _ h
  have hq := flat_of_before _ hr
  have hc : (Cond.count 1).before args s = true := hs _ (by decide +kernel)
  have harr : (Cond.arrayOf (.arg 0) .int).before args s = true := hs _ (by decide +kernel)
  have hle : (Cond.le (.length (.arg 0)) (.int 2560)).before args s = true := hs _ (by decide +kernel)
  have hlen : (Cond.isInt (.length (.arg 0))).before args s = true := hq _ (by decide +kernel)
  have hall : (Cond.all (.arg 0) (.isInt (.elem (.arg 0) (.index 0)))).before args s = true := hq _ (by decide +kernel)
  obtain ⟨b, xs, hb, hx⟩ := State.ints_of_pre rfl harr hlen hall
  have hsm : xs.length < 2 ^ 31 := hx.choose_spec.2.2.2
  have hev : (Term.length (.arg 0)).eval args s none [] s = some (.int xs.length.toInt32) := hx.length_eval hb
  have hv := Cond.le_ints hev (show (Term.int 2560).eval args s none [] s = some (.int 2560) from rfl)
  have hd : xs.length.toInt32 ≤ 2560 := by
    simpa [Cond.before, Cond.holds, hv] using hle
  have hN : xs.length ≤ 2560 := (Int32.ofNat_le_ofNat hsm (by decide)).mp (show Int32.ofNat xs.length ≤ Int32.ofNat 2560 from hd)
  exact ⟨b, xs, Cond.one_arg hc (show args[0]? = some (.ref b) from hb), hx, hN, h⟩
theorem lw_comes (l : Launch) (hfl : l.flags = flags0) : Comes l x (Jvm.Cond.code x code maxLocals ret :: tables_1) room_1 (fun tb e args s => Calls_1 tb e args s ∧ rest_1 tb e args s ∧ Pre_1 tb e args s)
    (fun _ _ args s o t => lw_Q args s o t) := by
  intro p e ha hc hk s m args below hf hfit hheap happ hpre
  obtain ⟨b, xs, hP⟩ := lw_pre_spec hpre.2.2 hpre.2.1
  obtain ⟨k, o, h1, h2, h3, hQ⟩ := lw_walk l hfl b xs p e ha hc hk s m args below hf ((Spec.applies_iff_loose hf).mp happ).1 hP trivial
  exact ⟨k, o, h1, h2, h3, hQ⟩
theorem lw_frame {s t : State} {o : Outcome} {args : Array Value} (h : Framed s o t [] 601024 7293034) :
    Framed s o t (fieldLocs frame_1_writes args s ++ arrayLocs frame_1_arrays args s ++ staticLocs frame_1_statics s) 601024 7293034 := h
theorem lw_limb (L : Cond) (hL : ∀ (args : Array Value) (s t : State), L.after args s (.returned (some (.int 1))) t = true) :
    ArmFor flags0 classFile x code maxLocals ret World_1 tables_1 room_1 Calls_1 rest_1 Pre_1
      (fun tb e a s o t => postC L tb e a s o t ∧ Framed s o t (fieldLocs frame_1_writes a s ++ arrayLocs frame_1_arrays a s ++ staticLocs frame_1_statics s) 601024 7293034) := by
  intro l hfl _ _ p e ha hc hk s m args below hf hfit hheap happ hpre
  obtain ⟨k, o, h1, h2, h3, rfl, hF⟩ := lw_comes l hfl p e ha hc hk s m args below hf hfit hheap happ hpre
  exact ⟨k, _, h1, h2, h3, hL args s _, lw_frame hF⟩
theorem i_vc : Claimed_1_1 ∧ Claimed_1_2 := ⟨lw_limb limb_1_1 (fun args s t => by simp [limb_1_1, Cond.after, Cond.holds, Cond.value]), lw_limb limb_1_2 (fun args s t => Cond.after_iff.mpr (by
  first | (rw [show limb_1_2 = Cond.eq .result (.int 1) from rfl, Cond.eq_ints (x := 1) (y := 1) rfl rfl]; simp; done) | (simp [limb_1_2, Cond.value, Term.eval]; done)))⟩
