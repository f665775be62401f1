/-! Fields, arrays, new cells, over bs_J. -/
section BH
variable {l : Launch} {K : bs_K} {R : Room} {Φ : bs_R → bs_H → Prop} {pc : Nat} {lo : List (Nat × Value)} {st : List Value} {h : bs_H}
theorem bj_get {ci index a k : Nat} {q : vw_C} {fs : List Value} {v : Value} (d : decode K.2.1 pc = .ok (.getfield index, 3)) (hc : bs_cl[ci]? = some q) (hk : k < q.2.2) (hw : Cond.fieldLink K.1 index (q.2.1 k).1 (q.2.1 k).2.1 (q.2.1 k).2.2.1 ∈ bs_WS)
    (hx : h.1 a = some (bs_obj ci fs)) (hv : fs[k]? = some v) (kk : bs_J l K R Φ (pc + 3) lo (v :: st) h) : bs_J l K R Φ pc lo (.ref a :: st) h := by
  intro D p e s m args below meth c F H locs cells slots ls hX hG hcs hss hl
  have hok := (bs_ok ci q hc).1
  obtain ⟨C, T, N⟩ := q
  exact va_get hX.1 hX.2.1 hX.2.2.2.2.1 hok hX.2.2.2.1 hX.2.2.2.2.2.1 (hG.1.one hx) 0 (fs := fs) rfl hc k hk (hX.2.2.2.2.1 _ hw) (fun _ z => z) hv d (kk D p e s m args below meth c F H locs cells slots ls hX hG hcs hss hl)
theorem bj_put {ci index a k : Nat} {q : vw_C} {fs : List Value} {v : Value} {ty : FieldType} (d : decode K.2.1 pc = .ok (.putfield index, 3)) (hc : bs_cl[ci]? = some q) (hk : k < q.2.2) (hw : Cond.fieldLink K.1 index (q.2.1 k).1 (q.2.1 k).2.1 (q.2.1 k).2.2.1 ∈ bs_WS) (hfin : (q.2.1 k).2.2.2 = false)
    (hd : parseFieldDescriptor (q.2.1 k).2.2.1 = some ty) (hn : narrow ty v = v) (hfit : fits ty v = true) (hx : h.1 a = some (bs_obj ci fs)) (hlen : k < fs.length) (kk : bs_J l K R Φ (pc + 3) lo st (bs_set h a (bs_obj ci (fs.set k v)))) : bs_J l K R Φ pc lo (v :: .ref a :: st) h := by
  intro D p e s m args below meth c F H locs cells slots ls hX hG hcs hss hl
  obtain ⟨hin, ty0, hty, hnm⟩ := bs_ok ci q hc
  obtain ⟨C, T, N⟩ := q
  have hts := hX.2.2.2.2.1
  have hK := hX.2.2.2.2.2.1
  have hap := va_apart (own := K.1) hts hin ty0 hty hnm hK hc
  obtain ⟨r, h1, cell, q1, q2, q3, q4⟩ := hG.1 a _ hx
  have hr : r = (C, T, N) := Option.some.inj (h1.symm.trans hc)
  subst hr
  obtain ⟨hS, hfc, kC, hkC, hkind⟩ := hK.1 ci _ hc
  obtain ⟨cf, kf, fi, f, hi, hsl⟩ := hS k hk
  have hlay := hts _ (hin _ (u_in_lay hk))
  unfold u_lay at hlay
  rw [if_neg (by rw [hfin]; decide)] at hlay
  have hst := (u_facts hfc hkC (u_lays hts hin hk) hi).1
  have h6 := u_store hfc hkC hkind hlay hi hd hn hfit
  refine W.putK hX.1 hX.2.1 (f := f) ⟨hX.2.2.2.1, hts _ hw, ⟨_, _, _, hi⟩, hst⟩ (by rw [q2]; exact h6) q1 q3 (by rw [hsl]; exact k2_hasslot (q4 k hk)) rfl rfl d fun H' e1 e2 e3 => ?_
  rw [hsl] at e1 ⊢
  exact kk D p e s m args below meth c F H' _ cells slots ls hX (hG.put hx ⟨_, hc, t_OB.to (V := updV (vp_V fs) k v) ⟨_, e1, q2, q3, t_set q4 hap hk v⟩ (fun j _ => vp_updV_set hlen v j)⟩ e2 e3 (fun cell hc2 => by rw [e1] at hc2; cases hc2; show cell.vm.isStatics = false; rw [q3]; rfl)) hcs hss hl
theorem bj_putF {ci index a k : Nat} {q : vw_C} {fs : List Value} {v : Value} {ty : FieldType} (d : decode K.2.1 pc = .ok (.putfield index, 3)) (hc : bs_cl[ci]? = some q) (hk : k < q.2.2) (hw : Cond.fieldLink K.1 index (q.2.1 k).1 (q.2.1 k).2.1 (q.2.1 k).2.2.1 ∈ bs_WS) (hfin : (q.2.1 k).2.2.2 = true) (hname : K.2.2.2.2.2 = "<init>") (hdecl : (q.2.1 k).1 = K.1)
    (hd : parseFieldDescriptor (q.2.1 k).2.2.1 = some ty) (hn : narrow ty v = v) (hfit : fits ty v = true) (hx : h.1 a = some (bs_obj ci fs)) (hlen : k < fs.length) (kk : bs_J l K R Φ (pc + 3) lo st (bs_set h a (bs_obj ci (fs.set k v)))) : bs_J l K R Φ pc lo (v :: .ref a :: st) h := by
  intro D p e s m args below meth c F H locs cells slots ls hX hG hcs hss hl
  obtain ⟨hin, ty0, hty, hnm⟩ := bs_ok ci q hc
  obtain ⟨C, T, N⟩ := q
  have hts := hX.2.2.2.2.1
  have hK := hX.2.2.2.2.2.1
  have hown := hX.2.2.2.1
  have hap := va_apart (own := K.1) hts hin ty0 hty hnm hK hc
  obtain ⟨r, h1, cell, q1, q2, q3, q4⟩ := hG.1 a _ hx
  have hr : r = (C, T, N) := Option.some.inj (h1.symm.trans hc)
  subst hr
  obtain ⟨hS, hfc, kC, hkC, hkind⟩ := hK.1 ci _ hc
  obtain ⟨cf, kf, fi, f, hi, hsl⟩ := hS k hk
  have hlay := hts _ (hin _ (u_in_lay hk))
  unfold u_lay at hlay
  rw [if_pos hfin] at hlay
  have hst := (u_facts hfc hkC (u_lays hts hin hk) hi).1
  have hcf : m.cls = cf := by
    obtain ⟨_, _, c', _, _, _, -, -, hf', -, -, -, hown2, -⟩ := Cond.laysFinal_spec hlay
    have e1 : c' = cf := by have := hi.symm.trans hf'; simp at this; exact this.1.symm
    dsimp only at hdecl
    rw [hdecl] at hown2
    rw [← e1]; exact Option.some.inj (hown.symm.trans hown2)
  have h6 := u_fits hfc hkC hkind (Or.inr hlay) hi hd hn hfit
  refine W.putFinK hX.1 hX.2.1 hown (hts _ hw) hi hst hcf (hX.2.2.2.2.2.2.2.2.2.1.trans hname) (by rw [q2]; exact h6) q1 q3 (by rw [hsl]; exact k2_hasslot (q4 k hk)) rfl rfl d fun H' e1 e2 e3 => ?_
  rw [hsl] at e1 ⊢
  exact kk D p e s m args below meth c F H' _ cells slots ls hX (hG.put hx ⟨_, hc, t_OB.to (V := updV (vp_V fs) k v) ⟨_, e1, q2, q3, t_set q4 hap hk v⟩ (fun j _ => vp_updV_set hlen v j)⟩ e2 e3 (fun cell hc2 => by rw [e1] at hc2; cases hc2; show cell.vm.isStatics = false; rw [q3]; rfl)) hcs hss hl
theorem bj_iald {a n : Nat} {f : Nat → Int32} {i : Int32} {v : Int32} (d : decode K.2.1 pc = .ok (.iaload, 1)) (hx : h.1 a = some (bs_ia n f)) (hin : vp_in i n) (hv : f i.toNatClampNeg = v) (kk : bs_J l K R Φ (pc + 1) lo (.int v :: st) h) : bs_J l K R Φ pc lo (.int i :: .ref a :: st) h := by
  intro D p e s m args below meth c F H locs cells slots ls hX hG hcs hss hl
  subst hv
  exact va_iald hX.1 hX.2.1 hX.2.2.2.2.2.1 (hG.1.one hx) 0 0 rfl rfl hin d (kk D p e s m args below meth c F H locs cells slots ls hX hG hcs hss hl)
theorem bj_lald {a n : Nat} {f : Nat → Int64} {i : Int32} {v : Int64} (d : decode K.2.1 pc = .ok (.laload, 1)) (hx : h.1 a = some (bs_la n f)) (hin : vp_in i n) (hv : f i.toNatClampNeg = v) (kk : bs_J l K R Φ (pc + 1) lo (.long v :: st) h) : bs_J l K R Φ pc lo (.int i :: .ref a :: st) h := by
  intro D p e s m args below meth c F H locs cells slots ls hX hG hcs hss hl
  subst hv
  exact va_lald hX.1 hX.2.1 hX.2.2.2.2.2.1 (hG.1.one hx) 0 1 rfl rfl hin d (kk D p e s m args below meth c F H locs cells slots ls hX hG hcs hss hl)
theorem bj_zald {a n : Nat} {f : Nat → Int32} {i : Int32} {v : Int32} (d : decode K.2.1 pc = .ok (.baload, 1)) (hx : h.1 a = some (bs_za n f)) (hin : vp_in i n) (hv : f i.toNatClampNeg = v) (kk : bs_J l K R Φ (pc + 1) lo (.int v :: st) h) : bs_J l K R Φ pc lo (.int i :: .ref a :: st) h := by
  intro D p e s m args below meth c F H locs cells slots ls hX hG hcs hss hl
  subst hv
  exact va_zald hX.1 hX.2.1 hX.2.2.2.2.2.1 (hG.1.one hx) 0 2 rfl rfl hin d (kk D p e s m args below meth c F H locs cells slots ls hX hG hcs hss hl)
theorem bj_aald {a n b : Nat} {f : Nat → Option Nat} {i : Int32} (d : decode K.2.1 pc = .ok (.aaload, 1)) (hx : h.1 a = some (bs_ra n f)) (hin : vp_in i n) (hb : f i.toNatClampNeg = some b) (kk : bs_J l K R Φ (pc + 1) lo (.ref b :: st) h) : bs_J l K R Φ pc lo (.int i :: .ref a :: st) h := by
  intro D p e s m args below meth c F H locs cells slots ls hX hG hcs hss hl
  refine va_aldq hX.1 hX.2.1 hX.2.2.2.2.2.1 (hG.1.one hx) 0 3 rfl rfl hin d ?_
  rw [hb]
  exact kk D p e s m args below meth c F H locs cells slots ls hX hG hcs hss hl
/-- an int array that is only read -/
theorem bj_xald {a n : Nat} {f : Nat → Int32} {i : Int32} {v : Int32} (d : decode K.2.1 pc = .ok (.iaload, 1)) (hx : h.2.2.2.2.1 a = some (n, f)) (hin : vp_in i n) (hv : f i.toNatClampNeg = v) (kk : bs_J l K R Φ (pc + 1) lo (.int v :: st) h) : bs_J l K R Φ pc lo (.int i :: .ref a :: st) h := by
  intro D p e s m args below meth c F H locs cells slots ls hX hG hcs hss hl
  subst hv
  have hE := hG.2.2.2.2.2.2.2.2.1 a n f hx
  exact va_ti hX.1 hX.2.1 hE (⟨hG.2.2.2.2.1, hG.2.2.2.2.2.2.1, hG.2.2.2.2.2.1⟩ : va_S F s.heap H locs) hin rfl d (kk D p e s m args below meth c F H locs cells slots ls hX hG hcs hss hl)
theorem bj_xlen {a n : Nat} {f : Nat → Int32} {v : Int32} (d : decode K.2.1 pc = .ok (.arraylength, 1)) (hx : h.2.2.2.2.1 a = some (n, f)) (hv : Int32.ofNat n = v) (kk : bs_J l K R Φ (pc + 1) lo (.int v :: st) h) : bs_J l K R Φ pc lo (.ref a :: st) h := by
  intro D p e s m args below meth c F H locs cells slots ls hX hG hcs hss hl
  obtain ⟨cell, h1, h2, h3, h4, h5, h6, h7⟩ := hG.2.2.2.2.2.2.2.2.1 a n f hx
  have hlt : a < s.heap.size := (Array.getElem?_eq_some_iff.mp h1).1
  exact W.alen (n := v) hX.1 hX.2.1 (by rw [hG.2.2.2.2.2.2.1 a hlt h7]; exact h1) h2 (h5.trans hv) rfl rfl d (kk D p e s m args below meth c F H locs cells slots ls hX hG hcs hss hl)
/-- the row of ticks -/
theorem bj_ticks {index v : Nat} (d : decode K.2.1 pc = .ok (.getstatic index, 3)) (hw : Cond.fieldLink K.1 index "BitShuffler$Program" "TICKS_OF_OPS" "[I" ∈ bs_WS) (hv : h.2.2.2.2.2 = v) (kk : bs_J l K R Φ (pc + 3) lo (.ref v :: st) h) : bs_J l K R Φ pc lo st h := by
  intro D p e s m args below meth c F H locs cells slots ls hX hG hcs hss hl
  subst hv
  exact va_gets hX.1 hX.2.1 hG.2.2.2.2.2.2.2.2.2.1 (⟨hG.2.2.2.2.1, hG.2.2.2.2.2.2.1, hG.2.2.2.2.2.1⟩ : va_S F s.heap H locs) hX.2.2.2.1 (hX.2.2.2.2.1 _ hw) (fun _ z => z) d (kk D p e s m args below meth c F H locs cells slots ls hX hG hcs hss hl)
theorem bj_iast {a n : Nat} {f : Nat → Int32} {i x : Int32} (d : decode K.2.1 pc = .ok (.iastore, 1)) (hx : h.1 a = some (bs_ia n f)) (hin : vp_in i n) (kk : bs_J l K R Φ (pc + 1) lo st (bs_set h a (bs_ia n (va_up f i.toNatClampNeg x)))) : bs_J l K R Φ pc lo (.int x :: .int i :: .ref a :: st) h := by
  intro D p e s m args below meth c F H locs cells slots ls hX hG hcs hss hl
  refine W.iast hX.1 hX.2.1 (hG.1 a _ hx) ((hX.2.2.2.2.2.1.2 0 _ rfl).1 n (fun j => .int (f j))) (fun q => by cases q) (by show ¬ (i < 0 ∨ (arrV _ _ _).slots.size ≤ _); rw [arrV_size]; exact hin) rfl rfl d fun H1 e1 z oq => ?_
  refine kk D p e s m args below meth c F H1 _ cells slots ls hX (hG.put hx ?_ z oq (fun cell hc => by rw [e1] at hc; cases hc; rfl)) hcs hss hl
  show H1[a]? = some (vp_cell _ _)
  rw [e1]
  rw [vp_cell_i, vp_cell_i, arrV_store]
  congr 2
  funext q
  by_cases hq : q = i.toNatClampNeg
  · subst hq
    simp [updV, va_up]
  · simp [updV, va_up, hq]
theorem bj_last {a n : Nat} {f : Nat → Int64} {i : Int32} {x : Int64} (d : decode K.2.1 pc = .ok (.lastore, 1)) (hx : h.1 a = some (bs_la n f)) (hin : vp_in i n) (kk : bs_J l K R Φ (pc + 1) lo st (bs_set h a (bs_la n (va_up f i.toNatClampNeg x)))) : bs_J l K R Φ pc lo (.long x :: .int i :: .ref a :: st) h := by
  intro D p e s m args below meth c F H locs cells slots ls hX hG hcs hss hl
  refine W.last hX.1 hX.2.1 (hG.1 a _ hx) ((hX.2.2.2.2.2.1.2 1 _ rfl).1 n (fun j => .long (f j))) (fun q => by cases q) (by show ¬ (i < 0 ∨ (arrV _ _ _).slots.size ≤ _); rw [arrV_size]; exact hin) rfl rfl d fun H1 e1 z oq => ?_
  refine kk D p e s m args below meth c F H1 _ cells slots ls hX (hG.put hx ?_ z oq (fun cell hc => by rw [e1] at hc; cases hc; rfl)) hcs hss hl
  show H1[a]? = some (vp_cell _ _)
  rw [e1]
  rw [vp_cell_l, vp_cell_l, arrV_store]
  congr 2
  funext q
  by_cases hq : q = i.toNatClampNeg
  · subst hq
    simp [updV, va_up]
  · simp [updV, va_up, hq]
theorem bj_zast {a n : Nat} {f : Nat → Int32} {i x : Int32} (d : decode K.2.1 pc = .ok (.bastore, 1)) (hx : h.1 a = some (bs_za n f)) (hin : vp_in i n) (hn : narrow .boolean (.int x) = .int x) (kk : bs_J l K R Φ (pc + 1) lo st (bs_set h a (bs_za n (va_up f i.toNatClampNeg x)))) : bs_J l K R Φ pc lo (.int x :: .int i :: .ref a :: st) h := by
  intro D p e s m args below meth c F H locs cells slots ls hX hG hcs hss hl
  refine W.zast hX.1 hX.2.1 (hG.1 a _ hx) ((hX.2.2.2.2.2.1.2 2 _ rfl).1 n (fun j => .int (f j))) (fun q => by cases q) (by show ¬ (i < 0 ∨ (arrV _ _ _).slots.size ≤ _); rw [arrV_size]; exact hin) rfl rfl d fun H1 e1 z oq => ?_
  rw [hn] at e1
  refine kk D p e s m args below meth c F H1 _ cells slots ls hX (hG.put hx ?_ z oq (fun cell hc => by rw [e1] at hc; cases hc; rfl)) hcs hss hl
  show H1[a]? = some (vp_cell _ _)
  rw [e1]
  rw [vp_cell_i, vp_cell_i, arrV_store]
  congr 2
  funext q
  by_cases hq : q = i.toNatClampNeg
  · subst hq
    simp [updV, va_up]
  · simp [updV, va_up, hq]
theorem bj_aast {a n b ci : Nat} {f : Nat → Option Nat} {i : Int32} {vs : List Value} {r : vw_C} (d : decode K.2.1 pc = .ok (.aastore, 1)) (hx : h.1 a = some (bs_ra n f)) (hin : vp_in i n) (hb : h.1 b = some (bs_obj ci vs)) (hc : bs_cl[ci]? = some r) (hr : r.1 = "BitShuffler$BitMap") (kk : bs_J l K R Φ (pc + 1) lo st (bs_set h a (bs_ra n (va_up f i.toNatClampNeg (some b))))) : bs_J l K R Φ pc lo (.ref b :: .int i :: .ref a :: st) h := by
  intro D p e s m args below meth c F H locs cells slots ls hX hG hcs hss hl
  have hlt : i.toNatClampNeg < n := Nat.not_le.mp fun q => hin (Or.inr q)
  have h0 : ¬ i < 0 := fun q => hin (Or.inl q)
  have hK := hX.2.2.2.2.2.1
  obtain ⟨r', hr', cellV, g1, g2, g3, -⟩ := hG.1 b _ hb
  have hcls := (hK.1 ci r hc).2
  obtain ⟨kA, comp, k1, k2, k3, -⟩ := (hK.2 3 _ rfl).2
  rw [hr] at hcls
  have hcomp : comp = D.1.1 ci := Option.some.inj (k3.symm.trans hcls.1)
  subst hcomp
  obtain ⟨kC, hkC, -⟩ := hcls.2
  refine W.aast hX.1 hX.2.1 (hG.1 a _ hx) (fun q h => by cases h) (fun h => by cases h) k1 k2 rfl hkC ⟨h0, by show _ < (arrV _ _ _).slots.size; rw [arrV_size]; exact hlt⟩ g1 (fun q h => by rw [g3] at h; cases h) (by rw [g2]; exact hkC) (by rw [g2]; exact va_assign hcls) rfl rfl d fun H1 e1 z oq => ?_
  refine kk D p e s m args below meth c F H1 _ cells slots ls hX (hG.put hx ?_ z oq (fun cell hc => by rw [e1] at hc; cases hc; rfl)) hcs hss hl
  show H1[a]? = some (vp_cell _ _)
  rw [e1]
  rw [vp_cell_q, vp_cell_q, arrV_store]
  congr 2
  funext q
  by_cases hq : q = i.toNatClampNeg
  · subst hq
    simp [updV, va_up, va_rf]
  · simp [updV, va_up, hq]
/-- new cells: their address is the heap's size, which is known then -/
theorem bj_new {ci index a : Nat} {q : vw_C} {fs : List Value} (d : decode K.2.1 pc = .ok (.new index, 3)) (hc : bs_cl[ci]? = some q) (hw1 : Cond.classLink K.1 index q.1 ∈ bs_WS) (hw2 : Cond.instantiable q.1 q.2.2 ∈ bs_WS) (hw3 : Cond.initialized q.1 ∈ bs_WS)
    (ty : Nat → FieldType) (hty : ∀ k, k < q.2.2 → parseFieldDescriptor (q.2.1 k).2.2.1 = some (ty k)) (hfs : ∀ j, j < q.2.2 → defaultValue (ty j) = vp_V fs j) (ha : h.2.1 = some a) (h1 : 1 ≤ h.2.2.1) (h2 : q.2.2 ≤ h.2.2.2.1)
    (kk : bs_J l K R Φ (pc + 3) lo (.ref a :: st) (bs_push h a q.2.2 (bs_obj ci fs))) : bs_J l K R Φ pc lo st h := by
  intro D p e s m args below meth c F H locs cells slots ls hX hG hcs hss hl
  have hin := (bs_ok ci q hc).1
  obtain ⟨C, T, N⟩ := q
  have hts := hX.2.2.2.2.1
  have hKn := hX.2.2.2.2.2.1.1 ci _ hc
  dsimp only at h2 hw2 kk
  refine W.newcK hX.1 hX.2.1 hX.2.2.2.1 (hts _ hw1) (hts _ hw2) (hts _ hw3) rfl d (by omega) (by omega) hKn.2.1 (hG.2.1 a ha) fun H1 kC hkC e1 z1 o1 => ?_
  refine kk D p e s m args below meth c F H1 _ _ _ ls hX (hG.push ha ⟨_, hc, (u_born ty hts hin hKn hkC e1 hty).to hfs⟩ z1 o1 (fun cell hc2 => by rw [e1] at hc2; cases hc2; rfl)) ?_ ?_ hl
  · show cells + 1 + (h.2.2.1 - 1) ≤ _
    omega
  · show slots + N + (h.2.2.2.1 - N) ≤ _
    omega
theorem bj_newi {a N : Nat} {n : Int32} (d : decode K.2.1 pc = .ok (.newarray .int, 2)) (hw : Cond.arrayClass .int ∈ bs_WS) (hn : ¬ n < 0) (hN : n.toNatClampNeg = N) (hb : N ≤ 1000) (ha : h.2.1 = some a) (h1 : 1 ≤ h.2.2.1) (h2 : N ≤ h.2.2.2.1)
    (kk : bs_J l K R Φ (pc + 2) lo (.ref a :: st) (bs_push h a N (bs_ia N (fun _ => 0)))) : bs_J l K R Φ pc lo (.int n :: st) h := by
  intro D p e s m args below meth c F H locs cells slots ls hX hG hcs hss hl
  have hK := (hX.2.2.2.2.2.1.2 0 _ rfl).2
  refine va_newaK (atype := .int) hX.1 hX.2.1 (hX.2.2.2.2.1 _ hw) rfl d rfl hn hN (by show N * 4 ≤ _; omega) (by omega) (by omega) (hG.2.1 a ha) fun H1 cA e1 z1 o1 hAr hNm => ?_
  have hcA : cA = D.2.1 := Option.some.inj (hNm.symm.trans hK)
  subst hcA
  refine kk D p e s m args below meth c F H1 _ _ _ ls hX (hG.push ha e1 z1 o1 (fun cell hc2 => by rw [e1] at hc2; cases hc2; rfl)) ?_ ?_ hl
  · show cells + 1 + (h.2.2.1 - 1) ≤ _
    omega
  · show slots + N + (h.2.2.2.1 - N) ≤ _
    omega
theorem bj_newl {a N : Nat} {n : Int32} (d : decode K.2.1 pc = .ok (.newarray .long, 2)) (hw : Cond.arrayClass .long ∈ bs_WS) (hn : ¬ n < 0) (hN : n.toNatClampNeg = N) (hb : N ≤ 1000) (ha : h.2.1 = some a) (h1 : 1 ≤ h.2.2.1) (h2 : N ≤ h.2.2.2.1)
    (kk : bs_J l K R Φ (pc + 2) lo (.ref a :: st) (bs_push h a N (bs_la N (fun _ => 0)))) : bs_J l K R Φ pc lo (.int n :: st) h := by
  intro D p e s m args below meth c F H locs cells slots ls hX hG hcs hss hl
  have hK := (hX.2.2.2.2.2.1.2 1 _ rfl).2
  refine va_newaK (atype := .long) hX.1 hX.2.1 (hX.2.2.2.2.1 _ hw) rfl d rfl hn hN (by show N * 8 ≤ _; omega) (by omega) (by omega) (hG.2.1 a ha) fun H1 cA e1 z1 o1 hAr hNm => ?_
  have hcA : cA = D.2.2.1 := Option.some.inj (hNm.symm.trans hK)
  subst hcA
  refine kk D p e s m args below meth c F H1 _ _ _ ls hX (hG.push ha e1 z1 o1 (fun cell hc2 => by rw [e1] at hc2; cases hc2; rfl)) ?_ ?_ hl
  · show cells + 1 + (h.2.2.1 - 1) ≤ _
    omega
  · show slots + N + (h.2.2.2.1 - N) ≤ _
    omega
theorem bj_newz {a N : Nat} {n : Int32} (d : decode K.2.1 pc = .ok (.newarray .boolean, 2)) (hw : Cond.arrayClass .boolean ∈ bs_WS) (hn : ¬ n < 0) (hN : n.toNatClampNeg = N) (hb : N ≤ 1000) (ha : h.2.1 = some a) (h1 : 1 ≤ h.2.2.1) (h2 : N ≤ h.2.2.2.1)
    (kk : bs_J l K R Φ (pc + 2) lo (.ref a :: st) (bs_push h a N (bs_za N (fun _ => 0)))) : bs_J l K R Φ pc lo (.int n :: st) h := by
  intro D p e s m args below meth c F H locs cells slots ls hX hG hcs hss hl
  have hK := (hX.2.2.2.2.2.1.2 2 _ rfl).2
  refine va_newaK (atype := .boolean) hX.1 hX.2.1 (hX.2.2.2.2.1 _ hw) rfl d rfl hn hN (by show N * 1 ≤ _; omega) (by omega) (by omega) (hG.2.1 a ha) fun H1 cA e1 z1 o1 hAr hNm => ?_
  have hcA : cA = D.2.2.2.1 := Option.some.inj (hNm.symm.trans hK)
  subst hcA
  refine kk D p e s m args below meth c F H1 _ _ _ ls hX (hG.push ha e1 z1 o1 (fun cell hc2 => by rw [e1] at hc2; cases hc2; rfl)) ?_ ?_ hl
  · show cells + 1 + (h.2.2.1 - 1) ≤ _
    omega
  · show slots + N + (h.2.2.2.1 - N) ≤ _
    omega
theorem bj_anew {a N index : Nat} {n : Int32} (d : decode K.2.1 pc = .ok (.anewarray index, 3)) (hw1 : Cond.classLink K.1 index "BitShuffler$BitMap" ∈ bs_WS) (hw2 : Cond.arrayOver (.object "BitShuffler$BitMap") ∈ bs_WS) (hn : ¬ n < 0) (hN : n.toNatClampNeg = N) (hb : N ≤ 1000) (ha : h.2.1 = some a) (h1 : 1 ≤ h.2.2.1) (h2 : N ≤ h.2.2.2.1)
    (kk : bs_J l K R Φ (pc + 3) lo (.ref a :: st) (bs_push h a N (bs_ra N (fun _ => none)))) : bs_J l K R Φ pc lo (.int n :: st) h := by
  intro D p e s m args below meth c F H locs cells slots ls hX hG hcs hss hl
  have hH := hG.2.1 a ha
  obtain ⟨kA0, comp0, -, -, -, hK⟩ := (hX.2.2.2.2.2.1.2 3 _ rfl).2
  subst hN
  refine W.anew hX.1 hX.2.1 hX.2.2.2.1 (hX.2.2.2.2.1 _ hw1) (hX.2.2.2.2.1 _ hw2) rfl d rfl hn (by omega) (by omega) (by omega) fun cA kA comp e1 e2 e3 e4 => ?_
  have hcA : cA = D.2.2.2.2 := Option.some.inj (e1.symm.trans hK)
  subst hcA
  subst hH
  have hcell : (H.push ({ cls := D.2.2.2.2, slots := Array.replicate n.toNatClampNeg .null, vm := .none } : Cell))[H.size]? = some (arrV D.2.2.2.2 n.toNatClampNeg (fun _ => va_rf none)) := by
    rw [Array.getElem?_push, if_pos rfl]
    congr 1
    unfold arrV
    congr 1
    apply Array.ext
    · simp
    · intro i hi1 hi2
      simp [va_rf]
  refine kk D p e s m args below meth c F _ _ _ _ ls hX (hG.push ha hcell (by simp) (fun q hq => by rw [Array.getElem?_push, if_neg (Nat.ne_of_lt hq)]) (fun cell hc2 => by rw [hcell] at hc2; cases hc2; rfl)) ?_ ?_ hl
  · show cells + 1 + (h.2.2.1 - 1) ≤ _
    omega
  · show slots + n.toNatClampNeg + (h.2.2.2.1 - n.toNatClampNeg) ≤ _
    omega
theorem bj_objInit {a idx d0 : Nat} (d : decode K.2.1 pc = .ok (.invokespecial idx, 3)) (hw1 : Cond.methodLink K.1 idx Lib.objectInit ∈ bs_WS) (hw2 : Cond.instanceMethod Lib.objectInit ∈ bs_WS) (hw3 : Cond.code Lib.objectInit ⟨#[0xb1]⟩ 1 none ∈ bs_WS) (hR : bs_rm d0 R) (hst : (st.map fun v => v.category).sum ≤ 8) (kk : bs_J l K R Φ (pc + 3) lo st h) : bs_J l K R Φ pc lo (.ref a :: st) h := by
  intro D p e s m args below meth c F H locs cells slots ls hX hG hcs hss hl
  have hts := hX.2.2.2.2.1
  have r1 := hR.1
  have r2 := hR.2
  refine W.objInit hX.1 hX.2.1 hX.2.2.2.1 (hts _ hw1) (hts _ hw2) (hts _ hw3) rfl (hl.1.trans hX.2.2.1.symm) rfl d (by omega) (by show 2 * 0 + _ + 12 ≤ _; omega) ?_
  exact kk D p e s m args below meth c F H locs cells slots ls hX hG hcs hss hl
end BH
