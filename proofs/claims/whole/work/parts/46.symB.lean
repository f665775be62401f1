/-! The class's symbols: a step, all steps. -/
def ag (w : Nat) (q : sy_S) (ga gt gr : Nat → Int64) (O : Nat → Bool) : Prop := ∀ k, k < w → ga k = q.1 k ∧ gt k = q.2.1 k ∧ gr k = q.2.2.1 k ∧ O k = q.2.2.2 k
/-- the sum of the facts of a step that fits -/
theorem fit_sh {w : Nat} {d : Int32} {m : Int64} (hf : fitsB w 0 d m = true) : -(w : Int) < d.toInt ∧ d.toInt < w := by
  simp [fitsB] at hf; exact hf.1
theorem fit_ro {w : Nat} {d : Int32} {m : Int64} (hf : fitsB w 1 d m = true) : ∃ j, j < w ∧ d = nI j := by
  simp [fitsB] at hf; exact nI_between ⟨hf.1.1, hf.1.2⟩
theorem fit_sw {w : Nat} {d : Int32} {m : Int64} (hw : w ≤ 64) (hf : fitsB w 5 d m = true) : ∃ j, d = nI j ∧ swOk w j m := by
  have hs : swB w d m = true := by simpa [fitsB] using hf
  unfold swB at hs
  simp only [Bool.and_eq_true, decide_eq_true_eq] at hs
  obtain ⟨⟨⟨h1, h2⟩, h3⟩, h4⟩ := hs
  obtain ⟨j, hj, rfl⟩ := nI_between (x := d) (m := w) ⟨by omega, h2⟩
  rw [nI_toInt (by omega)] at h1
  rw [nI_clamp (by omega)] at h4
  exact ⟨j, rfl, by omega, hj, (swP_iff j w m w).mp h4⟩
theorem fit_in {w : Nat} {op d : Int32} {m : Int64} (h0 : ¬ op = 0) (h1 : ¬ op = 1) (h3 : ¬ op = 3) (h5 : ¬ op = 5) (h6 : ¬ op = 6) (hf : fitsB w op d m = true) : ∀ k, k < 64 → w ≤ k → lb m k = false := by
  have e : fitsB w op d m = (decide (d = 0) && inW m w) := by unfold fitsB; rw [if_neg h0, if_neg h1, if_neg (fun q => q.elim h3 h6), if_neg h5]
  rw [e] at hf
  simp only [Bool.and_eq_true] at hf
  exact (inW_iff m w).mp hf.2
def offS (s : Nat) (h h' : bs_H) : Prop := (∀ b, b < s ∨ s + 3 < b → h'.1 b = h.1 b) ∧ h'.2 = h.2
theorem offS.refl (s : Nat) (h : bs_H) : offS s h h := ⟨fun _ _ => rfl, rfl⟩
theorem offS.trans {s : Nat} {h h' h'' : bs_H} (h1 : offS s h h') (h2 : offS s h' h'') : offS s h h'' := ⟨fun b hb => (h2.1 b hb).trans (h1.1 b hb), h2.2.trans h1.2⟩
theorem offS.set {s a : Nat} {h h' : bs_H} {x : bs_E} (h1 : offS s h h') (ha : s ≤ a ∧ a ≤ s + 3) : offS s h (bs_set h' a x) := ⟨fun b hb => by rw [bs_set_ne (by omega)]; exact h1.1 b hb, h1.2⟩
section SP
variable {Φ : bs_R → bs_H → Prop} {h : bs_H} {s w : Nat} {ga gt gr : Nat → Int64} {o : Int64}
theorem s_S_scatter (p : pS h s w ga gt gr o) (hw : w ≤ 64) {m : Int64} (hm : ∀ k, k < 64 → w ≤ k → lb m k = false) (k : ∀ T, (∀ z, z < w → T z = if lb m z = true then gt (rk m z) else 0) → Φ (.ok none) (bs_set h (s + 2) (bs_la 64 T))) : w_S_scatter Φ s m h := by
  refine s_JL_bitCount m (bs_kI_i (bs_fI_i p.1 rfl ?_))
  have e : rk m 64 = rk m w := by
    have := rk_top hm (64 - w)
    rw [show w + (64 - w) = 64 from by omega] at this
    exact this
  rw [e, ← bs_set_get p.2.2.1]
  exact s_S_scatter_13 p hw m k w 1000 gt (Nat.le_refl _) (by omega) (fun _ _ => rfl) (fun z h1 h2 => by omega)
theorem s_S_perform (p : pS h s w ga gt gr o) (hw : w ≤ 64) {q : sy_S} (a : ag w q ga gt gr (lb o)) {op d : Int32} {m : Int64} (hf : fitsB w op d m = true) (k : ∀ h' ga' gt' gr' o', pS h' s w ga' gt' gr' o' → ag w (sy w op d m q) ga' gt' gr' (lb o') → offS s h h' → Φ (.ok none) h') : w_S_perform Φ s op d m h := by
  have ft : ∀ T : Nat → Int64, (∀ z, z < w → T z = (sy w op d m q).2.1 z) → (sy w op d m q).1 = q.1 → (sy w op d m q).2.2 = q.2.2 → Φ (.ok none) (bs_set h (s + 2) (bs_la 64 T)) := by
    intro T hT e1 e2
    refine k _ _ _ _ _ (p.t T) (fun z hz => ?_) ((offS.refl s h).set (by omega))
    rw [e1, e2]
    exact ⟨(a z hz).1, hT z hz, (a z hz).2.2⟩
  have fr : ∀ G : Nat → Int64, (∀ z, z < w → G z = (sy w op d m q).2.2.1 z) → (sy w op d m q).1 = q.1 → (sy w op d m q).2.1 = q.2.1 → (sy w op d m q).2.2.2 = q.2.2.2 → Φ (.ok none) (bs_set h (s + 3) (bs_la 64 G)) := by
    intro T hT e1 e2 e3
    refine k _ _ _ _ _ (p.r T) (fun z hz => ?_) ((offS.refl s h).set (by omega))
    rw [e1, e2, e3]
    exact ⟨(a z hz).1, (a z hz).2.1, hT z hz, (a z hz).2.2.2⟩
  refine bs_ifc (fun h0 => ?_) (fun h0 => bs_ifc (fun h1 => ?_) (fun h1 => bs_ifc (fun h2 => ?_) (fun h2 => bs_ifc (fun h3 => ?_) (fun h3 => bs_ifc (fun h4 => ?_) (fun h4 => bs_ifc (fun h5 => ?_) (fun h5 => bs_ifc (fun h6 => ?_) (fun h6 => bs_ifc (fun h7 => ?_) (fun h7 => ?_))))))))
  · subst h0
    have hd := fit_sh hf
    have e : sy w 0 d m q = (q.1, shT w d.toInt q.1, q.2.2) := rfl
    refine ⟨⟨_, p.1⟩, s_S_shift p hw d hd (fun T hT => bs_kV_i (ft T (fun z hz => ?_) (by rw [e]) (by rw [e])))⟩
    rw [e, hT z hz]
    show shT w d.toInt ga z = shT w d.toInt q.1 z
    unfold shT
    by_cases hc : 0 ≤ (z : Int) - d.toInt ∧ (z : Int) - d.toInt < w
    · rw [if_pos hc, if_pos hc]; exact (a _ (by omega)).1
    · rw [if_neg hc, if_neg hc]
  · subst h1
    obtain ⟨j, hj, rfl⟩ := fit_ro hf
    have e : sy w 1 (nI j) m q = (q.1, roT w (nI j).toNatClampNeg q.1, q.2.2) := rfl
    refine ⟨⟨_, p.1⟩, s_S_rotate p hw hj (fun T hT => bs_kV_i (ft T (fun z hz => ?_) (by rw [e]) (by rw [e])))⟩
    rw [e, hT z hz, nI_clamp (by omega)]
    unfold roT
    exact (a _ (by split <;> omega)).1
  · subst h2
    have e : sy w 2 d m q = (q.1, fun k => if lb m k = true then q.2.1 k else 0, q.2.2) := rfl
    refine ⟨⟨_, p.1⟩, s_S_clearOutside p hw m (fun T hT => bs_kV_i (ft T (fun z hz => ?_) (by rw [e]) (by rw [e])))⟩
    rw [e, hT z hz, (a z hz).2.1]
  · subst h3
    have e : sy w 3 d m q = (q.1, q.2.1, fun k => q.2.2.1 k ||| q.2.1 k, q.2.2.2) := rfl
    refine bs_fA_i p.1 rfl ⟨⟨_, p.1⟩, s_S_addToResult p hw p.2.2.1 (by omega) (fun G hG => bs_kV_i (fr G (fun z hz => ?_) (by rw [e]) (by rw [e]) (by rw [e])))⟩
    rw [e, hG z hz, (a z hz).2.1, (a z hz).2.2.1]
  · subst h4
    have e : sy w 4 d m q = (q.1, q.2.1, q.2.2.1, fun k => q.2.2.2 k || lb m k) := rfl
    refine bs_fL_i p.1 rfl (bs_p_i p.1 (by simp) rfl (k _ _ _ _ _ (p.own _ _) (fun z hz => ?_) ((offS.refl s h).set (by omega))))
    rw [e, lb_or, (a z hz).2.2.2]
    exact ⟨(a z hz).1, (a z hz).2.1, (a z hz).2.2.1, rfl⟩
  · subst h5
    obtain ⟨j, rfl, ok⟩ := fit_sw hw hf
    have d0 := ok.2.1
    have e : sy w 5 (nI j) m q = (swC w (nI j).toNatClampNeg m q.1 (w - (nI j).toNatClampNeg), q.2) := rfl
    refine ⟨⟨_, p.1⟩, s_S_swap p hw ok (fun T hT => bs_kV_i (k _ _ _ _ _ (p.a T) (fun z hz => ?_) ((offS.refl s h).set (by omega))))⟩
    rw [e, nI_clamp (by omega)]
    refine ⟨?_, (a z hz).2⟩
    rw [hT z hz]
    show swC w j m ga (w - j) z = swC w j m q.1 (w - j) z
    unfold swC
    by_cases h1 : lb m z = true ∧ z + j < w ∧ z < w - j
    · rw [if_pos h1, if_pos h1]; exact (a _ (by omega)).1
    · rw [if_neg h1, if_neg h1]
      by_cases h2 : j ≤ z ∧ lb m (z - j) = true ∧ z - j < w - j
      · rw [if_pos h2, if_pos h2]; exact (a _ (by omega)).1
      · rw [if_neg h2, if_neg h2]; exact (a z hz).1
  · subst h6
    have e : sy w 6 d m q = (q.1, q.2.1, fun k => q.2.2.1 k ||| q.1 k, q.2.2.2) := rfl
    refine bs_fA_i p.1 rfl ⟨⟨_, p.1⟩, s_S_addToResult p hw p.2.1 (by omega) (fun G hG => bs_kV_i (fr G (fun z hz => ?_) (by rw [e]) (by rw [e]) (by rw [e])))⟩
    rw [e, hG z hz, (a z hz).1, (a z hz).2.2.1]
  · subst h7
    have e : sy w 7 d m q = (q.1, gat m q.1 w, q.2.2) := rfl
    refine ⟨⟨_, p.1⟩, s_S_gather p hw m (fun T hT => bs_kV_i (ft T (fun z hz => ?_) (by rw [e]) (by rw [e])))⟩
    rw [e, hT z hz]
    have : ∀ c, c ≤ w → gat m ga c z = gat m q.1 c z := by
      intro c
      induction c with
      | zero => intro _; rfl
      | succ c ih => intro hc; unfold gat; rw [ih (by omega), (a c (by omega)).1]
    exact this w (Nat.le_refl _)
  · have e : sy w op d m q = (q.1, fun k => if lb m k = true then q.2.1 (rk m k) else 0, q.2.2) := by
      unfold sy; rw [if_neg h0, if_neg h1, if_neg h2, if_neg h3, if_neg h4, if_neg h5, if_neg h6, if_neg h7]
    refine ⟨⟨_, p.1⟩, s_S_scatter p hw (fit_in h0 h1 h3 h5 h6 hf) (fun T hT => bs_kV_i (ft T (fun z hz => ?_) (by rw [e]) (by rw [e])))⟩
    rw [e, hT z hz]
    have := rk_le m z
    show (if lb m z = true then _ else _) = (if lb m z = true then _ else _)
    rw [(a (rk m z) (by omega)).2.1]
/-- the state at the start, and after n steps -/
def sy0 : sy_S := (fun k => bs_shl 1 (nI k), fun _ => 0, fun _ => 0, fun _ => false)
def syN (w : Nat) (st : bs_St) : Nat → sy_S
  | 0 => sy0
  | n + 1 => sy w (st n).1 (st n).2.1 (st n).2.2 (syN w st n)
/-- all steps fit -/
def okS (w n : Nat) (st : bs_St) : Prop := ∀ i, i < n → fitsB w (st i).1 (st i).2.1 (st i).2.2 = true
theorem s_S_trace {n b : Nat} {ops am : Nat → Int32} {ms : Nat → Int64} {st : bs_St} {v1 : Int64} {v2 : Int32} (p : h.1 s = some (bs_obj 4 [.ref (s + 1), .ref (s + 2), .ref (s + 3), .long v1, .int v2]) ∧ h.1 (s + 1) = some (bs_la 64 ga) ∧ h.1 (s + 2) = some (bs_la 64 gt) ∧ h.1 (s + 3) = some (bs_la 64 gr)) (hw : w ≤ 64) (hn : n ≤ 192) (pp : pP h b n ops am ms) (hst : ∀ i, i < n → ops i = (st i).1 ∧ am i = (st i).2.1 ∧ ms i = (st i).2.2) (ok : okS w n st) (hb : b + 3 < s ∨ s + 3 < b)
    (k : ∀ h' ga' gt' gr' o', pS h' s w ga' gt' gr' o' → ag w (syN w st n) ga' gt' gr' (lb o') → offS s h h' → Φ (.ok none) h') : w_S_trace Φ s b (nI w) h := by
  refine bs_p_i p.1 (by simp) rfl (bs_p_i bs_set_eq (by simp) rfl ?_)
  rw [bs_set_set]
  have p1 : pS (bs_set h s (bs_obj 4 [.ref (s + 1), .ref (s + 2), .ref (s + 3), .long 0, .int (nI w)])) s w ga gt gr 0 := ⟨bs_set_eq, by rw [bs_set_ne (by omega)]; exact p.2.1, by rw [bs_set_ne (by omega)]; exact p.2.2.1, by rw [bs_set_ne (by omega)]; exact p.2.2.2⟩
  have o1 : offS s h (bs_set h s (bs_obj 4 [.ref (s + 1), .ref (s + 2), .ref (s + 3), .long 0, .int (nI w)])) := (offS.refl s h).set (by omega)
  show w_S_trace_12 Φ 1000 s b 0 (bs_set h s (bs_obj 4 [.ref (s + 1), .ref (s + 2), .ref (s + 3), .long 0, .int (nI w)]))
  generalize bs_set h s (bs_obj 4 [.ref (s + 1), .ref (s + 2), .ref (s + 3), .long 0, .int (nI w)]) = h1 at p1 o1 ⊢
  show w_S_trace_12 Φ 1000 s b (nI 0) h1
  refine bs_for (σ := bs_H) (fun q c H => w_S_trace_12 Φ q s b (nI c) H) (fun c H => offS s h H ∧ ∃ A T R, pS H s w A T R 0 ∧ ∀ z, z < c → A z = bs_shl 1 (nI z) ∧ T z = 0 ∧ R z = 0) w ?_ ?_ w 0 h1 1000 (by omega) (by omega) ⟨o1, ga, gt, gr, p1, fun z hz => by omega⟩
  · rintro q c H hc ⟨oH, A, T, R, pH, hz⟩ nx
    refine bs_fI_i pH.1 rfl (bs_iff (nI_ge hc (by omega)) (bs_fA_i pH.1 rfl (bs_sL_i c pH.2.1 rfl (by omega) (by decide) ?_)))
    have p2 := pH.a (va_up A c (bs_shl 1 (nI c)))
    refine bs_fA_i p2.1 rfl (bs_sL_i c p2.2.2.1 rfl (by omega) (by decide) ?_)
    have p3 := p2.t (va_up T c 0)
    refine bs_fA_i p3.1 rfl (bs_sL_i c p3.2.2.2 rfl (by omega) (by decide) ?_)
    have p4 := p3.r (va_up R c 0)
    rw [← nI_succ]
    refine nx _ ⟨((oH.set (by omega)).set (by omega)).set (by omega), _, _, _, p4, fun z hz' => ?_⟩
    by_cases hzc : z = c
    · subst hzc; rw [bs_up_eq, bs_up_eq, bs_up_eq]; exact ⟨rfl, rfl, rfl⟩
    · rw [bs_up_ne _ _ hzc, bs_up_ne _ _ hzc, bs_up_ne _ _ hzc]; exact hz z (by omega)
  · rintro q H ⟨oH, A, T, R, pH, hz⟩
    refine bs_fI_i pH.1 rfl (bs_ift (nI_le (by omega) (by omega)) ?_)
    show w_S_trace_51 Φ 1000 s b (nI 0) H
    refine bs_for (σ := bs_H) (fun q c H => w_S_trace_51 Φ q s b (nI c) H) (fun c H => offS s h H ∧ ∃ A T R O, pS H s w A T R O ∧ ag w (syN w st c) A T R (lb O)) n ?_ ?_ n 0 H 1000 (by omega) (by omega) ⟨oH, A, T, R, 0, pH, fun z hz' => ⟨(hz z hz').1, (hz z hz').2.1, (hz z hz').2.2, lb_0 z⟩⟩
    · rintro q c H hc ⟨oH, A, T, R, O, pH, aH⟩ nx
      have pq : pP H b n ops am ms := pp.kept (fun y h1 h2 => oH.1 y (by omega))
      refine ⟨⟨_, pq.1⟩, s_P_length pq (bs_kI_i (bs_iff (nI_ge hc (by omega)) ⟨⟨_, pq.1⟩, s_P_opAt pq (by omega) (bs_kI_i ⟨⟨_, pq.1⟩, s_P_amountAt pq (by omega) (bs_kI_i ⟨⟨_, pq.1⟩, s_P_maskAt pq (by omega) (bs_kL_i ⟨⟨_, pH.1⟩, ?_⟩)⟩)⟩)⟩))⟩
      obtain ⟨e1, e2, e3⟩ := hst c hc
      rw [e1, e2, e3]
      refine s_S_perform pH hw aH (ok c hc) (fun h' A' T' R' O' p' a' o' => bs_kV_i ?_)
      rw [← nI_succ]
      exact nx _ ⟨oH.trans o', A', T', R', O', p', a'⟩
    · rintro q H ⟨oH, A, T, R, O, pH, aH⟩
      have pq : pP H b n ops am ms := pp.kept (fun y h1 h2 => oH.1 y (by omega))
      exact ⟨⟨_, pq.1⟩, s_P_length pq (bs_kI_i (bs_ift (nI_le (by omega) (by omega)) (k _ _ _ _ _ pH aH oH)))⟩
end SP
