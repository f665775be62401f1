/-! The reference: all steps; check, origins, constant, run. -/
theorem IR.sym {Y w kc n : Nat} {th : Int32} {f : Nat → Nat} {ks : bs_Ks} {st : bs_St} {h h' : bs_H} (i : IR Y th w f kc ks n st h) (c : rSym Y h') (o : offQ Y h h') : IR Y th w f kc ks n st h' := by
  obtain ⟨i0, i1, i2, i3, i4, i5, i6, i7, i8⟩ := i
  have s1 : same Y (Y + 6) h h' := fun b h1 h2 => o.1 b (by omega)
  have s2 : same (Y + 12) (Y + 23) h h' := fun b h1 h2 => o.1 b (by omega)
  exact ⟨i0, i1.kept (s1 _ (by omega) (by omega)), i2.kept (s1 _ (by omega) (by omega)), i3.kept (s1.sub (by omega) (by omega)), i4.kept (s1.sub (by omega) (by omega)), c, i6.kept (s2.sub (by omega) (by omega)), i7.kept (s2.sub (by omega) (by omega)), i8.kept (s2.sub (by omega) (by omega))⟩
section SGA
variable {Φ : bs_R → bs_H → Prop} {h : bs_H} {Y w n kc : Nat} {th : Int32} {f : Nat → Nat} {ks : bs_Ks} {st : bs_St}
theorem s_R_goAll (i : IR Y th w f kc ks n st h) (ok : okS w n st) (hop : ∀ z, z < n → opL (st z).1) (k : ∀ h' ga gt gr go gl, IR Y th w f kc ks n st h' → qS Y th w n kc h' ga gt gr go gl → ag w (syN w st n) ga gt gr go → offR Y h h' → Φ (.ok none) h') : w_R_goAll Φ Y h := by
  have hw := i.1.2.1
  have hn := i.1.2.2.2.2
  obtain ⟨ga, gt, gr, go, gl, p7, p8, p9, p10, p11⟩ := i.2.2.2.2.2.1
  show w_R_goAll_2 Φ 1000 Y (nI 0) h
  refine bs_for (σ := bs_H) (fun q c H => w_R_goAll_2 Φ q Y (nI c) H) (fun c H => offQ Y h H ∧ ∃ A T R O, qS Y th w n kc H A T R O gl ∧ ∀ z, z < c → A z = bs_shl 1 (nI z) ∧ T z = 0 ∧ R z = 0 ∧ O z = false) w ?_ ?_ w 0 h 1000 (by omega) (by omega) ⟨offQ.refl Y h, ga, gt, gr, go, ⟨i.2.1, p7, p8, p9, p10, p11⟩, fun z hz => by omega⟩
  · rintro q c H hc ⟨oH, A, T, R, O, pH, hz⟩ nx
    refine bs_fI_i pH.1 rfl (bs_iff (nI_ge hc (by omega)) (bs_fA_i pH.1 rfl (bs_sL_i c pH.2.1 rfl (by omega) (by decide) ?_)))
    have p2 := pH.a (va_up A c (bs_shl 1 (nI c)))
    refine bs_fA_i p2.1 rfl (bs_sL_i c p2.2.2.1 rfl (by omega) (by decide) ?_)
    have p3 := p2.t (va_up T c 0)
    refine bs_fA_i p3.1 rfl (bs_sL_i c p3.2.2.2.1 rfl (by omega) (by decide) ?_)
    have p4 := p3.r (va_up R c 0)
    refine bs_fA_i p4.1 rfl (bs_sZ_i (b := false) c p4.2.2.2.2.1 rfl (by omega) (by decide) ?_)
    rw [bz_up, ← nI_succ]
    refine nx _ ⟨(((oH.set (by omega)).set (by omega)).set (by omega)).set (by omega), _, _, _, _, p4.o (va_up O c false), fun z hz' => ?_⟩
    by_cases hzc : z = c
    · subst hzc; rw [bs_up_eq, bs_up_eq, bs_up_eq, bs_up_eq]; exact ⟨rfl, rfl, rfl, rfl⟩
    · rw [bs_up_ne _ _ hzc, bs_up_ne _ _ hzc, bs_up_ne _ _ hzc, bs_up_ne _ _ hzc]; exact hz z (by omega)
  · rintro q H ⟨oH, A, T, R, O, pH, hz⟩
    refine bs_fI_i pH.1 rfl (bs_ift (nI_le (by omega) (by omega)) ?_)
    show w_R_goAll_48 Φ 1000 Y (nI 0) H
    obtain ⟨o, am, ms, r1, r2, r3, hst⟩ := i.2.2.2.1
    refine bs_for (σ := bs_H) (fun q c H => w_R_goAll_48 Φ q Y (nI c) H) (fun c H => offQ Y h H ∧ ∃ A T R O L, qS Y th w n kc H A T R O L ∧ ag w (syN w st c) A T R O) n ?_ ?_ n 0 H 1000 (by omega) (by omega) ⟨oH, A, T, R, O, gl, pH, fun z hz' => hz z hz'⟩
    · rintro q c H hc ⟨oH, A, T, R, O, L, pH, aH⟩ nx
      obtain ⟨e1, e2, e3⟩ := hst c hc
      refine bs_fI_i pH.1 rfl (bs_iff (nI_ge hc (by omega)) ⟨⟨_, pH.1⟩, s_R_go pH hw aH ((oH.1 _ (by omega)).trans r1) ((oH.1 _ (by omega)).trans r2) ((oH.1 _ (by omega)).trans r3) (by omega) (by rw [e1, e2, e3]; exact ok c hc) (by rw [e1]; exact hop c hc) (fun h' A' T' R' O' L' p' a' o' => bs_kV_i ?_)⟩)
      rw [← nI_succ]
      rw [e1, e2, e3] at a'
      exact nx _ ⟨oH.trans o', A', T', R', O', L', p', a'⟩
    · rintro q H ⟨oH, A, T, R, O, L, pH, aH⟩
      exact bs_fI_i pH.1 rfl (bs_ift (nI_le (by omega) (by omega)) (k _ _ _ _ _ _ (i.sym ⟨A, T, R, O, L, pH.2⟩ oH) pH aH oH.r))
theorem s_R_check (i : IR Y th w f kc ks n st h) (ok : okS w n st) (hop : ∀ z, z < n → opL (st z).1) (k : ∀ h', IR Y 0 w f kc ks n st h' → offR Y h h' → Φ (.ok (some (.int (nI (chk w f (syN w st n) w 0))))) h') : w_R_check Φ Y h := by
  have hw := i.1.2.1
  refine s_R_th i 0 fun i1 o1 => ⟨⟨_, i1.2.1⟩, s_R_goAll i1 ok hop (fun h' ga gt gr go gl i' p' a' o' => bs_kV_i ?_)⟩
  obtain ⟨g, p, q⟩ := i'.2.2.1
  have lp : ∀ (m c fu : Nat), c + m = w → m < fu → chk w f (syN w st n) w 0 = chk w f (syN w st n) m c → w_R_check_11 Φ fu Y (nI c) h' := by
    intro m
    induction m with
    | zero =>
      intro c fu hc hfu he
      obtain ⟨fu, rfl⟩ : ∃ fu', fu = fu' + 1 := ⟨fu - 1, by omega⟩
      refine bs_fI_i i'.2.1 rfl (bs_ift (nI_le (by omega) (by omega)) ?_)
      have := k h' i' (o1.trans o')
      rw [he] at this
      exact this
    | succ m ih =>
      intro c fu hc hfu he
      obtain ⟨fu, rfl⟩ : ∃ fu', fu = fu' + 1 := ⟨fu - 1, by omega⟩
      obtain ⟨-, -, a3, a4⟩ := a' c (by omega)
      obtain ⟨q1, q2⟩ := q c (by omega)
      have stp : ∀ b : Bool, rightB f (syN w st n) c = b → w_R_check_86 Φ (w_R_check_11 Φ fu) Y (nI c) (bz b) h' := by
        intro b hb
        refine bs_ifz (fun hf => ?_) (fun ht => ?_)
        · have := k h' i' (o1.trans o')
          rw [he, chk, if_neg (by rw [hb, hf]; exact (fun q => by cases q)), nI_succ] at this
          exact this
        · rw [← nI_succ]
          refine ih (c + 1) fu (by omega) (by omega) ?_
          rw [he, chk, if_pos (by rw [hb, ht])]
      have e65 : (g c = 65) ↔ f c = 65 := by rw [q1]; exact nI_eq (a := f c) (b := 65) (by omega) (by decide)
      have e64 : (g c = 64) ↔ f c = 64 := by rw [q1]; exact nI_eq (a := f c) (b := 64) (by omega) (by decide)
      have last : ∀ due : Int64, ¬ f c = 65 → (due = if f c = 64 then 0 else bs_shl 1 (nI (f c))) → go c = false → w_R_check_77 Φ (w_R_check_11 Φ fu) Y (nI c) (gr c) due h' := by
        intro due h65 hd hg
        have er : rightB f (syN w st n) c = decide (gr c = due) := by unfold rightB; rw [if_neg h65, ← hd, ← a3, ← a4, hg]; simp
        exact bs_ifc (fun hc => stp true (by rw [er, decide_eq_true hc])) (fun hc => stp false (by rw [er, decide_eq_false hc]))
      refine bs_fI_i i'.2.1 rfl (bs_iff (nI_ge (by omega) (by omega)) (bs_fA_i i'.2.1 rfl (bs_lI_i c p rfl (by omega) (by decide) (bs_ife e65 (fun h65 => ?_) (fun h65 => bs_fA_i i'.2.1 rfl (bs_lZ_i c p'.2.2.2.2.1 rfl (by omega) (by decide) (bs_ifz (fun hg => ?_) (fun hg => ?_))))))))
      · refine bs_fA_i i'.2.1 rfl (bs_lZ_i c p'.2.2.2.2.1 rfl (by omega) (by decide) (stp (go c) ?_))
        unfold rightB; rw [if_pos h65, ← a4]
      · refine bs_fA_i i'.2.1 rfl (bs_lL_i c p'.2.2.2.1 rfl (by omega) (by decide) (bs_fA_i i'.2.1 rfl (bs_lI_i c p rfl (by omega) (by decide) (bs_ife e64 (fun h64 => ?_) (fun h64 => bs_fA_i i'.2.1 rfl (bs_lI_i c p rfl (by omega) (by decide) ?_))))))
        · exact last 0 h65 (by rw [if_pos h64]) hg
        · exact last _ h65 (by rw [if_neg h64, q1]) hg
      · refine stp false ?_
        unfold rightB; rw [if_neg h65, ← a4, hg]; simp
  exact lp w 0 1000 (by omega) (by omega) rfl
theorem s_R_origins (i : IR Y th w f kc ks n st h) (ok : okS w n st) (hop : ∀ z, z < n → opL (st z).1) (x : Int32) (ke : ¬ (0 ≤ x.toInt ∧ x.toInt < w) → ∀ h', IR Y 1 w f kc ks n st h' → offR Y h h' → Φ (.ok (some (.long 0))) h') (ko : ∀ j, j < w → x = nI j → ∀ h', IR Y 0 w f kc ks n st h' → offR Y h h' → Φ (.ok (some (.long ((syN w st n).2.2.1 j)))) h') : w_R_origins Φ Y x h := by
  have hw := i.1.2.1
  refine ⟨⟨_, i.2.1⟩, s_R_noBit i x (bs_kI_i (bs_ifz (fun hc => ?_) (fun hc => ?_)))⟩
  · obtain ⟨j, hj, rfl⟩ := nI_between (Decidable.not_not.mp (of_decide_eq_false hc))
    refine s_R_th i 0 fun i1 o1 => bs_fI_i i1.2.1 rfl (bs_ift rfl ⟨⟨_, i1.2.1⟩, s_R_goAll i1 ok hop (fun h' ga gt gr go gl i' p' a' o' => bs_kV_i (bs_fA_i i'.2.1 rfl (bs_lL_i j p'.2.2.2.1 rfl (by omega) (by decide) ?_)))⟩)
    rw [(a' j hj).2.2.1]
    exact ko j hj rfl h' i' (o1.trans o')
  · exact s_R_th i 1 fun i' o' => bs_fI_i i'.2.1 rfl (bs_iff (by decide) (ke (of_decide_eq_true hc) _ i' o'))
theorem s_R_constant (i : IR Y th w f kc ks n st h) (ok : okS w n st) (hop : ∀ z, z < n → opL (st z).1) (x : Int32) (ke : ¬ (0 ≤ x.toInt ∧ x.toInt < w) → ∀ h', IR Y 1 w f kc ks n st h' → offR Y h h' → Φ (.ok (some (.int 0))) h') (ko : ∀ j, j < w → x = nI j → ∀ h', IR Y 0 w f kc ks n st h' → offR Y h h' → Φ (.ok (some (.int (bz ((syN w st n).2.2.2 j))))) h') : w_R_constant Φ Y x h := by
  have hw := i.1.2.1
  refine ⟨⟨_, i.2.1⟩, s_R_noBit i x (bs_kI_i (bs_ifz (fun hc => ?_) (fun hc => ?_)))⟩
  · obtain ⟨j, hj, rfl⟩ := nI_between (Decidable.not_not.mp (of_decide_eq_false hc))
    refine s_R_th i 0 fun i1 o1 => bs_fI_i i1.2.1 rfl (bs_ift rfl ⟨⟨_, i1.2.1⟩, s_R_goAll i1 ok hop (fun h' ga gt gr go gl i' p' a' o' => bs_kV_i (bs_fA_i i'.2.1 rfl (bs_lZ_i j p'.2.2.2.2.1 rfl (by omega) (by decide) (bs_rZ_b ?_))))⟩)
    rw [(a' j hj).2.2.2]
    exact ko j hj rfl h' i' (o1.trans o')
  · exact s_R_th i 1 fun i' o' => bs_fI_i i'.2.1 rfl (bs_iff (by decide) (bs_rZ_0 (ke (of_decide_eq_true hc) _ i' o')))
/-- a bit of the run's result -/
def ruB (q : sy_S) (x : Int64) (k : Nat) : Bool := !decide ((q.2.2.1 k &&& x) = 0) || q.2.2.2 k
theorem s_R_run (i : IR Y th w f kc ks n st h) (ok : okS w n st) (hop : ∀ z, z < n → opL (st z).1) (x : Int64) (ko : ∀ h', IR Y 0 w f kc ks n st h' → offR Y h h' → Φ (.ok (some (.long (lb_of (ruB (syN w st n) x) w)))) h') : w_R_run Φ Y x h := by
  have hw := i.1.2.1
  refine s_R_th i 0 fun i1 o1 => ⟨⟨_, i1.2.1⟩, s_R_goAll i1 ok hop (fun h' ga gt gr go gl i' p' a' o' => bs_kV_i ?_)⟩
  show w_R_run_14 Φ 1000 Y x 0 (nI 0) h'
  refine bs_for (σ := Int64) (fun q c s => w_R_run_14 Φ q Y x s (nI c) h') (fun c s => s = lb_of (ruB (syN w st n) x) c) w ?_ ?_ w 0 0 1000 (by omega) (by omega) rfl
  · intro q c s hc hs nx
    obtain ⟨-, -, a3, a4⟩ := a' c hc
    have yes : ruB (syN w st n) x c = true → w_R_run_47 Φ (w_R_run_14 Φ q) Y x s (nI c) h' := by
      intro hb
      show w_R_run_14 Φ q Y x (s ||| bs_shl 1 (nI c)) (nI c + 1) h'
      rw [← nI_succ]
      exact nx _ (by rw [lb_of, if_pos hb, hs])
    refine bs_fI_i i'.2.1 rfl (bs_iff (nI_ge hc (by omega)) (bs_fA_i i'.2.1 rfl (bs_lL_i c p'.2.2.2.1 rfl (by omega) (by decide) (bs_ifc (fun hz => bs_fA_i i'.2.1 rfl (bs_lZ_i c p'.2.2.2.2.1 rfl (by omega) (by decide) (bs_ifz (fun hg => ?_) (fun hg => ?_)))) (fun hz => ?_)))))
    · show w_R_run_14 Φ q Y x s (nI c + 1) h'
      rw [← nI_succ]
      have hb : ruB (syN w st n) x c = false := by unfold ruB; rw [← a3, ← a4, hg, decide_eq_true hz]; rfl
      exact nx _ (by rw [lb_of, if_neg (by rw [hb]; exact (fun q => by cases q)), hs])
    · exact yes (by unfold ruB; rw [← a4, hg]; simp)
    · exact yes (by unfold ruB; rw [← a3, decide_eq_false hz]; simp)
  · intro q s hs
    refine bs_fI_i i'.2.1 rfl (bs_ift (nI_le (by omega) (by omega)) ?_)
    rw [hs]
    exact ko h' i' (o1.trans o')
end SGA
