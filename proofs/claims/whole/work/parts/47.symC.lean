/-! The class: check, origins, constant. -/
theorem IC.sym {X w kc n : Nat} {f : Nat → Nat} {ks : bs_Ks} {st : bs_St} {h h' : bs_H} (i : IC X w f kc ks n st h) (c : cSym X h') (o : offS (X + 27) h h') : IC X w f kc ks n st h' := by
  obtain ⟨i0, i1, i2, i3, i4, i5, i6, i7, i8, i9, i10⟩ := i
  have s1 : same X (X + 26) h h' := fun b h1 h2 => o.1 b (by omega)
  have s2 : same (X + 31) (X + 37) h h' := fun b h1 h2 => o.1 b (by omega)
  exact ⟨i0, i1.kept (s1 _ (by omega) (by omega)), i2.kept (s1.sub (by omega) (by omega)), i3.kept (s1.sub (by omega) (by omega)), i4.kept (s1 _ (by omega) (by omega)), i5.kept (s1.sub (by omega) (by omega)), i6.kept (s1.sub (by omega) (by omega)), i7.kept (s1 _ (by omega) (by omega)), c, i9.kept (s2.sub (by omega) (by omega)), i10.kept (s2.sub (by omega) (by omega))⟩
theorem offS.c {X : Nat} {h h' : bs_H} (o : offS (X + 27) h h') : offC X h h' := ⟨fun b hb => o.1 b (by omega), o.2⟩
/-- is bit k right -/
def rightB (f : Nat → Nat) (q : sy_S) (k : Nat) : Bool := if f k = 65 then q.2.2.2 k else decide (q.2.2.1 k = if f k = 64 then 0 else bs_shl 1 (nI (f k))) && !q.2.2.2 k
/-- the first bit that is not right, counted from 1; or 0 -/
def chk (w : Nat) (f : Nat → Nat) (q : sy_S) : Nat → Nat → Nat
  | 0, _ => 0
  | m + 1, k => if rightB f q k = true then chk w f q m (k + 1) else k + 1
section SC
variable {Φ : bs_R → bs_H → Prop} {h : bs_H} {X w kc n : Nat} {f : Nat → Nat} {ks : bs_Ks} {st : bs_St}
theorem s_S_hasOne {s : Nat} {ga gt gr : Nat → Int64} {o : Int64} (p : pS h s w ga gt gr o) {j : Nat} (hj : j < 64) (k : Φ (.ok (some (.int (bz (lb o j))))) h) : w_S_hasOne Φ s (nI j) h := bs_fL_i p.1 rfl (s_B_holds hj (bs_kI_i (bs_rZ_b k)))
theorem s_S_isRight {s : Nat} {ga gt gr : Nat → Int64} {o : Int64} (p : pS h s w ga gt gr o) (hw : w ≤ 64) {q : sy_S} (a : ag w q ga gt gr (lb o)) {j : Nat} (hj : j < w) (hf : f j ≤ 65) (k : Φ (.ok (some (.int (bz (rightB f q j))))) h) : w_S_isRight Φ s (nI j) (nI (f j)) h := by
  have e65 : (nI (f j) = 65) ↔ f j = 65 := nI_eq (a := f j) (b := 65) (by omega) (by decide)
  have e64 : (nI (f j) = 64) ↔ f j = 64 := nI_eq (a := f j) (b := 64) (by omega) (by decide)
  obtain ⟨-, -, a3, a4⟩ := a j hj
  have rest : ∀ due : Int64, f j ≠ 65 → due = (if f j = 64 then 0 else bs_shl 1 (nI (f j))) → w_S_isRight_25 Φ s (nI j) due h := by
    intro due h65 hd
    have er : rightB f q j = (decide (gr j = due) && !lb o j) := by unfold rightB; rw [if_neg h65, ← hd, a3, a4]
    refine bs_fA_i p.1 rfl (bs_lL_i j p.2.2.2 rfl (by omega) (by decide) (bs_ifc (fun hc => ⟨⟨_, p.1⟩, s_S_hasOne p (by omega) (bs_kI_i (bs_ifz (fun hb => ?_) (fun hb => ?_)))⟩) (fun hc => ?_)))
    · exact bs_rZ_1 (by rw [er, hb, decide_eq_true hc] at k; exact k)
    · exact bs_rZ_0 (by rw [er, hb, decide_eq_true hc] at k; exact k)
    · exact bs_rZ_0 (by rw [er, decide_eq_false hc] at k; exact k)
  refine bs_ife e65 (fun h65 => ⟨⟨_, p.1⟩, s_S_hasOne p (by omega) (bs_kI_i (bs_rZ_b ?_))⟩) (fun h65 => bs_ife e64 (fun h64 => ?_) (fun h64 => ?_))
  · have er : rightB f q j = lb o j := by unfold rightB; rw [if_pos h65, a4]
    rw [← er]; exact k
  · exact rest 0 h65 (by rw [if_pos h64])
  · exact rest _ h65 (by rw [if_neg h64])
/-- the class's trace, in its place -/
theorem s_B_trace (i : IC X w f kc ks n st h) (ok : okS w n st) (k : ∀ h' ga gt gr o, IC X w f kc ks n st h' → pS h' (X + 27) w ga gt gr o → ag w (syN w st n) ga gt gr (lb o) → offC X h h' → Φ (.ok none) h') : w_S_trace Φ (X + 27) (X + 22) (nI w) h := by
  obtain ⟨v1, v2, ga, gt, gr, p1, p2, p3, p4⟩ := i.2.2.2.2.2.2.2.2.1
  obtain ⟨o, am, m, p, q⟩ := i.2.2.2.2.2.2.1
  refine s_S_trace ⟨p1, p2, p3, p4⟩ i.1.2.1 i.1.2.2.2.2 p q ok (by omega) (fun h' ga' gt' gr' o' pS' ag' oS' => k h' ga' gt' gr' o' (i.sym ⟨o', nI w, ga', gt', gr', pS'.1, pS'.2.1, pS'.2.2.1, pS'.2.2.2⟩ oS') pS' ag' oS'.c)
theorem s_B_check (i : IC X w f kc ks n st h) (ok : okS w n st) (k : ∀ h', IC X w f kc ks n st h' → offC X h h' → Φ (.ok (some (.int (nI (chk w f (syN w st n) w 0))))) h') : w_B_check Φ X h := by
  have hw := i.1.2.1
  obtain ⟨g, p, q⟩ := i.2.2.1
  obtain ⟨v1, v2, ga, gt, gr, p1, p2, p3, p4⟩ := i.2.2.2.2.2.2.2.2.1
  refine bs_fA_i i.2.1 rfl (bs_fA_i i.2.1 rfl (bs_fA_i i.2.1 rfl ⟨⟨_, p.1⟩, s_M_bits p (bs_kI_i ⟨⟨_, p1⟩, s_B_trace i ok (fun h' ga gt gr o i' p' a' o' => bs_kV_i ?_)⟩)⟩))
  obtain ⟨g, p, q⟩ := i'.2.2.1
  have lp : ∀ (m c fu : Nat), c + m = w → m < fu → chk w f (syN w st n) w 0 = chk w f (syN w st n) m c → w_B_check_20 Φ fu X (nI c) h' := by
    intro m
    induction m with
    | zero =>
      intro c fu hc hfu he
      obtain ⟨fu, rfl⟩ : ∃ fu', fu = fu' + 1 := ⟨fu - 1, by omega⟩
      refine bs_fA_i i'.2.1 rfl ⟨⟨_, p.1⟩, s_M_bits p (bs_kI_i (bs_ift (nI_le (by omega) (by omega)) ?_))⟩
      have := k h' i' o'
      rw [he] at this
      exact this
    | succ m ih =>
      intro c fu hc hfu he
      obtain ⟨fu, rfl⟩ : ∃ fu', fu = fu' + 1 := ⟨fu - 1, by omega⟩
      refine bs_fA_i i'.2.1 rfl ⟨⟨_, p.1⟩, s_M_bits p (bs_kI_i (bs_iff (nI_ge (by omega) (by omega)) (bs_fA_i i'.2.1 rfl (bs_fA_i i'.2.1 rfl ⟨⟨_, p.1⟩, s_M_sourceOf p (by omega) (bs_kI_i ⟨⟨_, p'.1⟩, ?_⟩)⟩))))⟩
      rw [(q c (by omega)).1]
      refine s_S_isRight p' hw a' (by omega) (q c (by omega)).2 (bs_kI_i (bs_ifz (fun hb => ?_) (fun hb => ?_)))
      · have := k h' i' o'
        rw [he, chk, if_neg (by rw [hb]; exact (fun q => by cases q)), nI_succ] at this
        exact this
      · rw [← nI_succ]
        refine ih (c + 1) fu (by omega) (by omega) ?_
        rw [he, chk, if_pos hb]
  exact lp w 0 1000 (by omega) (by omega) rfl
theorem s_B_origins (i : IC X w f kc ks n st h) (ok : okS w n st) (x : Int32) (ke : ¬ (0 ≤ x.toInt ∧ x.toInt < w) → bud h 1 ∧ Φ (.error "java/lang/IllegalArgumentException") (bs_thrown h)) (ko : ∀ j, j < w → x = nI j → ∀ h', IC X w f kc ks n st h' → offC X h h' → Φ (.ok (some (.long ((syN w st n).2.2.1 j)))) h') : w_B_origins Φ X x h := by
  have hw := i.1.2.1
  refine ⟨⟨_, i.2.1⟩, s_B_requireBit i x (fun hc => ⟨(ke hc).1, bs_kV_e (ke hc).2⟩) (fun j hj hx => bs_kV_i ?_)⟩
  subst hx
  obtain ⟨g, p, q⟩ := i.2.2.1
  obtain ⟨v1, v2, ga, gt, gr, p1, p2, p3, p4⟩ := i.2.2.2.2.2.2.2.2.1
  refine bs_fA_i i.2.1 rfl (bs_fA_i i.2.1 rfl (bs_fA_i i.2.1 rfl ⟨⟨_, p.1⟩, s_M_bits p (bs_kI_i ⟨⟨_, p1⟩, s_B_trace i ok (fun h' ga gt gr o i' p' a' o' => bs_kV_i ?_)⟩)⟩))
  refine bs_fA_i i'.2.1 rfl ⟨⟨_, p'.1⟩, bs_fA_i p'.1 rfl (bs_lL_i j p'.2.2.2 rfl (by omega) (by decide) (bs_kL_i ?_))⟩
  rw [(a' j hj).2.2.1]
  exact ko j hj rfl h' i' o'
theorem s_B_constant (i : IC X w f kc ks n st h) (ok : okS w n st) (x : Int32) (ke : ¬ (0 ≤ x.toInt ∧ x.toInt < w) → bud h 1 ∧ Φ (.error "java/lang/IllegalArgumentException") (bs_thrown h)) (ko : ∀ j, j < w → x = nI j → ∀ h', IC X w f kc ks n st h' → offC X h h' → Φ (.ok (some (.int (bz ((syN w st n).2.2.2 j))))) h') : w_B_constant Φ X x h := by
  have hw := i.1.2.1
  refine ⟨⟨_, i.2.1⟩, s_B_requireBit i x (fun hc => ⟨(ke hc).1, bs_kV_e (ke hc).2⟩) (fun j hj hx => bs_kV_i ?_)⟩
  subst hx
  obtain ⟨g, p, q⟩ := i.2.2.1
  obtain ⟨v1, v2, ga, gt, gr, p1, p2, p3, p4⟩ := i.2.2.2.2.2.2.2.2.1
  refine bs_fA_i i.2.1 rfl (bs_fA_i i.2.1 rfl (bs_fA_i i.2.1 rfl ⟨⟨_, p.1⟩, s_M_bits p (bs_kI_i ⟨⟨_, p1⟩, s_B_trace i ok (fun h' ga gt gr o i' p' a' o' => bs_kV_i ?_)⟩)⟩))
  refine bs_fA_i i'.2.1 rfl ⟨⟨_, p'.1⟩, s_S_hasOne p' (by omega) (bs_kI_i (bs_rZ_b ?_))⟩
  rw [(a' j hj).2.2.2]
  exact ko j hj rfl h' i' o'
end SC
