/-! The reference's object at Y, its rows Y + 1 .. Y + 23; the same state. -/
abbrev rF (Y : Nat) (th : Int32) (w n kc : Nat) : List Value := [.int th, .int (nI w), .ref (Y + 1), .int (nI n), .ref (Y + 2), .ref (Y + 3), .ref (Y + 4), .int (nI kc), .ref (Y + 5), .ref (Y + 6), .ref (Y + 7), .ref (Y + 8), .ref (Y + 9), .ref (Y + 10), .ref (Y + 11), .ref (Y + 12), .ref (Y + 13), .ref (Y + 14), .ref (Y + 15), .ref (Y + 16), .ref (Y + 17), .ref (Y + 18), .ref (Y + 19), .ref (Y + 20), .ref (Y + 21), .ref (Y + 22), .ref (Y + 23)]
def rO (Y : Nat) (th : Int32) (w n kc : Nat) (h : bs_H) : Prop := h.1 Y = some (bs_obj 7 (rF Y th w n kc))
def rMap (Y w : Nat) (f : Nat → Nat) (h : bs_H) : Prop := ∃ g, h.1 (Y + 1) = some (bs_ia 64 g) ∧ gM w f g
def rPro (Y n : Nat) (st : bs_St) (h : bs_H) : Prop := ∃ o am m, h.1 (Y + 2) = some (bs_ia 400 o) ∧ h.1 (Y + 3) = some (bs_ia 400 am) ∧ h.1 (Y + 4) = some (bs_la 400 m) ∧ ∀ i, i < n → o i = (st i).1 ∧ am i = (st i).2.1 ∧ m i = (st i).2.2
def rKep (Y kc : Nat) (ks : bs_Ks) (h : bs_H) : Prop := ∃ kw km, h.1 (Y + 5) = some (bs_ia 8 kw) ∧ h.1 (Y + 6) = some (bs_ia 512 km) ∧ ∀ k, k < kc → kw k = nI (ks k).1 ∧ 1 ≤ (ks k).1 ∧ (ks k).1 ≤ 64 ∧ okF (ks k).1 (ks k).2 ∧ ∀ b, b < (ks k).1 → km (64 * k + b) = nI ((ks k).2 b)
def rSym (Y : Nat) (h : bs_H) : Prop := ∃ (ga gt gr : Nat → Int64) (go : Nat → Bool) (gl : Nat → Int64), h.1 (Y + 7) = some (bs_la 64 ga) ∧ h.1 (Y + 8) = some (bs_la 64 gt) ∧ h.1 (Y + 9) = some (bs_la 64 gr) ∧ h.1 (Y + 10) = some (bs_za 64 (fun k => bz (go k))) ∧ h.1 (Y + 11) = some (bs_la 64 gl)
def rSwp (Y : Nat) (h : bs_H) : Prop := ∃ g1 g2 g3 g4 g5 g6, h.1 (Y + 12) = some (bs_ia 64 g1) ∧ h.1 (Y + 13) = some (bs_ia 64 g2) ∧ h.1 (Y + 14) = some (bs_ia 64 g3) ∧ h.1 (Y + 15) = some (bs_ia 64 g4) ∧ h.1 (Y + 16) = some (bs_la 7 g5) ∧ h.1 (Y + 17) = some (bs_la 7 g6)
def rGat (Y : Nat) (h : bs_H) : Prop := ∃ g1 g2 g3, h.1 (Y + 18) = some (bs_ia 64 g1) ∧ h.1 (Y + 19) = some (bs_la 64 g2) ∧ h.1 (Y + 20) = some (bs_la 64 g3)
def rLea (Y : Nat) (h : bs_H) : Prop := ∃ g1 g2 g3, h.1 (Y + 21) = some (bs_ia 256 g1) ∧ h.1 (Y + 22) = some (bs_ia 4 g2) ∧ h.1 (Y + 23) = some (bs_ia 64 g3)
theorem rO.kept {Y w n kc : Nat} {th : Int32} {h h' : bs_H} (c : rO Y th w n kc h) (s : h'.1 Y = h.1 Y) : rO Y th w n kc h' := s.trans c
theorem rMap.kept {Y w : Nat} {f : Nat → Nat} {h h' : bs_H} (c : rMap Y w f h) (s : h'.1 (Y + 1) = h.1 (Y + 1)) : rMap Y w f h' := by
  obtain ⟨g, p, q⟩ := c
  exact ⟨g, s.trans p, q⟩
theorem rPro.kept {Y n : Nat} {st : bs_St} {h h' : bs_H} (c : rPro Y n st h) (s : same (Y + 2) (Y + 4) h h') : rPro Y n st h' := by
  obtain ⟨o, am, m, p1, p2, p3, q⟩ := c
  exact ⟨o, am, m, (s _ (by omega) (by omega)).trans p1, (s _ (by omega) (by omega)).trans p2, (s _ (by omega) (by omega)).trans p3, q⟩
theorem rKep.kept {Y kc : Nat} {ks : bs_Ks} {h h' : bs_H} (c : rKep Y kc ks h) (s : same (Y + 5) (Y + 6) h h') : rKep Y kc ks h' := by
  obtain ⟨kw, km, p1, p2, q⟩ := c
  exact ⟨kw, km, (s _ (by omega) (by omega)).trans p1, (s _ (by omega) (by omega)).trans p2, q⟩
theorem rSym.kept {Y : Nat} {h h' : bs_H} (c : rSym Y h) (s : same (Y + 7) (Y + 11) h h') : rSym Y h' := by
  obtain ⟨a, b, c, d, e, p1, p2, p3, p4, p5⟩ := c
  exact ⟨a, b, c, d, e, (s _ (by omega) (by omega)).trans p1, (s _ (by omega) (by omega)).trans p2, (s _ (by omega) (by omega)).trans p3, (s _ (by omega) (by omega)).trans p4, (s _ (by omega) (by omega)).trans p5⟩
theorem rSwp.kept {Y : Nat} {h h' : bs_H} (c : rSwp Y h) (s : same (Y + 12) (Y + 17) h h') : rSwp Y h' := by
  obtain ⟨a, b, c, d, e, f, p1, p2, p3, p4, p5, p6⟩ := c
  exact ⟨a, b, c, d, e, f, (s _ (by omega) (by omega)).trans p1, (s _ (by omega) (by omega)).trans p2, (s _ (by omega) (by omega)).trans p3, (s _ (by omega) (by omega)).trans p4, (s _ (by omega) (by omega)).trans p5, (s _ (by omega) (by omega)).trans p6⟩
theorem rGat.kept {Y : Nat} {h h' : bs_H} (c : rGat Y h) (s : same (Y + 18) (Y + 20) h h') : rGat Y h' := by
  obtain ⟨a, b, c, p1, p2, p3⟩ := c
  exact ⟨a, b, c, (s _ (by omega) (by omega)).trans p1, (s _ (by omega) (by omega)).trans p2, (s _ (by omega) (by omega)).trans p3⟩
theorem rLea.kept {Y : Nat} {h h' : bs_H} (c : rLea Y h) (s : same (Y + 21) (Y + 23) h h') : rLea Y h' := by
  obtain ⟨a, b, c, p1, p2, p3⟩ := c
  exact ⟨a, b, c, (s _ (by omega) (by omega)).trans p1, (s _ (by omega) (by omega)).trans p2, (s _ (by omega) (by omega)).trans p3⟩
def IR (Y : Nat) (th : Int32) (w : Nat) (f : Nat → Nat) (kc : Nat) (ks : bs_Ks) (n : Nat) (st : bs_St) (h : bs_H) : Prop :=
  (1 ≤ w ∧ w ≤ 64 ∧ okF w f ∧ kc ≤ 8 ∧ n ≤ 192) ∧ rO Y th w n kc h ∧ rMap Y w f h ∧ rPro Y n st h ∧ rKep Y kc ks h ∧ rSym Y h ∧ rSwp Y h ∧ rGat Y h ∧ rLea Y h
theorem IR.kept {Y w kc n : Nat} {th : Int32} {f : Nat → Nat} {ks : bs_Ks} {st : bs_St} {h h' : bs_H} (i : IR Y th w f kc ks n st h) (s : same Y (Y + 23) h h') : IR Y th w f kc ks n st h' := by
  obtain ⟨i0, i1, i2, i3, i4, i5, i6, i7, i8⟩ := i
  exact ⟨i0, i1.kept (s _ (by omega) (by omega)), i2.kept (s _ (by omega) (by omega)), i3.kept (s.sub (by omega) (by omega)), i4.kept (s.sub (by omega) (by omega)), i5.kept (s.sub (by omega) (by omega)), i6.kept (s.sub (by omega) (by omega)), i7.kept (s.sub (by omega) (by omega)), i8.kept (s.sub (by omega) (by omega))⟩
/-- the object's own fields anew -/
theorem IR.own {Y w kc n : Nat} {th th' : Int32} {f : Nat → Nat} {ks : bs_Ks} {st : bs_St} {h h' : bs_H} (i : IR Y th w f kc ks n st h) (c : rO Y th' w n kc h') (s : same (Y + 1) (Y + 23) h h') : IR Y th' w f kc ks n st h' := by
  obtain ⟨i0, i1, i2, i3, i4, i5, i6, i7, i8⟩ := i
  exact ⟨i0, c, i2.kept (s _ (by omega) (by omega)), i3.kept (s.sub (by omega) (by omega)), i4.kept (s.sub (by omega) (by omega)), i5.kept (s.sub (by omega) (by omega)), i6.kept (s.sub (by omega) (by omega)), i7.kept (s.sub (by omega) (by omega)), i8.kept (s.sub (by omega) (by omega))⟩
/-- nothing but the reference's cells has changed, and the room is as it was -/
def offR (Y : Nat) (h h' : bs_H) : Prop := (∀ b, b < Y ∨ Y + 23 < b → h'.1 b = h.1 b) ∧ h'.2 = h.2
theorem offR.refl (Y : Nat) (h : bs_H) : offR Y h h := ⟨fun _ _ => rfl, rfl⟩
theorem offR.trans {Y : Nat} {h h' h'' : bs_H} (h1 : offR Y h h') (h2 : offR Y h' h'') : offR Y h h'' := ⟨fun b hb => (h2.1 b hb).trans (h1.1 b hb), h2.2.trans h1.2⟩
theorem offR.set {Y a : Nat} {h h' : bs_H} {x : bs_E} (h1 : offR Y h h') (ha : Y ≤ a ∧ a ≤ Y + 23) : offR Y h (bs_set h' a x) := ⟨fun b hb => by rw [bs_set_ne (by omega)]; exact h1.1 b hb, h1.2⟩
section SR
variable {Φ : bs_R → bs_H → Prop} {h : bs_H} {Y w kc n : Nat} {th : Int32} {f : Nat → Nat} {ks : bs_Ks} {st : bs_St}
/-- thrown is written -/
theorem IR.thr (i : IR Y th w f kc ks n st h) (t : Int32) : IR Y t w f kc ks n st (bs_set h Y (bs_obj 7 (rF Y t w n kc))) := i.own bs_set_eq (same.set (by omega))
theorem s_R_th {Q : bs_H → Prop} (i : IR Y th w f kc ks n st h) (t : Int32) (k : IR Y t w f kc ks n st (bs_set h Y (bs_obj 7 (rF Y t w n kc))) → offR Y h (bs_set h Y (bs_obj 7 (rF Y t w n kc))) → Q (bs_set h Y (bs_obj 7 (rF Y t w n kc)))) : bs_p h Y 7 0 (.int t) Q := bs_p_i i.2.1 (by simp) rfl (k (i.thr t) ((offR.refl Y h).set (by omega)))
theorem s_R_thrown (i : IR Y th w f kc ks n st h) (k : Φ (.ok (some (.int th))) h) : w_R_thrown Φ Y h := bs_fI_i i.2.1 rfl k
theorem s_R_begin (i : IR Y th w f kc ks n st h) {j : Nat} (h1 : 1 ≤ j) (h2 : j ≤ 64) (k : ∀ h', IR Y th j (fun k => k) kc ks 0 st h' → offR Y h h' → Φ (.ok none) h') : w_R_begin Φ Y (nI j) h := by
  refine bs_p_i i.2.1 (by simp) rfl (bs_p_i bs_set_eq (by simp) rfl ?_)
  rw [bs_set_set]
  show w_R_begin_12 Φ 1000 Y (nI 0) (bs_set h Y (bs_obj 7 (rF Y th j 0 kc)))
  obtain ⟨i0, i1, ⟨g, p, q⟩, i3, i4, i5, i6, i7, i8⟩ := i
  have e : bs_set (bs_set h Y (bs_obj 7 (rF Y th j 0 kc))) (Y + 1) (bs_ia 64 g) = bs_set h Y (bs_obj 7 (rF Y th j 0 kc)) := bs_set_get (by rw [bs_set_ne (by omega)]; exact p)
  rw [← e]
  refine bs_for (σ := Nat → Int32) (fun m c G => w_R_begin_12 Φ m Y (nI c) (bs_set (bs_set h Y (bs_obj 7 (rF Y th j 0 kc))) (Y + 1) (bs_ia 64 G))) (fun c G => ∀ z, z < c → G z = nI z) 64 ?_ ?_ 64 0 g 1000 (by omega) (by omega) (fun z hz => by omega)
  · intro m c G hc hG nx
    refine bs_iff (nI_ge (b := 64) hc (by omega)) (bs_fA_i (by rw [bs_set_ne (by omega), bs_set_eq]) rfl (bs_sI_i c bs_set_eq rfl (by omega) (by decide) ?_))
    rw [bs_set_set, ← nI_succ]
    refine nx _ (fun z hz => ?_)
    by_cases hzc : z = c
    · subst hzc; rw [bs_up_eq]
    · rw [bs_up_ne _ _ hzc]; exact hG z (by omega)
  · intro m G hG
    refine bs_ift (nI_le (a := 64) (b := 64) (by omega) (by omega)) ?_
    have s : same (Y + 2) (Y + 23) h (bs_set (bs_set h Y (bs_obj 7 (rF Y th j 0 kc))) (Y + 1) (bs_ia 64 G)) := (same.set (by omega)).trans (same.set (by omega))
    refine k _ ⟨⟨h1, h2, fun z hz => Or.inl hz, i0.2.2.2.1, by omega⟩, by show (bs_set _ _ _).1 Y = _; rw [bs_set_ne (by omega), bs_set_eq], ⟨G, bs_set_eq, fun z hz => ⟨hG z (by omega), by show z ≤ 65; omega⟩⟩, ?_, i4.kept (s.sub (by omega) (by omega)), i5.kept (s.sub (by omega) (by omega)), i6.kept (s.sub (by omega) (by omega)), i7.kept (s.sub (by omega) (by omega)), i8.kept (s.sub (by omega) (by omega))⟩ (((offR.refl Y h).set (by omega)).set (by omega))
    obtain ⟨o, am, mm, p1, p2, p3, q'⟩ := i3
    exact ⟨o, am, mm, (s _ (by omega) (by omega)).trans p1, (s _ (by omega) (by omega)).trans p2, (s _ (by omega) (by omega)).trans p3, fun z hz => by omega⟩
theorem s_R_width (i : IR Y th w f kc ks n st h) (x : Int32) (ke : ¬ (1 ≤ x.toInt ∧ x.toInt ≤ 64) → ∀ h', IR Y 1 w f kc ks n st h' → offR Y h h' → Φ (.ok none) h') (ko : ∀ j, 1 ≤ j → j ≤ 64 → x = nI j → ∀ h', IR Y 0 j (fun k => k) kc ks 0 st h' → offR Y h h' → Φ (.ok none) h') : w_R_width Φ Y x h := by
  have z : (1 : Int32).toInt = 1 := rfl
  have z2 : (64 : Int32).toInt = 64 := rfl
  have err : ¬ (1 ≤ x.toInt ∧ x.toInt ≤ 64) → w_R_width_12 Φ Y x Y h := by
    intro hh
    show w_R_width_17 Φ Y x Y 1 h
    exact s_R_th i 1 fun i' o' => bs_fI_i i'.2.1 rfl (bs_iff (by decide) (ke hh _ i' o'))
  refine bs_ifc (fun hc => ?_) (fun hc => bs_ifc (fun hd => ?_) (fun hd => ?_))
  · rw [Int32.lt_iff_toInt_lt] at hc
    exact err (by omega)
  · rw [Int32.lt_iff_toInt_lt] at hc
    rw [Int32.le_iff_toInt_le] at hd
    obtain ⟨j, hj, rfl⟩ := nI_of (x := x) (by rw [Int32.lt_iff_toInt_lt]; have : (0 : Int32).toInt = 0 := rfl; omega)
    rw [nI_toInt hj] at hc hd
    refine s_R_th i 0 fun i' o' => bs_fI_i i'.2.1 rfl (bs_ift rfl ⟨⟨_, i'.2.1⟩, s_R_begin i' (by omega) (by omega) (fun h' i'' o'' => bs_kV_i ?_)⟩)
    exact ko j (by omega) (by omega) rfl _ i'' (o'.trans o'')
  · rw [Int32.le_iff_toInt_le] at hd
    exact err (by omega)
theorem s_R_noBit (i : IR Y th w f kc ks n st h) (x : Int32) (k : Φ (.ok (some (.int (bz (decide (¬ (0 ≤ x.toInt ∧ x.toInt < w))))))) h) : w_R_noBit Φ Y x h := by
  have hw := i.1.2.1
  have e : (nI w).toInt = (w : Int) := nI_toInt (by omega)
  have z : (0 : Int32).toInt = 0 := rfl
  refine bs_ifc (fun hc => ?_) (fun hc => bs_fI_i i.2.1 rfl (bs_ifc (fun hd => ?_) (fun hd => ?_)))
  · rw [Int32.lt_iff_toInt_lt] at hc
    rw [decide_eq_true (show ¬ (0 ≤ x.toInt ∧ x.toInt < w) by omega)] at k
    exact bs_rZ_1 k
  · rw [Int32.lt_iff_toInt_lt] at hc
    rw [Int32.lt_iff_toInt_lt, e] at hd
    rw [decide_eq_false (show ¬ ¬ (0 ≤ x.toInt ∧ x.toInt < w) by omega)] at k
    exact bs_rZ_0 k
  · rw [Int32.lt_iff_toInt_lt, e] at hd
    rw [decide_eq_true (show ¬ (0 ≤ x.toInt ∧ x.toInt < w) by omega)] at k
    exact bs_rZ_1 k
theorem s_R_noStep (i : IR Y th w f kc ks n st h) (x : Int32) (k : Φ (.ok (some (.int (bz (decide (¬ (0 ≤ x.toInt ∧ x.toInt < n))))))) h) : w_R_noStep Φ Y x h := by
  have hw := i.1.2.2.2.2
  have e : (nI n).toInt = (n : Int) := nI_toInt (by omega)
  have z : (0 : Int32).toInt = 0 := rfl
  refine bs_ifc (fun hc => ?_) (fun hc => bs_fI_i i.2.1 rfl (bs_ifc (fun hd => ?_) (fun hd => ?_)))
  · rw [Int32.lt_iff_toInt_lt] at hc
    rw [decide_eq_true (show ¬ (0 ≤ x.toInt ∧ x.toInt < n) by omega)] at k
    exact bs_rZ_1 k
  · rw [Int32.lt_iff_toInt_lt] at hc
    rw [Int32.lt_iff_toInt_lt, e] at hd
    rw [decide_eq_false (show ¬ ¬ (0 ≤ x.toInt ∧ x.toInt < n) by omega)] at k
    exact bs_rZ_0 k
  · rw [Int32.lt_iff_toInt_lt, e] at hd
    rw [decide_eq_true (show ¬ (0 ≤ x.toInt ∧ x.toInt < n) by omega)] at k
    exact bs_rZ_1 k
theorem nI_between {x : Int32} {m : Nat} (h : 0 ≤ x.toInt ∧ x.toInt < m) : ∃ j, j < m ∧ x = nI j := by
  obtain ⟨j, hj, rfl⟩ := nI_of (x := x) (by rw [Int32.lt_iff_toInt_lt]; have : (0 : Int32).toInt = 0 := rfl; omega)
  rw [nI_toInt hj] at h
  exact ⟨j, by omega, rfl⟩
theorem s_R_target (i : IR Y th w f kc ks n st h) (x y : Int32) (ke : ¬ ((0 ≤ x.toInt ∧ x.toInt < w) ∧ ((0 ≤ y.toInt ∧ y.toInt < w) ∨ y = 64 ∨ y = 65)) → ∀ h', IR Y 1 w f kc ks n st h' → offR Y h h' → Φ (.ok none) h') (ko : ∀ j c, j < w → (c < w ∨ c = 64 ∨ c = 65) → x = nI j → y = nI c → ∀ h', IR Y 0 w (va_up f j c) kc ks n st h' → offR Y h h' → Φ (.ok none) h') : w_R_target Φ Y x y h := by
  have err : ¬ ((0 ≤ x.toInt ∧ x.toInt < w) ∧ ((0 ≤ y.toInt ∧ y.toInt < w) ∨ y = 64 ∨ y = 65)) → w_R_target_29 Φ Y x y Y h := by
    intro hh
    show w_R_target_34 Φ Y x y Y 1 h
    exact s_R_th i 1 fun i' o' => bs_fI_i i'.2.1 rfl (bs_iff (by decide) (ke hh _ i' o'))
  have good : (0 ≤ x.toInt ∧ x.toInt < w) → ((0 ≤ y.toInt ∧ y.toInt < w) ∨ y = 64 ∨ y = 65) → w_R_target_33 Φ Y x y Y h := by
    intro hx hy
    obtain ⟨j, hj, rfl⟩ := nI_between hx
    obtain ⟨c, hcw, hyc⟩ : ∃ c, (c < w ∨ c = 64 ∨ c = 65) ∧ y = nI c := by
      rcases hy with hc | hc | hc
      · obtain ⟨c, h1, h2⟩ := nI_between hc
        exact ⟨c, Or.inl h1, h2⟩
      · exact ⟨64, Or.inr (Or.inl rfl), hc⟩
      · exact ⟨65, Or.inr (Or.inr rfl), hc⟩
    show w_R_target_34 Φ Y (nI j) y Y 0 h
    refine s_R_th i 0 fun i' o' => bs_fI_i i'.2.1 rfl (bs_ift rfl ?_)
    have hw := i.1.2.1
    have hok := i'.1
    obtain ⟨i0, i1, ⟨g, p, q⟩, i3, i4, i5, i6, i7, i8⟩ := i'
    refine bs_fA_i i1 rfl (bs_sI_i j p rfl (by omega) (by decide) ?_)
    refine ko j c hj hcw rfl hyc _ ⟨⟨i0.1, i0.2.1, fun k hk => ?_, i0.2.2.2⟩, i1.kept (bs_set_ne (by omega)), ⟨_, bs_set_eq, fun k hk => ?_⟩, i3.kept (same.set (by omega)), i4.kept (same.set (by omega)), i5.kept (same.set (by omega)), i6.kept (same.set (by omega)), i7.kept (same.set (by omega)), i8.kept (same.set (by omega))⟩ (o'.set (by omega))
    · by_cases hkj : k = j
      · subst hkj; rw [bs_up_eq]; exact hcw
      · rw [bs_up_ne _ _ hkj]; exact i0.2.2.1 k hk
    · by_cases hkj : k = j
      · subst hkj; rw [bs_up_eq, bs_up_eq]; exact ⟨hyc, by omega⟩
      · rw [bs_up_ne _ _ hkj, bs_up_ne _ _ hkj]; exact q k hk
  refine ⟨⟨_, i.2.1⟩, s_R_noBit i x (bs_kI_i (bs_ifz (fun hc => ?_) (fun hc => ?_)))⟩
  · have hx := Decidable.not_not.mp (of_decide_eq_false hc)
    refine ⟨⟨_, i.2.1⟩, s_R_noBit i y (bs_kI_i (bs_ifz (fun hd => ?_) (fun hd => ?_)))⟩
    · exact good hx (Or.inl (Decidable.not_not.mp (of_decide_eq_false hd)))
    · have hd := of_decide_eq_true hd
      exact bs_ifc (fun h1 => good hx (Or.inr (Or.inl h1))) (fun h1 => bs_ifc (fun h2 => good hx (Or.inr (Or.inr h2))) (fun h2 => err (fun z => z.2.elim hd (fun z => z.elim h1 h2))))
  · have hc := of_decide_eq_true hc
    exact err (fun z => hc z.1)
theorem s_R_source (i : IR Y th w f kc ks n st h) (x : Int32) (ke : ¬ (0 ≤ x.toInt ∧ x.toInt < w) → ∀ h', IR Y 1 w f kc ks n st h' → offR Y h h' → Φ (.ok (some (.int 0))) h') (ko : ∀ j, j < w → x = nI j → ∀ h', IR Y 0 w f kc ks n st h' → offR Y h h' → Φ (.ok (some (.int (nI (f j))))) h') : w_R_source Φ Y x h := by
  have hw := i.1.2.1
  refine ⟨⟨_, i.2.1⟩, s_R_noBit i x (bs_kI_i (bs_ifz (fun hc => ?_) (fun hc => ?_)))⟩
  · obtain ⟨j, hj, rfl⟩ := nI_between (Decidable.not_not.mp (of_decide_eq_false hc))
    refine s_R_th i 0 fun i' o' => bs_fI_i i'.2.1 rfl (bs_ift rfl ?_)
    obtain ⟨g, p, q⟩ := i'.2.2.1
    refine bs_fA_i i'.2.1 rfl (bs_lI_i j p rfl (by omega) (by decide) ?_)
    rw [(q j hj).1]
    exact ko j hj rfl _ i' o'
  · exact s_R_th i 1 fun i' o' => bs_fI_i i'.2.1 rfl (bs_iff (by decide) (ke (of_decide_eq_true hc) _ i' o'))
theorem s_R_size (i : IR Y th w f kc ks n st h) (ko : ∀ h', IR Y 0 w f kc ks n st h' → offR Y h h' → Φ (.ok (some (.int (nI n)))) h') : w_R_size Φ Y h := s_R_th i 0 fun i' o' => bs_fI_i i'.2.1 rfl (ko _ i' o')
theorem s_R_step (i : IR Y th w f kc ks n st h) (x : Int32) (b : Bool) (ke : ¬ (0 ≤ x.toInt ∧ x.toInt < n) → ∀ h', IR Y 1 w f kc ks n st h' → offR Y h h' → Φ (.ok (some (.int 0))) h') (ko : ∀ j, j < n → x = nI j → ∀ h', IR Y 0 w f kc ks n st h' → offR Y h h' → Φ (.ok (some (.int (if b then (st j).2.1 else (st j).1)))) h') : w_R_step Φ Y x (bz b) h := by
  have hn := i.1.2.2.2.2
  refine ⟨⟨_, i.2.1⟩, s_R_noStep i x (bs_kI_i (bs_ifz (fun hc => ?_) (fun hc => ?_)))⟩
  · obtain ⟨j, hj, rfl⟩ := nI_between (Decidable.not_not.mp (of_decide_eq_false hc))
    refine s_R_th i 0 fun i' o' => bs_fI_i i'.2.1 rfl (bs_ift rfl ?_)
    obtain ⟨o, am, m, p1, p2, p3, q⟩ := i'.2.2.2.1
    have k := ko j hj rfl _ i' o'
    refine bs_ifz (fun hb => ?_) (fun hb => ?_)
    · subst hb
      refine bs_fA_i i'.2.1 rfl (bs_lI_i j p1 rfl (by omega) (by decide) ?_)
      rw [(q j hj).1]
      exact k
    · subst hb
      refine bs_fA_i i'.2.1 rfl (bs_lI_i j p2 rfl (by omega) (by decide) ?_)
      rw [(q j hj).2.1]
      exact k
  · exact s_R_th i 1 fun i' o' => bs_fI_i i'.2.1 rfl (bs_iff (by decide) (ke (of_decide_eq_true hc) _ i' o'))
theorem s_R_mask (i : IR Y th w f kc ks n st h) (x : Int32) (ke : ¬ (0 ≤ x.toInt ∧ x.toInt < n) → ∀ h', IR Y 1 w f kc ks n st h' → offR Y h h' → Φ (.ok (some (.long 0))) h') (ko : ∀ j, j < n → x = nI j → ∀ h', IR Y 0 w f kc ks n st h' → offR Y h h' → Φ (.ok (some (.long (st j).2.2))) h') : w_R_mask Φ Y x h := by
  have hn := i.1.2.2.2.2
  refine ⟨⟨_, i.2.1⟩, s_R_noStep i x (bs_kI_i (bs_ifz (fun hc => ?_) (fun hc => ?_)))⟩
  · obtain ⟨j, hj, rfl⟩ := nI_between (Decidable.not_not.mp (of_decide_eq_false hc))
    refine s_R_th i 0 fun i' o' => bs_fI_i i'.2.1 rfl (bs_ift rfl ?_)
    obtain ⟨o, am, m, p1, p2, p3, q⟩ := i'.2.2.2.1
    refine bs_fA_i i'.2.1 rfl (bs_lL_i j p3 rfl (by omega) (by decide) ?_)
    rw [(q j hj).2.2]
    exact ko j hj rfl _ i' o'
  · exact s_R_th i 1 fun i' o' => bs_fI_i i'.2.1 rfl (bs_iff (by decide) (ke (of_decide_eq_true hc) _ i' o'))
theorem s_R_isIn {x : Int64} {j : Nat} (hj : j < 64) (k : Φ (.ok (some (.int (bz (lb x j))))) h) : w_R_isIn Φ Y x (nI j) h := by
  refine bs_ife (lb_isIn hj x) (fun hc => ?_) (fun hc => ?_)
  · rw [hc] at k; exact bs_rZ_1 k
  · have hc : lb x j = false := by cases hb : lb x j with | false => rfl | true => exact absurd hb hc
    rw [hc] at k; exact bs_rZ_0 k
theorem s_R_direct (i : IR Y th w f kc ks n st h) (x : Int64) (ko : ∀ h', IR Y 0 w f kc ks n st h' → offR Y h h' → Φ (.ok (some (.long (imageL f w x)))) h') : w_R_direct Φ Y x h := by
  refine s_R_th i 0 fun i' o' => ?_
  have k := ko _ i' o'
  have hw := i.1.2.1
  generalize bs_set h Y (bs_obj 7 (rF Y 0 w n kc)) = h' at i' o' k ⊢
  obtain ⟨g, p, q⟩ := i'.2.2.1
  refine bs_for (σ := Int64) (fun m c s => w_R_direct_10 Φ m Y x s (nI c) h') (fun c s => s = imageL f c x) w ?_ ?_ w 0 0 1000 (by omega) (by omega) rfl
  · intro m c s hc hs nx
    have hq := q c hc
    have step : ∀ b : Bool, b = (decide (f c = 65) || (decide (f c < 64) && lb x (f c))) → w_R_direct_63 Φ (w_R_direct_10 Φ m) Y x s (nI c) (bz b) h' := by
      intro b hb
      refine bs_ifz (fun hz => ?_) (fun hz => ?_)
      · show w_R_direct_10 Φ m Y x s (nI c + 1) h'
        rw [← nI_succ]
        refine nx _ ?_
        rw [hs]
        unfold imageL
        simp only [lb_of]
        rw [if_neg (by rw [← hb, hz]; decide)]
      · show w_R_direct_10 Φ m Y x (s ||| bs_shl 1 (nI c)) (nI c + 1) h'
        rw [← nI_succ]
        refine nx _ ?_
        rw [hs]
        unfold imageL
        simp only [lb_of]
        rw [if_pos (by rw [← hb, hz])]
    have e65 : (g c = 65) ↔ f c = 65 := by rw [hq.1]; exact nI_eq (a := f c) (b := 65) (by omega) (by decide)
    have e64 : ((64 : Int32) ≤ g c) ↔ 64 ≤ f c := by rw [hq.1]; exact nI_leI (a := 64) (b := f c) (by decide) (by omega)
    refine bs_fI_i i'.2.1 rfl (bs_iff (nI_ge (by omega) (by omega)) (bs_fA_i i'.2.1 rfl (bs_lI_i c p rfl (by omega) (by decide) (bs_ife e65 (fun h1 => ?_) (fun h1 => ?_)))))
    · exact step true (by simp [h1])
    · refine bs_fA_i i'.2.1 rfl (bs_lI_i c p rfl (by omega) (by decide) (bs_ife e64 (fun h2 => ?_) (fun h2 => ?_)))
      · exact step false (by simp [h1]; omega)
      · refine bs_fA_i i'.2.1 rfl (bs_lI_i c p rfl (by omega) (by decide) ⟨⟨_, i'.2.1⟩, ?_⟩)
        rw [hq.1]
        refine s_R_isIn (by omega) (bs_kI_i (bs_ifz (fun h3 => ?_) (fun h3 => ?_)))
        · exact step false (by simp [h1, h3])
        · exact step true (by simp [h3]; omega)
  · intro m s hs
    refine bs_fI_i i'.2.1 rfl (bs_ift (nI_le (by omega) (by omega)) ?_)
    rw [hs]
    exact k
end SR
