/-! The class's object at X, whole: its cells X .. X + 37. A state: width w, map f, kept maps ks (kc of them), steps st (n of them). -/
def okF (w : Nat) (f : Nat → Nat) : Prop := ∀ k, k < w → f k < w ∨ f k = 64 ∨ f k = 65
def same (lo hi : Nat) (h h' : bs_H) : Prop := ∀ b, lo ≤ b → b ≤ hi → h'.1 b = h.1 b
theorem same.set {lo hi a : Nat} {h : bs_H} {x : bs_E} (ha : a < lo ∨ hi < a) : same lo hi h (bs_set h a x) := fun b h1 h2 => bs_set_ne (by omega)
theorem same.trans {lo hi : Nat} {h h' h'' : bs_H} (h1 : same lo hi h h') (h2 : same lo hi h' h'') : same lo hi h h'' := fun b a c => (h2 b a c).trans (h1 b a c)
theorem same.sub {lo hi lo' hi' : Nat} {h h' : bs_H} (h1 : same lo hi h h') (h2 : lo ≤ lo') (h3 : hi' ≤ hi) : same lo' hi' h h' := fun b a c => h1 b (by omega) (by omega)
theorem same.refl (lo hi : Nat) (h : bs_H) : same lo hi h h := fun _ _ _ => rfl
/-- nothing but the class's cells has changed, and the room is as it was -/
def offC (X : Nat) (h h' : bs_H) : Prop := (∀ b, b < X ∨ X + 37 < b → h'.1 b = h.1 b) ∧ h'.2 = h.2
theorem offC.refl (X : Nat) (h : bs_H) : offC X h h := ⟨fun _ _ => rfl, rfl⟩
theorem offC.trans {X : Nat} {h h' h'' : bs_H} (h1 : offC X h h') (h2 : offC X h' h'') : offC X h h'' := ⟨fun b hb => (h2.1 b hb).trans (h1.1 b hb), h2.2.trans h1.2⟩
theorem offC.set {X a : Nat} {h h' : bs_H} {x : bs_E} (h1 : offC X h h') (ha : X ≤ a ∧ a ≤ X + 37) : offC X h (bs_set h' a x) := ⟨fun b hb => by rw [bs_set_ne (by omega)]; exact h1.1 b hb, h1.2⟩
theorem pM.kept {h h' : bs_H} {a : Nat} {v : Int32} {g : Nat → Int32} (p : pM h a v g) (s : same a (a + 1) h h') : pM h' a v g := ⟨(s a (by omega) (by omega)).trans p.1, (s (a + 1) (by omega) (by omega)).trans p.2⟩
theorem pP.kept {h h' : bs_H} {a n : Nat} {o am : Nat → Int32} {m : Nat → Int64} (p : pP h a n o am m) (s : same a (a + 3) h h') : pP h' a n o am m := ⟨(s a (by omega) (by omega)).trans p.1, (s (a + 1) (by omega) (by omega)).trans p.2.1, (s (a + 2) (by omega) (by omega)).trans p.2.2.1, (s (a + 3) (by omega) (by omega)).trans p.2.2.2⟩
abbrev bs_St : Type := Nat → Int32 × Int32 × Int64
abbrev bs_Ks : Type := Nat → Nat × (Nat → Nat)
def cB (X kc : Nat) (h : bs_H) : Prop := h.1 X = some (bs_obj 0 [.ref (X + 1), .ref (X + 3), .ref (X + 5), .int (nI kc), .ref (X + 22), .ref (X + 26), .ref (X + 27), .ref (X + 31), .ref (X + 35)])
def cMap (X w : Nat) (f : Nat → Nat) (h : bs_H) : Prop := ∃ g, pM h (X + 1) (nI w) g ∧ gM w f g
def cFor (X : Nat) (h : bs_H) : Prop := ∃ v g, pM h (X + 3) v g
def cArr (X : Nat) (h : bs_H) : Prop := ∃ fk, h.1 (X + 5) = some (bs_ra 8 fk) ∧ ∀ k, k < 8 → fk k = some (X + 6 + 2 * k)
def cKep (X kc : Nat) (ks : bs_Ks) (h : bs_H) : Prop := ∀ k, k < 8 → ∃ v g, pM h (X + 6 + 2 * k) v g ∧ (k < kc → v = nI (ks k).1 ∧ 1 ≤ (ks k).1 ∧ (ks k).1 ≤ 64 ∧ gM (ks k).1 (ks k).2 g ∧ okF (ks k).1 (ks k).2)
def cPro (X n : Nat) (st : bs_St) (h : bs_H) : Prop := ∃ o am m, pP h (X + 22) n o am m ∧ ∀ i, i < n → o i = (st i).1 ∧ am i = (st i).2.1 ∧ m i = (st i).2.2
def cMac (X : Nat) (h : bs_H) : Prop := ∃ v1 v2 v3 v4, h.1 (X + 26) = some (bs_obj 3 [.int v1, .long v2, .long v3, .long v4])
def cSym (X : Nat) (h : bs_H) : Prop := ∃ v1 v2 ga gt gr, h.1 (X + 27) = some (bs_obj 4 [.ref (X + 28), .ref (X + 29), .ref (X + 30), .long v1, .int v2]) ∧ h.1 (X + 28) = some (bs_la 64 ga) ∧ h.1 (X + 29) = some (bs_la 64 gt) ∧ h.1 (X + 30) = some (bs_la 64 gr)
def cSwp (X : Nat) (h : bs_H) : Prop := ∃ v1 v2 v3 v4 g1 g2 g3, h.1 (X + 31) = some (bs_obj 5 [.ref (X + 32), .ref (X + 33), .ref (X + 34), .int v1, .long v2, .long v3, .long v4]) ∧ h.1 (X + 32) = some (bs_ia 64 g1) ∧ h.1 (X + 33) = some (bs_ia 64 g2) ∧ h.1 (X + 34) = some (bs_la 6 g3)
def cGat (X : Nat) (h : bs_H) : Prop := ∃ v g1 g2, h.1 (X + 35) = some (bs_obj 6 [.ref (X + 36), .ref (X + 37), .int v]) ∧ h.1 (X + 36) = some (bs_la 64 g1) ∧ h.1 (X + 37) = some (bs_la 64 g2)
theorem cB.kept {X kc : Nat} {h h' : bs_H} (c : cB X kc h) (s : h'.1 X = h.1 X) : cB X kc h' := s.trans c
theorem cMap.kept {X w : Nat} {f : Nat → Nat} {h h' : bs_H} (c : cMap X w f h) (s : same (X + 1) (X + 2) h h') : cMap X w f h' := by
  obtain ⟨g, p, q⟩ := c
  exact ⟨g, p.kept s, q⟩
theorem cFor.kept {X : Nat} {h h' : bs_H} (c : cFor X h) (s : same (X + 3) (X + 4) h h') : cFor X h' := by
  obtain ⟨v, g, p⟩ := c
  exact ⟨v, g, p.kept s⟩
theorem cArr.kept {X : Nat} {h h' : bs_H} (c : cArr X h) (s : h'.1 (X + 5) = h.1 (X + 5)) : cArr X h' := by
  obtain ⟨fk, p, q⟩ := c
  exact ⟨fk, s.trans p, q⟩
theorem cKep.kept {X kc : Nat} {ks : bs_Ks} {h h' : bs_H} (c : cKep X kc ks h) (s : same (X + 6) (X + 21) h h') : cKep X kc ks h' := by
  intro k hk
  obtain ⟨v, g, p, q⟩ := c k hk
  exact ⟨v, g, p.kept (s.sub (by omega) (by omega)), q⟩
theorem cPro.kept {X n : Nat} {st : bs_St} {h h' : bs_H} (c : cPro X n st h) (s : same (X + 22) (X + 25) h h') : cPro X n st h' := by
  obtain ⟨o, am, m, p, q⟩ := c
  exact ⟨o, am, m, p.kept s, q⟩
theorem cMac.kept {X : Nat} {h h' : bs_H} (c : cMac X h) (s : h'.1 (X + 26) = h.1 (X + 26)) : cMac X h' := by
  obtain ⟨v1, v2, v3, v4, p⟩ := c
  exact ⟨v1, v2, v3, v4, s.trans p⟩
theorem cSym.kept {X : Nat} {h h' : bs_H} (c : cSym X h) (s : same (X + 27) (X + 30) h h') : cSym X h' := by
  obtain ⟨v1, v2, ga, gt, gr, p1, p2, p3, p4⟩ := c
  exact ⟨v1, v2, ga, gt, gr, (s _ (by omega) (by omega)).trans p1, (s _ (by omega) (by omega)).trans p2, (s _ (by omega) (by omega)).trans p3, (s _ (by omega) (by omega)).trans p4⟩
theorem cSwp.kept {X : Nat} {h h' : bs_H} (c : cSwp X h) (s : same (X + 31) (X + 34) h h') : cSwp X h' := by
  obtain ⟨v1, v2, v3, v4, g1, g2, g3, p1, p2, p3, p4⟩ := c
  exact ⟨v1, v2, v3, v4, g1, g2, g3, (s _ (by omega) (by omega)).trans p1, (s _ (by omega) (by omega)).trans p2, (s _ (by omega) (by omega)).trans p3, (s _ (by omega) (by omega)).trans p4⟩
theorem cGat.kept {X : Nat} {h h' : bs_H} (c : cGat X h) (s : same (X + 35) (X + 37) h h') : cGat X h' := by
  obtain ⟨v, g1, g2, p1, p2, p3⟩ := c
  exact ⟨v, g1, g2, (s _ (by omega) (by omega)).trans p1, (s _ (by omega) (by omega)).trans p2, (s _ (by omega) (by omega)).trans p3⟩
def IC (X w : Nat) (f : Nat → Nat) (kc : Nat) (ks : bs_Ks) (n : Nat) (st : bs_St) (h : bs_H) : Prop :=
  (1 ≤ w ∧ w ≤ 64 ∧ okF w f ∧ kc ≤ 8 ∧ n ≤ 192) ∧ cB X kc h ∧ cMap X w f h ∧ cFor X h ∧ cArr X h ∧ cKep X kc ks h ∧ cPro X n st h ∧ cMac X h ∧ cSym X h ∧ cSwp X h ∧ cGat X h
theorem IC.kept {X w kc n : Nat} {f : Nat → Nat} {ks : bs_Ks} {st : bs_St} {h h' : bs_H} (i : IC X w f kc ks n st h) (s : same X (X + 37) h h') : IC X w f kc ks n st h' := by
  obtain ⟨i0, i1, i2, i3, i4, i5, i6, i7, i8, i9, i10⟩ := i
  exact ⟨i0, i1.kept (s _ (by omega) (by omega)), i2.kept (s.sub (by omega) (by omega)), i3.kept (s.sub (by omega) (by omega)), i4.kept (s _ (by omega) (by omega)), i5.kept (s.sub (by omega) (by omega)), i6.kept (s.sub (by omega) (by omega)), i7.kept (s _ (by omega) (by omega)), i8.kept (s.sub (by omega) (by omega)), i9.kept (s.sub (by omega) (by omega)), i10.kept (s.sub (by omega) (by omega))⟩
/-- the map's cells anew -/
theorem IC.map {X w w' kc n : Nat} {f f' : Nat → Nat} {ks : bs_Ks} {st : bs_St} {h h' : bs_H} (i : IC X w f kc ks n st h) (hw : 1 ≤ w' ∧ w' ≤ 64 ∧ okF w' f') (c : cMap X w' f' h') (s1 : h'.1 X = h.1 X) (s2 : same (X + 3) (X + 37) h h') : IC X w' f' kc ks n st h' := by
  obtain ⟨i0, i1, i2, i3, i4, i5, i6, i7, i8, i9, i10⟩ := i
  exact ⟨⟨hw.1, hw.2.1, hw.2.2, i0.2.2.2⟩, i1.kept s1, c, i3.kept (s2.sub (by omega) (by omega)), i4.kept (s2 _ (by omega) (by omega)), i5.kept (s2.sub (by omega) (by omega)), i6.kept (s2.sub (by omega) (by omega)), i7.kept (s2 _ (by omega) (by omega)), i8.kept (s2.sub (by omega) (by omega)), i9.kept (s2.sub (by omega) (by omega)), i10.kept (s2.sub (by omega) (by omega))⟩
/-- the program's cells anew -/
theorem IC.pro {X w kc n n' : Nat} {f : Nat → Nat} {ks : bs_Ks} {st st' : bs_St} {h h' : bs_H} (i : IC X w f kc ks n st h) (hn : n' ≤ 192) (c : cPro X n' st' h') (s1 : same X (X + 21) h h') (s2 : same (X + 26) (X + 37) h h') : IC X w f kc ks n' st' h' := by
  obtain ⟨i0, i1, i2, i3, i4, i5, i6, i7, i8, i9, i10⟩ := i
  exact ⟨⟨i0.1, i0.2.1, i0.2.2.1, i0.2.2.2.1, hn⟩, i1.kept (s1 _ (by omega) (by omega)), i2.kept (s1.sub (by omega) (by omega)), i3.kept (s1.sub (by omega) (by omega)), i4.kept (s1 _ (by omega) (by omega)), i5.kept (s1.sub (by omega) (by omega)), c, i7.kept (s2 _ (by omega) (by omega)), i8.kept (s2.sub (by omega) (by omega)), i9.kept (s2.sub (by omega) (by omega)), i10.kept (s2.sub (by omega) (by omega))⟩
/-- room for a throw -/
def bud (h : bs_H) (n : Nat) : Prop := n ≤ h.2.2.1 ∧ 6 * n ≤ h.2.2.2.1
theorem bs_th_i {h : bs_H} {Φ : bs_R → bs_H → Prop} {Xn : String} (b : bud h 1) (k : Φ (.error Xn) (bs_thrown h)) : bs_th h Φ Xn := ⟨b.1, by have := b.2; omega, k⟩
section SB
variable {Φ : bs_R → bs_H → Prop} {h : bs_H} {X w kc n : Nat} {f : Nat → Nat} {ks : bs_Ks} {st : bs_St}
theorem s_B_requireBit (i : IC X w f kc ks n st h) (x : Int32) (ke : ¬ (0 ≤ x.toInt ∧ x.toInt < w) → bud h 1 ∧ Φ (.error "java/lang/IllegalArgumentException") (bs_thrown h)) (ko : ∀ j, j < w → x = nI j → Φ (.ok none) h) : w_B_requireBit Φ X x h := by
  obtain ⟨i0, i1, ⟨g, p, q⟩, i3⟩ := i
  refine bs_fA_i i1 rfl ⟨⟨_, p.1⟩, s_M_hasBit p i0.2.1 x (bs_kI_i (bs_ifz (fun hc => ?_) (fun hc => ?_)))⟩
  · have := ke (of_decide_eq_false hc)
    exact bs_th_i this.1 this.2
  · have hc := of_decide_eq_true hc
    obtain ⟨j, hj, rfl⟩ := nI_of (x := x) (by rw [Int32.lt_iff_toInt_lt]; have : (0 : Int32).toInt = 0 := rfl; omega)
    rw [nI_toInt hj] at hc
    exact ko j (by omega) rfl
theorem s_B_requireStep (i : IC X w f kc ks n st h) (x : Int32) (ke : ¬ (0 ≤ x.toInt ∧ x.toInt < n) → bud h 1 ∧ Φ (.error "java/lang/IndexOutOfBoundsException") (bs_thrown h)) (ko : ∀ j, j < n → x = nI j → Φ (.ok none) h) : w_B_requireStep Φ X x h := by
  obtain ⟨i0, i1, i2, i3, i4, i5, ⟨o, am, m, p, q⟩, i7⟩ := i
  have hn := i0.2.2.2.2
  have e : (nI n).toInt = (n : Int) := nI_toInt (by omega)
  have z : (0 : Int32).toInt = 0 := rfl
  refine bs_ifc (fun hc => ?_) (fun hc => bs_fA_i i1 rfl ⟨⟨_, p.1⟩, s_P_length p (bs_kI_i (bs_ifc (fun hd => ?_) (fun hd => ?_)))⟩)
  · rw [Int32.lt_iff_toInt_lt] at hc
    have := ke (by omega)
    exact bs_th_i this.1 this.2
  · obtain ⟨j, hj, rfl⟩ := nI_of hc
    rw [Int32.lt_iff_toInt_lt, e, nI_toInt hj] at hd
    exact ko j (by omega) rfl
  · rw [Int32.lt_iff_toInt_lt] at hc hd
    have := ke (by omega)
    exact bs_th_i this.1 this.2
theorem s_B_width (i : IC X w f kc ks n st h) (x : Int32) (ke : ¬ (1 ≤ x.toInt ∧ x.toInt ≤ 64) → bud h 1 ∧ Φ (.error "java/lang/IllegalArgumentException") (bs_thrown h)) (ko : ∀ j, 1 ≤ j → j ≤ 64 → x = nI j → ∀ h', IC X j (fun k => k) kc ks 0 st h' → offC X h h' → Φ (.ok none) h') : w_B_width Φ X x h := by
  have z : (1 : Int32).toInt = 1 := rfl
  have z2 : (64 : Int32).toInt = 64 := rfl
  have err : ¬ (1 ≤ x.toInt ∧ x.toInt ≤ 64) → w_B_width_11 Φ h := fun hh => bs_th_i (ke hh).1 (ke hh).2
  refine bs_ifc (fun hc => ?_) (fun hc => bs_ifc (fun hd => ?_) (fun hd => ?_))
  · rw [Int32.lt_iff_toInt_lt] at hc
    exact err (by omega)
  · rw [Int32.lt_iff_toInt_lt] at hc
    rw [Int32.le_iff_toInt_le] at hd
    obtain ⟨j, hj, rfl⟩ := nI_of (x := x) (by rw [Int32.lt_iff_toInt_lt]; have : (0 : Int32).toInt = 0 := rfl; omega)
    rw [nI_toInt hj] at hc hd
    obtain ⟨g, p, q⟩ := i.2.2.1
    refine bs_fA_i i.2.1 rfl ⟨⟨_, p.1⟩, s_M_becomeIdentity p (by omega) (fun g' hg' => bs_kV_i ?_)⟩
    have i' : IC X j (fun k => k) kc ks n st (bs_set (bs_set h (X + 1) (bs_obj 1 [.ref (X + 1 + 1), .int (nI j)])) (X + 1 + 1) (bs_ia 64 g')) := i.map ⟨by omega, by omega, fun k hk => Or.inl hk⟩ ⟨g', p.set _ _, fun k hk => ⟨hg' k hk, by show k ≤ 65; omega⟩⟩ (by rw [bs_set_ne (by omega), bs_set_ne (by omega)]) ((same.set (by omega)).trans (same.set (by omega)))
    obtain ⟨o, am, m, p2, q2⟩ := i'.2.2.2.2.2.2.1
    refine bs_fA_i i'.2.1 rfl ⟨⟨_, p2.1⟩, s_P_clear p2 (bs_kV_i ?_)⟩
    refine ko j (by omega) (by omega) rfl _ (i'.pro (by omega) ⟨o, am, m, setP_at _ _ _ _ _ _, fun k hk => by omega⟩ (fun b h1 h2 => setP_off _ _ _ _ _ _ (by omega)) (fun b h1 h2 => setP_off _ _ _ _ _ _ (by omega))) ?_
    exact ⟨fun b hb => by rw [setP_off _ _ _ _ _ _ (by omega), bs_set_ne (by omega), bs_set_ne (by omega)], rfl⟩
  · rw [Int32.le_iff_toInt_le] at hd
    exact err (by omega)
theorem s_B_target (i : IC X w f kc ks n st h) (x y : Int32) (ke : ¬ ((0 ≤ x.toInt ∧ x.toInt < w) ∧ ((0 ≤ y.toInt ∧ y.toInt < w) ∨ y = 64 ∨ y = 65)) → bud h 1 ∧ Φ (.error "java/lang/IllegalArgumentException") (bs_thrown h)) (ko : ∀ j c, j < w → (c < w ∨ c = 64 ∨ c = 65) → x = nI j → y = nI c → ∀ h', IC X w (va_up f j c) kc ks n st h' → offC X h h' → Φ (.ok none) h') : w_B_target Φ X x y h := by
  refine ⟨⟨_, i.2.1⟩, s_B_requireBit i x (fun hc => ⟨(ke (fun z => hc z.1)).1, bs_kV_e (ke (fun z => hc z.1)).2⟩) (fun j hj hx => bs_kV_i ?_)⟩
  obtain ⟨g, p, q⟩ := i.2.2.1
  have hw := i.1.2.1
  refine bs_fA_i i.2.1 rfl ⟨⟨_, p.1⟩, s_M_hasSource p hw y (bs_kI_i (bs_ifz (fun hc => ?_) (fun hc => ?_)))⟩
  · have hc := of_decide_eq_false hc
    have := ke (fun z => hc z.2)
    exact bs_th_i this.1 this.2
  · have hc := of_decide_eq_true hc
    subst hx
    obtain ⟨c, hcw, hyc⟩ : ∃ c, (c < w ∨ c = 64 ∨ c = 65) ∧ y = nI c := by
      rcases hc with hc | hc | hc
      · obtain ⟨c, h1, h2⟩ := nI_of (x := y) (by rw [Int32.lt_iff_toInt_lt]; have : (0 : Int32).toInt = 0 := rfl; omega)
        rw [h2, nI_toInt h1] at hc
        exact ⟨c, Or.inl (by omega), h2⟩
      · exact ⟨64, Or.inr (Or.inl rfl), hc⟩
      · exact ⟨65, Or.inr (Or.inr rfl), hc⟩
    refine bs_fA_i i.2.1 rfl ⟨⟨_, p.1⟩, s_M_setSource p (by omega) (bs_kV_i ?_)⟩
    refine ko j c hj hcw rfl hyc _ (i.map ⟨i.1.1, hw, fun k hk => ?_⟩ ⟨_, p.seta _, fun k hk => ?_⟩ (bs_set_ne (by omega)) (same.set (by omega))) ((offC.refl X h).set (by omega))
    · by_cases hkj : k = j
      · subst hkj; rw [bs_up_eq]; exact hcw
      · rw [bs_up_ne _ _ hkj]; exact i.1.2.2.1 k hk
    · by_cases hkj : k = j
      · subst hkj; rw [bs_up_eq, bs_up_eq]; exact ⟨hyc, by omega⟩
      · rw [bs_up_ne _ _ hkj, bs_up_ne _ _ hkj]; exact q k hk
theorem s_B_source (i : IC X w f kc ks n st h) (x : Int32) (ke : ¬ (0 ≤ x.toInt ∧ x.toInt < w) → bud h 1 ∧ Φ (.error "java/lang/IllegalArgumentException") (bs_thrown h)) (ko : ∀ j, j < w → x = nI j → Φ (.ok (some (.int (nI (f j))))) h) : w_B_source Φ X x h := by
  refine ⟨⟨_, i.2.1⟩, s_B_requireBit i x (fun hc => ⟨(ke hc).1, bs_kV_e (ke hc).2⟩) (fun j hj hx => bs_kV_i ?_)⟩
  obtain ⟨g, p, q⟩ := i.2.2.1
  have hw := i.1.2.1
  subst hx
  refine bs_fA_i i.2.1 rfl ⟨⟨_, p.1⟩, s_M_sourceOf p (by omega) (bs_kI_i ?_)⟩
  rw [(q j hj).1]
  exact ko j hj rfl
theorem s_B_size (i : IC X w f kc ks n st h) (ko : Φ (.ok (some (.int (nI n)))) h) : w_B_size Φ X h := by
  obtain ⟨o, am, m, p, q⟩ := i.2.2.2.2.2.2.1
  exact bs_fA_i i.2.1 rfl ⟨⟨_, p.1⟩, s_P_length p (bs_kI_i ko)⟩
theorem s_B_step (i : IC X w f kc ks n st h) (x : Int32) (b : Bool) (ke : ¬ (0 ≤ x.toInt ∧ x.toInt < n) → bud h 1 ∧ Φ (.error "java/lang/IndexOutOfBoundsException") (bs_thrown h)) (ko : ∀ j, j < n → x = nI j → Φ (.ok (some (.int (if b then (st j).2.1 else (st j).1)))) h) : w_B_step Φ X x (bz b) h := by
  refine ⟨⟨_, i.2.1⟩, s_B_requireStep i x (fun hc => ⟨(ke hc).1, bs_kV_e (ke hc).2⟩) (fun j hj hx => bs_kV_i ?_)⟩
  obtain ⟨o, am, m, p, q⟩ := i.2.2.2.2.2.2.1
  have hn := i.1.2.2.2.2
  subst hx
  have k := ko j hj rfl
  refine bs_ifz (fun hb => ?_) (fun hb => ?_)
  · subst hb
    refine bs_fA_i i.2.1 rfl ⟨⟨_, p.1⟩, s_P_opAt p (by omega) (bs_kI_i ?_)⟩
    rw [(q j hj).1]
    exact k
  · subst hb
    refine bs_fA_i i.2.1 rfl ⟨⟨_, p.1⟩, s_P_amountAt p (by omega) (bs_kI_i ?_)⟩
    rw [(q j hj).2.1]
    exact k
theorem s_B_mask (i : IC X w f kc ks n st h) (x : Int32) (ke : ¬ (0 ≤ x.toInt ∧ x.toInt < n) → bud h 1 ∧ Φ (.error "java/lang/IndexOutOfBoundsException") (bs_thrown h)) (ko : ∀ j, j < n → x = nI j → Φ (.ok (some (.long (st j).2.2))) h) : w_B_mask Φ X x h := by
  refine ⟨⟨_, i.2.1⟩, s_B_requireStep i x (fun hc => ⟨(ke hc).1, bs_kV_e (ke hc).2⟩) (fun j hj hx => bs_kV_i ?_)⟩
  obtain ⟨o, am, m, p, q⟩ := i.2.2.2.2.2.2.1
  have hn := i.1.2.2.2.2
  subst hx
  refine bs_fA_i i.2.1 rfl ⟨⟨_, p.1⟩, s_P_maskAt p (by omega) (bs_kL_i ?_)⟩
  rw [(q j hj).2.2]
  exact ko j hj rfl
theorem s_B_direct (i : IC X w f kc ks n st h) (x : Int64) (ko : Φ (.ok (some (.long (imageL f w x)))) h) : w_B_direct Φ X x h := by
  obtain ⟨g, p, q⟩ := i.2.2.1
  exact bs_fA_i i.2.1 rfl ⟨⟨_, p.1⟩, s_M_imageOf p i.1.2.1 q (bs_kL_i ko)⟩
end SB
