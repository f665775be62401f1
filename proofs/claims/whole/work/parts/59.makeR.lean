/-! make of the reference; kind 2 by a premise. -/
section MKR
variable {Φ : bs_R → bs_H → Prop} {h : bs_H} {Y w kc n : Nat} {th : Int32} {f : Nat → Nat} {ks : bs_Ks} {st : bs_St}
theorem IR.clr (i : IR Y th w f kc ks n st h) : IR Y th w f kc ks 0 st (bs_set h Y (bs_obj 7 (rF Y th w 0 kc))) := by
  obtain ⟨i0, i1, i2, ⟨o, am, m, p1, p2, p3, q⟩, i4, i5, i6, i7, i8⟩ := i
  have s : same (Y + 1) (Y + 23) h (bs_set h Y (bs_obj 7 (rF Y th w 0 kc))) := same.set (by omega)
  exact ⟨⟨i0.1, i0.2.1, i0.2.2.1, i0.2.2.2.1, by omega⟩, bs_set_eq, i2.kept (s _ (by omega) (by omega)), ⟨o, am, m, (s _ (by omega) (by omega)).trans p1, (s _ (by omega) (by omega)).trans p2, (s _ (by omega) (by omega)).trans p3, fun z hz => by omega⟩, i4.kept (s.sub (by omega) (by omega)), i5.kept (s.sub (by omega) (by omega)), i6.kept (s.sub (by omega) (by omega)), i7.kept (s.sub (by omega) (by omega)), i8.kept (s.sub (by omega) (by omega))⟩
theorem s_R_make_54 (i : IR Y th w f kc ks n st h) (m2 : bs_Pr) {x : Int32} (hx : 0 ≤ x.toInt ∧ x.toInt ≤ 3) (sw : x = 2 → ∀ {Φ : bs_R → bs_H → Prop} {h : bs_H}, IR Y 0 w f kc ks 0 st h → (∀ h', IR Y 0 w f kc ks m2.1 m2.2 h' → offR Y h h' → Φ (.ok none) h') → w_R_makeSwaps Φ Y h)
    (ko : ∀ h', IR Y 0 w f kc ks (mkK w f st m2 x).1 (mkK w f st m2 x).2 h' → offR Y h h' → Φ (.ok (some (.int (nI (mkK w f st m2 x).1)))) h') : w_R_make_54 Φ Y x Y h := by
  have z2 : (2 : Int32).toInt = 2 := rfl
  have z1 : (1 : Int32).toInt = 1 := rfl
  have z0 : (0 : Int32).toInt = 0 := rfl
  show w_R_make_55 Φ Y x Y 0 h
  refine s_R_th i 0 fun i1 o1 => bs_fI_i i1.2.1 rfl (bs_ift rfl (bs_p_i (fs' := rF Y 0 w 0 kc) i1.2.1 (by simp) rfl ?_))
  have i2 := i1.clr
  have o2 : offR Y h (bs_set (bs_set h Y (bs_obj 7 (rF Y 0 w n kc))) Y (bs_obj 7 (rF Y 0 w 0 kc))) := o1.set (by omega)
  have fin : ∀ (H h' : bs_H), offR Y h H → IR Y 0 w f kc ks (mkK w f st m2 x).1 (mkK w f st m2 x).2 h' → offR Y H h' → w_R_make_110 Φ Y h' := fun H h' oH i' o' => bs_fI_i i'.2.1 rfl (ko h' i' (oH.trans o'))
  generalize bs_set (bs_set h Y (bs_obj 7 (rF Y 0 w n kc))) Y (bs_obj 7 (rF Y 0 w 0 kc)) = H at i2 o2 ⊢
  refine bs_ifc (fun a => bs_ifc (fun e2 => ⟨⟨_, i2.2.1⟩, sw e2 i2 (fun h' i' o' => bs_kV_i (fin H h' o2 ?_ o'))⟩) (fun e2 => ⟨⟨_, i2.2.1⟩, s_R_makeGathers i2 (fun h' i' o' => bs_kV_i (fin H h' o2 ?_ o'))⟩)) (fun a => bs_ifc (fun e1 => ⟨⟨_, i2.2.1⟩, s_R_makeMoves1 i2 (fun h' i' o' => bs_kV_i (fin H h' o2 ?_ o'))⟩) (fun e1 => ⟨⟨_, i2.2.1⟩, s_R_makeMoves0 i2 (fun h' i' o' => bs_kV_i (fin H h' o2 ?_ o'))⟩))
  · have e : mkK w f st m2 x = m2 := by subst e2; rfl
    rw [e]; exact i'
  · rw [Int32.le_iff_toInt_le] at a
    have e : mkK w f st m2 x = mk3 w f st := by
      unfold mkK
      rw [if_neg (fun q => by rw [q] at a; omega), if_neg (fun q => by rw [q] at a; omega), if_neg e2]
    rw [e]; exact i'
  · have e : mkK w f st m2 x = mk1 w f st := by subst e1; rfl
    rw [e]; exact i'
  · rw [Int32.le_iff_toInt_le] at a
    have e0 : x = 0 := by
      rw [i32_eq] at e1 ⊢
      omega
    have e : mkK w f st m2 x = mk0 w f st := by subst e0; rfl
    rw [e]; exact i'
theorem s_R_make (i : IR Y th w f kc ks n st h) (m2 : bs_Pr) (x : Int32) (sw : permB f w = true → pw2 w = true → ∀ {Φ : bs_R → bs_H → Prop} {h : bs_H}, IR Y 0 w f kc ks 0 st h → (∀ h', IR Y 0 w f kc ks m2.1 m2.2 h' → offR Y h h' → Φ (.ok none) h') → w_R_makeSwaps Φ Y h)
    (ke : ¬ (0 ≤ x.toInt ∧ x.toInt ≤ 3) → ∀ h', IR Y 1 w f kc ks n st h' → offR Y h h' → Φ (.ok (some (.int 0))) h') (ku : x = 2 → (permB f w && pw2 w) = false → ∀ h', IR Y 2 w f kc ks n st h' → offR Y h h' → Φ (.ok (some (.int 0))) h')
    (ko : 0 ≤ x.toInt ∧ x.toInt ≤ 3 → (x = 2 → (permB f w && pw2 w) = true) → ∀ h', IR Y 0 w f kc ks (mkK w f st m2 x).1 (mkK w f st m2 x).2 h' → offR Y h h' → Φ (.ok (some (.int (nI (mkK w f st m2 x).1)))) h') : w_R_make Φ Y x h := by
  have h1 := i.1.1
  have hw := i.1.2.1
  have z0 : (0 : Int32).toInt = 0 := rfl
  have z3 : (3 : Int32).toInt = 3 := rfl
  have e := (ji_pw w (by omega) h1).2
  have err : ¬ (0 ≤ x.toInt ∧ x.toInt ≤ 3) → w_R_make_30 Φ Y x Y h := by
    intro hh
    show w_R_make_55 Φ Y x Y 1 h
    exact s_R_th i 1 fun i' o' => bs_fI_i i'.2.1 rfl (bs_iff (by decide) (ke hh _ i' o'))
  have no : ∀ H, IR Y th w f kc ks n st H → offR Y h H → x = 2 → (permB f w && pw2 w) = false → w_R_make_50 Φ Y x Y H := by
    intro H iH oH e2 hh
    show w_R_make_55 Φ Y x Y 2 H
    exact s_R_th iH 2 fun i' o' => bs_fI_i i'.2.1 rfl (bs_iff (by decide) (ku e2 hh _ i' (oH.trans o')))
  have rest : ∀ b : Bool, pw2 w = b → w_R_make_19 Φ Y x (bz b) h := by
    intro b hb
    refine bs_ifc (fun a => err ?_) (fun a => bs_ifc (fun c => ?_) (fun c => err ?_))
    · rw [Int32.lt_iff_toInt_lt] at a; omega
    · rw [Int32.lt_iff_toInt_lt] at a
      rw [Int32.le_iff_toInt_le] at c
      refine bs_ifc (fun e2 => bs_ifz (fun hz => no h i (offR.refl Y h) e2 (by rw [hb, hz]; simp)) (fun hz => ⟨⟨_, i.2.1⟩, s_R_isPermutation i (fun h' i' o' => bs_kI_i (bs_ifz (fun hp => no h' i' o' e2 (by rw [hp]; rfl)) (fun hp => ?_)))⟩)) (fun e2 => ?_)
      · exact s_R_make_54 i' m2 (by omega) (fun _ => sw hp (by rw [hb, hz])) (fun h'' i'' o'' => ko (by omega) (fun _ => by rw [hp, hb, hz]; rfl) h'' i'' (o'.trans o''))
      · exact s_R_make_54 i m2 (by omega) (fun q => absurd q e2) (fun h'' i'' o'' => ko (by omega) (fun q => absurd q e2) h'' i'' o'')
    · rw [Int32.le_iff_toInt_le] at c; omega
  refine bs_fI_i i.2.1 rfl (bs_fI_i i.2.1 rfl (bs_ifc (fun hc => ?_) (fun hc => ?_)))
  · rw [decide_eq_true hc] at e
    exact rest true e.symm
  · rw [decide_eq_false hc] at e
    exact rest false e.symm
end MKR
