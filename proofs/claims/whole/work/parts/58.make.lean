/-! make: is the width a power of two. -/
def pw2 (w : Nat) : Bool := w == 1 || w == 2 || w == 4 || w == 8 || w == 16 || w == 32 || w == 64
def ji1 (x : Int32) : Int32 := x - (bs_iushr x 1 &&& 1431655765)
def ji2 (x : Int32) : Int32 := (x &&& 858993459) + (bs_iushr x 2 &&& 858993459)
def ji3 (x : Int32) : Int32 := (x + bs_iushr x 4) &&& 252645135
def ji4 (x : Int32) : Int32 := x + bs_iushr x 8
def ji5 (x : Int32) : Int32 := x + bs_iushr x 16
def jiC (x : Int32) : Int32 := ji5 (ji4 (ji3 (ji2 (ji1 x)))) &&& 63
theorem ji_pw : ∀ w, w < 65 → 1 ≤ w → decide (jiC (nI w) = 1) = pw2 w ∧ decide ((nI w &&& (nI w - 1)) = 0) = pw2 w := by decide +kernel
section MK
variable {Φ : bs_R → bs_H → Prop} {h : bs_H} {w : Nat}
theorem s_JI_bitCount (x : Int32) (k : Φ (.ok (some (.int (jiC x)))) h) : w_JI_bitCount Φ x h := k
theorem s_B_isPowerOfTwo (h1 : 1 ≤ w) (hw : w ≤ 64) (k : Φ (.ok (some (.int (bz (pw2 w))))) h) : w_B_isPowerOfTwo Φ (nI w) h := by
  have e := (ji_pw w (by omega) h1).1
  refine s_JI_bitCount _ (bs_kI_i (bs_ifc (fun hc => ?_) (fun hc => ?_)))
  · rw [decide_eq_true hc] at e
    rw [← e] at k
    exact bs_rZ_1 k
  · rw [decide_eq_false hc] at e
    rw [← e] at k
    exact bs_rZ_0 k
end MK
/-- what make makes; m2: what it makes for kind 2 -/
def mkK (w : Nat) (f : Nat → Nat) (st : bs_St) (m2 : bs_Pr) (x : Int32) : bs_Pr := if x = 0 then mk0 w f st else if x = 1 then mk1 w f st else if x = 2 then m2 else mk3 w f st
section MKB
variable {Φ : bs_R → bs_H → Prop} {h : bs_H} {X w kc n : Nat} {f : Nat → Nat} {ks : bs_Ks} {st : bs_St}
theorem s_B_make (i : IC X w f kc ks n st h) (m2 : bs_Pr) (sw : permB f w = true → pw2 w = true → ∀ {Φ : bs_R → bs_H → Prop} {h : bs_H}, IC X w f kc ks 0 st h → (∀ h', IC X w f kc ks m2.1 m2.2 h' → offC X h h' → Φ (.ok none) h') → w_X_write Φ (X + 31) (X + 1) (X + 22) h) (x : Int32)
    (ke : ¬ (0 ≤ x.toInt ∧ x.toInt ≤ 3) → bud h 1 ∧ Φ (.error "java/lang/IllegalArgumentException") (bs_thrown h)) (ku : x = 2 → (permB f w && pw2 w) = false → bud h 1 ∧ Φ (.error "java/lang/UnsupportedOperationException") (bs_thrown h))
    (ko : 0 ≤ x.toInt ∧ x.toInt ≤ 3 → (x = 2 → (permB f w && pw2 w) = true) → ∀ h', IC X w f kc ks (mkK w f st m2 x).1 (mkK w f st m2 x).2 h' → offC X h h' → Φ (.ok (some (.int (nI (mkK w f st m2 x).1)))) h') : w_B_make Φ X x h := by
  have h1 := i.1.1
  have hw := i.1.2.1
  have z0 : (0 : Int32).toInt = 0 := rfl
  have z3 : (3 : Int32).toInt = 3 := rfl
  obtain ⟨g, p, q⟩ := i.2.2.1
  have go : 0 ≤ x.toInt ∧ x.toInt ≤ 3 → (x = 2 → (permB f w && pw2 w) = true) → w_B_make_53 Φ X x h := by
    intro hx h2
    obtain ⟨o, am, m, p2, q2⟩ := i.2.2.2.2.2.2.1
    refine bs_fA_i i.2.1 rfl ⟨⟨_, p2.1⟩, s_P_clear p2 (bs_kV_i ?_)⟩
    have i1 : IC X w f kc ks 0 st (setP h (X + 22) 0 o am m) := i.pro (by omega) ⟨o, am, m, setP_at _ _ _ _ _ _, fun k hk => by omega⟩ (fun b h1 h2 => setP_off _ _ _ _ _ _ (by omega)) (fun b h1 h2 => setP_off _ _ _ _ _ _ (by omega))
    have o1 : offC X h (setP h (X + 22) 0 o am m) := ⟨fun b hb => setP_off _ _ _ _ _ _ (by omega), rfl⟩
    generalize setP h (X + 22) 0 o am m = H at i1 o1 ⊢
    have fin : ∀ h', IC X w f kc ks (mkK w f st m2 x).1 (mkK w f st m2 x).2 h' → offC X H h' → w_B_make_121 Φ X h' := by
      intro h' i' o'
      obtain ⟨o, am, m, p3, q3⟩ := i'.2.2.2.2.2.2.1
      exact bs_fA_i i'.2.1 rfl ⟨⟨_, p3.1⟩, s_P_length p3 (bs_kI_i (ko hx h2 h' i' (o1.trans o')))⟩
    refine bs_ifc (fun e0 => ⟨⟨_, i1.2.1⟩, s_B_writeShifts i1 (fun h' i' o' => bs_kV_i (fin h' ?_ o'))⟩) (fun e0 => bs_ifc (fun e1 => ⟨⟨_, i1.2.1⟩, s_B_writeRotations i1 (fun h' i' o' => bs_kV_i (fin h' ?_ o'))⟩) (fun e1 => bs_ifc (fun e2 => ?_) (fun e2 => ?_)))
    · have e : mkK w f st m2 x = mk0 w f st := if_pos e0
      rw [e]; exact i'
    · have e : mkK w f st m2 x = mk1 w f st := by unfold mkK; rw [if_neg e0, if_pos e1]
      rw [e]; exact i'
    · have e : mkK w f st m2 x = m2 := by unfold mkK; rw [if_neg e0, if_neg e1, if_pos e2]
      have hp := h2 e2
      rw [Bool.and_eq_true] at hp
      obtain ⟨v1, v2, v3, v4, g1, g2, g3, c1, c2, c3, c4⟩ := i1.2.2.2.2.2.2.2.2.2.1
      refine bs_fA_i i1.2.1 rfl (bs_fA_i i1.2.1 rfl (bs_fA_i i1.2.1 rfl ⟨⟨_, c1⟩, sw hp.1 hp.2 i1 (fun h' i' o' => bs_kV_i (fin h' ?_ o'))⟩))
      rw [e]; exact i'
    · have e : mkK w f st m2 x = mk3 w f st := by unfold mkK; rw [if_neg e0, if_neg e1, if_neg e2]
      obtain ⟨v, g1, g2, c1, c2, c3⟩ := i1.2.2.2.2.2.2.2.2.2.2
      refine bs_fA_i i1.2.1 rfl (bs_fA_i i1.2.1 rfl (bs_fA_i i1.2.1 rfl ⟨⟨_, c1⟩, s_G_write i1 (fun h' i' o' => bs_kV_i (fin h' ?_ o'))⟩))
      rw [e]; exact i'
  have iae : ¬ (0 ≤ x.toInt ∧ x.toInt ≤ 3) → w_B_make_9 Φ h := fun hh => bs_th_i (ke hh).1 (ke hh).2
  refine bs_ifc (fun a => iae ?_) (fun a => bs_ifc (fun b => ?_) (fun b => iae ?_))
  · rw [Int32.lt_iff_toInt_lt] at a; omega
  · rw [Int32.lt_iff_toInt_lt] at a
    rw [Int32.le_iff_toInt_le] at b
    refine bs_ifc (fun e2 => ?_) (fun e2 => go (by omega) (fun q => absurd q e2))
    have no : (permB f w && pw2 w) = false → w_B_make_45 Φ h := fun hh => bs_th_i (ku e2 hh).1 (ku e2 hh).2
    refine bs_fA_i i.2.1 rfl ⟨⟨_, p.1⟩, s_M_isPermutation p hw q (bs_kI_i (bs_ifz (fun hb => no (by rw [hb]; rfl)) (fun hb => bs_fA_i i.2.1 rfl ⟨⟨_, p.1⟩, s_M_bits p (bs_kI_i (s_B_isPowerOfTwo h1 hw (bs_kI_i (bs_ifz (fun hc => no (by rw [hb, hc]; rfl)) (fun hc => go (by omega) (fun _ => by rw [hb, hc]; rfl))))))⟩)))⟩
  · rw [Int32.le_iff_toInt_le] at b; omega
end MKB
