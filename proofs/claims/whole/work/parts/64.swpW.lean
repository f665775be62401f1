/-! make(2) of the class: write. -/
theorem nI_half : ∀ a, a < 65 → nI a / 2 = nI (a / 2) := by decide +kernel
theorem nI_pow_pos : ∀ j, j < 6 → ¬ (nI (2 ^ j) ≤ 0) := by decide +kernel
theorem nI_pow_shr : ∀ L, L < 7 → ∀ m, m < L → nI (2 ^ L) >>> ((nI m + 1) &&& 31) = nI (2 ^ (L - 1 - m)) := by decide +kernel
theorem nI_pre : ∀ m, m < 8 → nI (m + 1) - 1 = nI m ∧ nI m + (-1) = nI m - 1 ∧ ¬ (nI m < 0) := by decide +kernel
section XW
variable {Φ : bs_R → bs_H → Prop} {h : bs_H} {X w kc : Nat} {f : Nat → Nat} {ks : bs_Ks} {st : bs_St}
theorem IC.swp {n : Nat} {h' : bs_H} (i : IC X w f kc ks n st h) (c : cSwp X h') (s : same X (X + 30) h h') (s2 : same (X + 35) (X + 37) h h') : IC X w f kc ks n st h' := by
  obtain ⟨i0, i1, i2, i3, i4, i5, i6, i7, i8, i9, i10⟩ := i
  exact ⟨i0, i1.kept (s _ (by omega) (by omega)), i2.kept (s.sub (by omega) (by omega)), i3.kept (s.sub (by omega) (by omega)), i4.kept (s _ (by omega) (by omega)), i5.kept (s.sub (by omega) (by omega)), i6.kept (s.sub (by omega) (by omega)), i7.kept (s _ (by omega) (by omega)), i8.kept (s.sub (by omega) (by omega)), c, i10.kept s2⟩
theorem offX.c {h' : bs_H} (o : offX (X + 31) h h') : offC X h h' := ⟨fun b hb => o.1 b (by omega), o.2⟩
theorem IC.swx {n v : Nat} {h' : bs_H} {wa we : Nat → Int32} {lm : Nat → Int64} {d g c : Int64} (i : IC X w f kc ks n st h) (p : pX h' (X + 31) v wa we lm d g c) (o : offX (X + 31) h h') : IC X w f kc ks n st h' := i.swp ⟨_, _, _, _, _, _, _, p.1, p.2.1, p.2.2.1, p.2.2.2⟩ (fun b _ _ => o.1 b (by omega)) (fun b _ _ => o.1 b (by omega))
theorem pX.kept {h' : bs_H} {v : Nat} {wa we : Nat → Int32} {lm : Nat → Int64} {d g c : Int64} (p : pX h (X + 31) v wa we lm d g c) (s : same (X + 26) (X + 37) h h') : pX h' (X + 31) v wa we lm d g c := ⟨(s _ (by omega) (by omega)).trans p.1, (s _ (by omega) (by omega)).trans p.2.1, (s _ (by omega) (by omega)).trans p.2.2.1, (s _ (by omega) (by omega)).trans p.2.2.2⟩
theorem s_B_appendSwap2 {P : bs_Pr} (i : IC X w f kc ks P.1 P.2 h) {d : Int32} {z : Int64} (hn : P.1 < 192) (k : ∀ h', IC X w f kc ks (puSwap P d z).1 (puSwap P d z).2 h' → offC X h h' → same (X + 26) (X + 37) h h' → Φ (.ok none) h') : w_P_appendSwap Φ (X + 22) d z h := by
  unfold puSwap at k
  refine bs_ifc (fun hz => ?_) (fun hz => ?_)
  · rw [if_pos hz] at k; exact k h i (offC.refl X h) (same.refl _ _ h)
  · rw [if_neg hz] at k
    exact ⟨i.at22, s_B_append2 (x := (5, d, z)) i hn (fun h1 i1 o1 s1 => bs_kV_i (k h1 i1 o1 s1))⟩
theorem s_X_writeL {L : Nat} (hL : L < 7) (i : IC X (2 ^ L) f kc ks 0 st h) (ha : ∀ k, k < 2 ^ L → f k < 2 ^ L) (hb : ∀ i j, i < 2 ^ L → j < 2 ^ L → f i = f j → i = j) (k : ∀ h', IC X (2 ^ L) f kc ks (pu (m2b L f st L) (6, 0, 0)).1 (pu (m2b L f st L) (6, 0, 0)).2 h' → offC X h h' → Φ (.ok none) h') : w_X_write Φ (X + 31) (X + 1) (X + 22) h := by
  have w64 := pow_le64 L hL
  obtain ⟨g, p, q⟩ := i.2.2.1
  obtain ⟨v1, v2, v3, v4, g1, g2, g3, c1, c2, c3, c4⟩ := i.2.2.2.2.2.2.2.2.2.1
  refine ⟨⟨_, p.1⟩, s_M_bits p (bs_kI_i (bs_p_i c1 (by simp) rfl ?_))⟩
  have p0 : pX (bs_set h (X + 31) (bs_obj 5 [.ref (X + 32), .ref (X + 33), .ref (X + 34), .int (nI (2 ^ L)), .long v2, .long v3, .long v4])) (X + 31) (2 ^ L) g1 g2 g3 v2 v3 v4 := ⟨bs_set_eq, by rw [bs_set_ne (by omega)]; exact c2, by rw [bs_set_ne (by omega)]; exact c3, by rw [bs_set_ne (by omega)]; exact c4⟩
  have o0 : offX (X + 31) h (bs_set h (X + 31) (bs_obj 5 [.ref (X + 32), .ref (X + 33), .ref (X + 34), .int (nI (2 ^ L)), .long v2, .long v3, .long v4])) := (offX.refl _ h).set (by omega)
  show w_X_write_10 Φ 1000 (X + 31) (X + 1) (X + 22) (nI 0) (bs_set h (X + 31) (bs_obj 5 [.ref (X + 32), .ref (X + 33), .ref (X + 34), .int (nI (2 ^ L)), .long v2, .long v3, .long v4]))
  refine bs_for (σ := bs_H) (fun u z H => w_X_write_10 Φ u (X + 31) (X + 1) (X + 22) (nI z) H) (fun z H => offX (X + 31) h H ∧ ∃ G, pX H (X + 31) (2 ^ L) G g2 g3 v2 v3 v4 ∧ ∀ y, y < z → G y = nI (f y)) (2 ^ L) ?_ ?_ (2 ^ L) 0 _ 1000 (by omega) (by omega) ⟨o0, g1, p0, fun y hy => by omega⟩
  · rintro u z H hz ⟨oH, G, pH, hG⟩ nx
    have iH := i.swx pH oH
    obtain ⟨gm, pm, qm⟩ := iH.2.2.1
    refine bs_fI_i pH.1 rfl (bs_iff (nI_ge hz (by omega)) (bs_fA_i pH.1 rfl ⟨⟨_, pm.1⟩, s_M_sourceOf pm (by omega) (bs_kI_i (bs_sI_i z pH.2.1 rfl (by omega) (by decide) ?_))⟩))
    rw [← nI_succ]
    refine nx _ ⟨oH.set (by omega), _, pH.swa (va_up G z (gm z)), fun y hy => ?_⟩
    by_cases e : y = z
    · subst e; rw [bs_up_eq, (qm y hz).1]
    · rw [bs_up_ne _ _ e]; exact hG y (by omega)
  · rintro u H ⟨oH, G, pH, hG⟩
    have iH := i.swx pH oH
    refine bs_fI_i pH.1 rfl (bs_ift (nI_le (by omega) (by omega)) (bs_fI_i pH.1 rfl ?_))
    rw [nI_half (2 ^ L) (by omega)]
    show w_X_write_45 Φ 1000 (X + 31) (X + 22) (nI 0) (nI (2 ^ (L - 0) / 2)) H
    refine bs_for (σ := bs_H) (fun u z K => w_X_write_45 Φ u (X + 31) (X + 22) (nI z) (nI (2 ^ (L - z) / 2)) K) (fun z K => IC X (2 ^ L) f kc ks (m2a L f st z).1 (m2a L f st z).2 K ∧ offC X h K ∧ ∃ G we lm d g c, pX K (X + 31) (2 ^ L) G we lm d g c ∧ (∀ y, y < 2 ^ L → G y = nI (spP L f z y)) ∧ ∀ y, y < z → lm y = spL L f y) L ?_ ?_ L 0 H 1000 (by omega) (by omega) ⟨iH, oH.c, G, g2, g3, v2, v3, v4, pH, hG, fun y hy => by omega⟩
    · rintro u z K hz ⟨iK, oK, G, we, lm, d, g, c, pK, hG, hlm⟩ nx
      have e : 2 ^ (L - z) / 2 = 2 ^ (L - 1 - z) := by rw [show L - z = (L - 1 - z) + 1 by omega, Nat.pow_succ, Nat.mul_div_cancel _ (by omega)]
      have hj : L - 1 - z < L := by omega
      have j64 := pow_lt64 (show L - 1 - z < 6 by omega)
      have kp := (sp_ok hL ha hb z (by omega)).1
      have nn := m2a_ok hL f st z (by omega)
      show w_X_write_45 Φ (u + 1) (X + 31) (X + 22) (nI z) (nI (2 ^ (L - z) / 2)) K
      rw [e]
      refine bs_iff (nI_pow_pos _ (by omega)) (bs_iff (nI_ge (b := 6) (by omega) (by omega)) ⟨⟨_, pK.1⟩, s_X_decideWays hL hj kp hG pK (fun h1 we1 p1 o1 => bs_kV_i ?_)⟩)
      have i1 := iK.swx p1 o1
      refine bs_fL_i p1.1 rfl ⟨⟨_, p1.1⟩, s_X_lowerPlaces p1 w64.2 j64 _ (bs_kL_i ⟨i1.at22, s_B_appendSwap2 i1 (by omega) (fun h2 i2 o2 s2 => bs_kV_i ?_)⟩)⟩
      have p2 := p1.kept s2
      refine bs_fA_i p2.1 rfl (bs_fL_i p2.1 rfl ⟨⟨_, p2.1⟩, s_X_lowerPlaces p2 w64.2 j64 _ (bs_kL_i (bs_sL_i z p2.2.2.2 rfl (by omega) (by decide) ?_))⟩)
      have p3 := p2.slm (va_up lm z (loP (2 ^ L) (2 ^ (L - 1 - z)) (spS L f z).2.2))
      refine ⟨⟨_, p3.1⟩, s_X_divideBlocks hL hj kp hG p3 (fun h4 wa4 hG4 p4 o4 => bs_kV_i ?_)⟩
      rw [← nI_succ, nI_half _ (by omega), show L - 1 - z = L - (z + 1) by omega]
      have i4 := i2.swx p4 (((offX.refl (X + 31) h2).set (by omega)).trans o4)
      refine nx h4 ⟨i4, ((oK.trans o1.c).trans o2).trans (((offX.refl (X + 31) h2).set (by omega)).trans o4).c, wa4, we1, _, _, _, _, p4, hG4, fun y hy => ?_⟩
      by_cases ey : y = z
      · subst ey; rw [bs_up_eq]; rfl
      · rw [bs_up_ne _ _ ey]; exact hlm y (by omega)
    · rintro u K ⟨iK, oK, G, we, lm, d, g, c, pK, hG, hlm⟩
      show w_X_write_45 Φ (u + 1) (X + 31) (X + 22) (nI L) (nI (2 ^ (L - L) / 2)) K
      rw [Nat.sub_self]
      refine bs_ift (by decide) ?_
      show w_X_write_117 Φ 1000 (X + 31) (X + 22) (nI (L - 0) - 1) K
      refine bs_for (σ := bs_H) (fun u z T => w_X_write_117 Φ u (X + 31) (X + 22) (nI (L - z) - 1) T) (fun z T => IC X (2 ^ L) f kc ks (m2b L f st z).1 (m2b L f st z).2 T ∧ offC X h T ∧ pX T (X + 31) (2 ^ L) G we lm d g c) L ?_ ?_ L 0 K 1000 (by omega) (by omega) ⟨iK, oK, pK⟩
      · rintro u z T hz ⟨iT, oT, pT⟩ nx
        have e1 := nI_pre (L - 1 - z) (by omega)
        have nn := m2b_ok hL f st z (by omega)
        show w_X_write_117 Φ (u + 1) (X + 31) (X + 22) (nI (L - z) - 1) T
        rw [show L - z = (L - 1 - z) + 1 by omega, e1.1]
        refine bs_iff e1.2.2 (bs_fI_i pT.1 rfl (bs_fA_i pT.1 rfl (bs_lL_i (L - 1 - z) pT.2.2.2 rfl (by omega) (by decide) ⟨iT.at22, ?_⟩)))
        rw [hlm _ (by omega), nI_pow_shr L hL _ (by omega), show L - 1 - (L - 1 - z) = z by omega]
        refine s_B_appendSwap2 iT (by omega) (fun h1 i1 o1 s1 => bs_kV_i ?_)
        rw [e1.2.1, show L - 1 - z = L - (z + 1) by omega]
        exact nx h1 ⟨i1, oT.trans o1, pT.kept s1⟩
      · rintro u T ⟨iT, oT, pT⟩
        have nn := m2b_ok hL f st L (Nat.le_refl _)
        show w_X_write_117 Φ (u + 1) (X + 31) (X + 22) (nI (L - L) - 1) T
        rw [Nat.sub_self]
        refine bs_ift (by decide) ⟨iT.at22, s_B_append2 (x := (6, 0, 0)) iT (by omega) (fun h' i' o' s' => bs_kV_i (k h' i' (oT.trans o')))⟩
theorem s_X_write (i : IC X w f kc ks 0 st h) (hp : permB f w = true) (h2 : pw2 w = true) (k : ∀ h', IC X w f kc ks (mk2 w f st).1 (mk2 w f st).2 h' → offC X h h' → Φ (.ok none) h') : w_X_write Φ (X + 31) (X + 1) (X + 22) h := by
  obtain ⟨e1, e2⟩ := lgN_is w (by have := i.1.2.1; omega) h2
  obtain ⟨pa, pb, _⟩ := perm_all i.1.2.2.1 hp
  unfold mk2 at k
  generalize lgN w = L at e1 e2 k
  subst e1
  exact s_X_writeL e2 i pa pb k
end XW
