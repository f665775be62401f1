/-! make(0) and make(1): the two sides do it. -/
section MB
variable {Φ : bs_R → bs_H → Prop} {h : bs_H} {X w kc : Nat} {f : Nat → Nat} {ks : bs_Ks} {st : bs_St}
theorem s_B_writeShifts (i : IC X w f kc ks 0 st h) (k : ∀ h', IC X w f kc ks (mk0 w f st).1 (mk0 w f st).2 h' → offC X h h' → Φ (.ok none) h') : w_B_writeShifts Φ X h := by
  have h1 := i.1.1
  have hw := i.1.2.1
  have hf := i.1.2.2.1
  obtain ⟨g, p, q⟩ := i.2.2.1
  refine bs_fA_i i.2.1 rfl ⟨⟨_, p.1⟩, s_M_bits p (bs_kI_i ?_)⟩
  rw [show (1 : Int32) - nI w = dS w 0 from by unfold dS; rw [nI_0, Int32.add_zero]]
  refine bs_for (σ := bs_H) (fun u c H => w_B_writeShifts_10 Φ u X (dS w c) H) (fun c H => IC X w f kc ks (mkN 0 (dS w) (mvM w f) st c).1 (mkN 0 (dS w) (mvM w f) st c).2 H ∧ offC X h H) (2 * w - 1) ?_ ?_ (2 * w - 1) 0 h 1000 (by omega) (by omega) ⟨i, offC.refl X h⟩
  · rintro u c H hc ⟨iH, oH⟩ nx
    obtain ⟨g, p, q⟩ := iH.2.2.1
    have nle : ¬ nI w ≤ dS w c := by rw [Int32.le_iff_toInt_le, dS_int hw (by omega), nI_toInt (by omega)]; omega
    refine bs_fA_i iH.2.1 rfl ⟨⟨_, p.1⟩, s_M_bits p (bs_kI_i (bs_iff nle (bs_fA_i iH.2.1 rfl (bs_fA_i iH.2.1 rfl ⟨⟨_, p.1⟩, s_M_bitsShifted p hw q (bs_kL_i ⟨iH.at22, ?_⟩)⟩))))⟩
    refine s_B_appendMove (z := mvM w f c) iH (fun hz => mkN_room hw (mv_idx hw hf) hc hz) (fun h' i' o' => bs_kV_i ?_)
    rw [← dS_s]
    exact nx h' ⟨i', oH.trans o'⟩
  · rintro u H ⟨iH, oH⟩
    obtain ⟨g, p, q⟩ := iH.2.2.1
    have nle : nI w ≤ dS w (2 * w - 1) := by rw [Int32.le_iff_toInt_le, dS_int hw (by omega), nI_toInt (by omega)]; omega
    refine bs_fA_i iH.2.1 rfl ⟨⟨_, p.1⟩, s_M_bits p (bs_kI_i (bs_ift nle (bs_fA_i iH.2.1 rfl (bs_fA_i iH.2.1 rfl ⟨⟨_, p.1⟩, s_M_bitsThatAreOne p hw q (bs_kL_i ⟨iH.at22, ?_⟩)⟩))))⟩
    exact s_B_appendSet (z := onM w f) iH (fun hz => mkN_last hw (mv_idx hw hf) hz) (fun h' i' o' => bs_kV_i (k h' i' (oH.trans o')))
theorem s_B_writeRotations (i : IC X w f kc ks 0 st h) (k : ∀ h', IC X w f kc ks (mk1 w f st).1 (mk1 w f st).2 h' → offC X h h' → Φ (.ok none) h') : w_B_writeRotations Φ X h := by
  have h1 := i.1.1
  have hw := i.1.2.1
  have hf := i.1.2.2.1
  show w_B_writeRotations_2 Φ 1000 X (nI 0) h
  refine bs_for (σ := bs_H) (fun u c H => w_B_writeRotations_2 Φ u X (nI c) H) (fun c H => IC X w f kc ks (mkN 1 nI (roM w f) st c).1 (mkN 1 nI (roM w f) st c).2 H ∧ offC X h H) w ?_ ?_ w 0 h 1000 (by omega) (by omega) ⟨i, offC.refl X h⟩
  · rintro u c H hc ⟨iH, oH⟩ nx
    obtain ⟨g, p, q⟩ := iH.2.2.1
    refine bs_fA_i iH.2.1 rfl ⟨⟨_, p.1⟩, s_M_bits p (bs_kI_i (bs_iff (nI_ge hc (by omega)) (bs_fA_i iH.2.1 rfl (bs_fA_i iH.2.1 rfl ⟨⟨_, p.1⟩, s_M_bitsRotated p hw q (bs_kL_i ⟨iH.at22, ?_⟩)⟩))))⟩
    rw [ro_cls hw hf hc]
    refine s_B_appendMove (z := roM w f c) iH (fun hz => mkN_room hw (ro_idx hw) hc hz) (fun h' i' o' => bs_kV_i ?_)
    rw [← nI_succ]
    exact nx h' ⟨i', oH.trans o'⟩
  · rintro u H ⟨iH, oH⟩
    obtain ⟨g, p, q⟩ := iH.2.2.1
    refine bs_fA_i iH.2.1 rfl ⟨⟨_, p.1⟩, s_M_bits p (bs_kI_i (bs_ift (nI_le (by omega) (by omega)) (bs_fA_i iH.2.1 rfl (bs_fA_i iH.2.1 rfl ⟨⟨_, p.1⟩, s_M_bitsThatAreOne p hw q (bs_kL_i ⟨iH.at22, ?_⟩)⟩))))⟩
    exact s_B_appendSet (z := onM w f) iH (fun hz => mkN_last hw (ro_idx hw) hz) (fun h' i' o' => bs_kV_i (k h' i' (oH.trans o')))
end MB
section MR
variable {Φ : bs_R → bs_H → Prop} {h : bs_H} {Y w kc : Nat} {th : Int32} {f : Nat → Nat} {ks : bs_Ks} {st : bs_St} {P : bs_Pr}
theorem s_R_addOnes (i : IR Y th w f kc ks P.1 P.2 h) (hn : onM w f ≠ 0 → P.1 < 192) (k : ∀ h', IR Y th w f kc ks (puSet P (onM w f)).1 (puSet P (onM w f)).2 h' → offR Y h h' → Φ (.ok none) h') : w_R_addOnes Φ Y h := by
  have hw := i.1.2.1
  obtain ⟨g, p, q⟩ := i.2.2.1
  show w_R_addOnes_4 Φ 1000 Y 0 (nI 0) h
  refine bs_for (σ := Int64) (fun u c s => w_R_addOnes_4 Φ u Y s (nI c) h) (fun c s => s = lb_of (fun i => decide (f i = 65)) c) w ?_ ?_ w 0 0 1000 (by omega) (by omega) rfl
  · intro u c s hc hs nx
    have e : (g c = 65) ↔ f c = 65 := by have := (q c hc).2; rw [(q c hc).1]; exact nI_eq (a := f c) (b := 65) (by omega) (by decide)
    refine bs_fI_i i.2.1 rfl (bs_iff (nI_ge hc (by omega)) (bs_fA_i i.2.1 rfl (bs_lI_i c p rfl (by omega) (by decide) (bs_ife e (fun h65 => ?_) (fun h65 => ?_)))))
    · show w_R_addOnes_4 Φ u Y (s ||| bs_shl 1 (nI c)) (nI c + 1) h
      rw [← nI_succ]
      exact nx _ (by rw [lb_of, if_pos (by simp [h65]), hs])
    · show w_R_addOnes_4 Φ u Y s (nI c + 1) h
      rw [← nI_succ]
      exact nx _ (by rw [lb_of, if_neg (by simp [h65]), hs])
  · intro u s hs
    have hs : s = onM w f := hs
    subst hs
    unfold puSet at k
    refine bs_fI_i i.2.1 rfl (bs_ift (nI_le (by omega) (by omega)) (bs_ifc (fun hz => ?_) (fun hz => ?_)))
    · rw [if_pos hz] at k; exact k h i (offR.refl Y h)
    · rw [if_neg hz] at k
      exact ⟨⟨_, i.2.1⟩, s_R_add (x := (4, 0, onM w f)) i (hn hz) (fun h' i' o' => bs_kV_i (k h' i' o'))⟩
/-- one amount of the reference's moves: the inner loop, then the steps -/
theorem s_R_makeMoves_28 (i : IR Y th w f kc ks P.1 P.2 h) {nx15 : Nat → Int32 → Int32 → bs_H → Prop} (b : Bool) (d : Int32) (M : Int64) (hM : M = lb_of (fun i => decide (f i < 64) && decide ((if b = false then nI i - nI (f i) else if 0 ≤ nI i - nI (f i) then nI i - nI (f i) else nI i - nI (f i) + nI w) = d)) w) (hn : M ≠ 0 → P.1 + 2 < 192)
    (k : ∀ h', IR Y th w f kc ks (puMove P (bz b) d M).1 (puMove P (bz b) d M).2 h' → offR Y h h' → nx15 Y (bz b) (d + 1) h') : w_R_makeMoves_28 Φ nx15 1000 Y (bz b) d 0 0 h := by
  have hw := i.1.2.1
  obtain ⟨g, p, q⟩ := i.2.2.1
  show w_R_makeMoves_28 Φ nx15 1000 Y (bz b) d 0 (nI 0) h
  refine bs_for (σ := Int64) (fun u c s => w_R_makeMoves_28 Φ nx15 u Y (bz b) d s (nI c) h) (fun c s => s = lb_of (fun i => decide (f i < 64) && decide ((if b = false then nI i - nI (f i) else if 0 ≤ nI i - nI (f i) then nI i - nI (f i) else nI i - nI (f i) + nI w) = d)) c) w ?_ ?_ w 0 0 1000 (by omega) (by omega) rfl
  · intro u c s hc hs nx
    obtain ⟨q1, q2⟩ := q c hc
    have e64 : ((64 : Int32) ≤ g c) ↔ 64 ≤ f c := by rw [q1]; exact nI_leI (a := 64) (b := f c) (by decide) (by omega)
    have stp : ∀ v : Int32, (v = if b = false then nI c - nI (f c) else if 0 ≤ nI c - nI (f c) then nI c - nI (f c) else nI c - nI (f c) + nI w) → w_R_makeMoves_70 Φ nx15 (w_R_makeMoves_28 Φ nx15 u) Y (bz b) d s (nI c) v h := by
      intro v hv
      refine bs_fA_i i.2.1 rfl (bs_lI_i c p rfl (by omega) (by decide) (bs_ife e64 (fun h64 => ?_) (fun h64 => bs_ifc (fun hd => ?_) (fun hd => ?_))))
      · show w_R_makeMoves_28 Φ nx15 u Y (bz b) d s (nI c + 1) h
        rw [← nI_succ]
        have : ¬ f c < 64 := by omega
        exact nx _ (by rw [lb_of, if_neg (by simp [this]), hs])
      · show w_R_makeMoves_28 Φ nx15 u Y (bz b) d (s ||| bs_shl 1 (nI c)) (nI c + 1) h
        rw [← nI_succ]
        have h64 : f c < 64 := by omega
        exact nx _ (by rw [lb_of, if_pos (by rw [← hv, decide_eq_true hd, decide_eq_true h64]; rfl), hs])
      · show w_R_makeMoves_28 Φ nx15 u Y (bz b) d s (nI c + 1) h
        rw [← nI_succ]
        exact nx _ (by rw [lb_of, if_neg (by rw [← hv, decide_eq_false hd]; simp), hs])
    refine bs_fI_i i.2.1 rfl (bs_iff (nI_ge hc (by omega)) (bs_fA_i i.2.1 rfl (bs_lI_i c p rfl (by omega) (by decide) ?_)))
    rw [q1]
    refine bs_ifz (fun hb => ?_) (fun hb => bs_ifc (fun h0 => ?_) (fun h0 => bs_fI_i i.2.1 rfl ?_))
    · exact stp _ (by rw [if_pos hb])
    · exact stp _ (by rw [if_neg (by rw [hb]; exact (fun q => by cases q)), if_pos h0])
    · exact stp _ (by rw [if_neg (by rw [hb]; exact (fun q => by cases q)), if_neg h0])
  · intro u s hs
    have hs : s = M := hs.trans hM.symm
    subst hs
    unfold puMove at k
    refine bs_fI_i i.2.1 rfl (bs_ift (nI_le (by omega) (by omega)) (bs_ifc (fun hz => ?_) (fun hz => ?_)))
    · rw [if_pos hz] at k; exact k h i (offR.refl Y h)
    · rw [if_neg hz] at k
      have hn := hn hz
      have three : w_R_makeMoves_123 Φ nx15 Y (bz b) d s Y (bz b) h := ⟨⟨_, i.2.1⟩, s_R_add (x := (bz b, d, 0)) i (by omega) (fun h1 i1 o1 => bs_kV_i ⟨⟨_, i1.2.1⟩, s_R_add (x := (2, 0, s)) i1 (by show P.1 + 1 < 192; omega) (fun h2 i2 o2 => bs_kV_i ⟨⟨_, i2.2.1⟩, s_R_add (x := (3, 0, 0)) i2 (by show P.1 + 2 < 192; omega) (fun h3 i3 o3 => bs_kV_i (k h3 i3 ((o1.trans o2).trans o3)))⟩)⟩)⟩
      refine bs_ifz (fun hb => ?_) (fun hb => ?_)
      · rw [hb] at three ⊢; exact three
      · rw [hb] at three ⊢; exact three
theorem s_R_makeMoves0 (i : IR Y th w f kc ks 0 st h) (k : ∀ h', IR Y th w f kc ks (mk0 w f st).1 (mk0 w f st).2 h' → offR Y h h' → Φ (.ok none) h') : w_R_makeMoves Φ Y 0 h := by
  have h1 := i.1.1
  have hw := i.1.2.1
  have hf := i.1.2.2.1
  refine bs_ift rfl (bs_fI_i i.2.1 rfl ?_)
  show w_R_makeMoves_15 Φ 1000 Y (bz false) ((1 : Int32) - nI w) h
  rw [show (1 : Int32) - nI w = dS w 0 from by unfold dS; rw [nI_0, Int32.add_zero]]
  refine bs_for (σ := bs_H) (fun u c H => w_R_makeMoves_15 Φ u Y (bz false) (dS w c) H) (fun c H => IR Y th w f kc ks (mkN 0 (dS w) (mvM w f) st c).1 (mkN 0 (dS w) (mvM w f) st c).2 H ∧ offR Y h H) (2 * w - 1) ?_ ?_ (2 * w - 1) 0 h 1000 (by omega) (by omega) ⟨i, offR.refl Y h⟩
  · rintro u c H hc ⟨iH, oH⟩ nx
    have nle : ¬ nI w ≤ dS w c := by rw [Int32.le_iff_toInt_le, dS_int hw (by omega), nI_toInt (by omega)]; omega
    refine bs_fI_i iH.2.1 rfl (bs_iff nle (s_R_makeMoves_28 iH false (dS w c) (mvM w f c) ?_ (fun hz => mkN_room hw (mv_idx hw hf) hc hz) (fun h' i' o' => ?_)))
    · exact lb_of_congr w (fun z hz => rfl)
    · rw [← dS_s]; exact nx h' ⟨i', oH.trans o'⟩
  · rintro u H ⟨iH, oH⟩
    have nle : nI w ≤ dS w (2 * w - 1) := by rw [Int32.le_iff_toInt_le, dS_int hw (by omega), nI_toInt (by omega)]; omega
    exact bs_fI_i iH.2.1 rfl (bs_ift nle ⟨⟨_, iH.2.1⟩, s_R_addOnes iH (fun hz => mkN_last hw (mv_idx hw hf) hz) (fun h' i' o' => bs_kV_i (k h' i' (oH.trans o')))⟩)
theorem s_R_makeMoves1 (i : IR Y th w f kc ks 0 st h) (k : ∀ h', IR Y th w f kc ks (mk1 w f st).1 (mk1 w f st).2 h' → offR Y h h' → Φ (.ok none) h') : w_R_makeMoves Φ Y 1 h := by
  have h1 := i.1.1
  have hw := i.1.2.1
  refine bs_iff (by decide) ?_
  show w_R_makeMoves_15 Φ 1000 Y (bz true) (nI 0) h
  refine bs_for (σ := bs_H) (fun u c H => w_R_makeMoves_15 Φ u Y (bz true) (nI c) H) (fun c H => IR Y th w f kc ks (mkN 1 nI (roM w f) st c).1 (mkN 1 nI (roM w f) st c).2 H ∧ offR Y h H) w ?_ ?_ w 0 h 1000 (by omega) (by omega) ⟨i, offR.refl Y h⟩
  · rintro u c H hc ⟨iH, oH⟩ nx
    refine bs_fI_i iH.2.1 rfl (bs_iff (nI_ge hc (by omega)) (s_R_makeMoves_28 iH true (nI c) (roM w f c) ?_ (fun hz => mkN_room hw (ro_idx hw) hc hz) (fun h' i' o' => ?_)))
    · exact lb_of_congr w (fun z hz => rfl)
    · rw [← nI_succ]; exact nx h' ⟨i', oH.trans o'⟩
  · rintro u H ⟨iH, oH⟩
    exact bs_fI_i iH.2.1 rfl (bs_ift (nI_le (by omega) (by omega)) ⟨⟨_, iH.2.1⟩, s_R_addOnes iH (fun hz => mkN_last hw (ro_idx hw) hz) (fun h' i' o' => bs_kV_i (k h' i' (oH.trans o')))⟩)
/-- and what they make fits -/
theorem mk0_ok (h1 : 1 ≤ w) (hw : w ≤ 64) : okP w (mk0 w f st) := by
  refine (mkN_ok (K := 2 * w - 1) (opL_n (j := 0) (by omega)) (fun k hk => ?_) (fun k hk => lb_of_in hw) _ (Nat.le_refl _)).set (lb_of_in hw)
  have e := dS_int (w := w) (k := k) hw (by omega)
  have a1 : -(w : Int) < (dS w k).toInt := by omega
  have a2 : (dS w k).toInt < (w : Int) := by omega
  show fitsB w 0 (dS w k) 0 = true
  simp [fitsB, a1, a2]
theorem mk1_ok (hw : w ≤ 64) : okP w (mk1 w f st) := by
  refine (mkN_ok (K := w) (opL_n (j := 1) (by omega)) (fun k hk => ?_) (fun k hk => lb_of_in hw) _ (Nat.le_refl _)).set (lb_of_in hw)
  have e : (nI k).toInt = (k : Int) := nI_toInt (by omega)
  have a1 : 0 ≤ (nI k).toInt := by omega
  have a2 : (nI k).toInt < (w : Int) := by omega
  show fitsB w 1 (nI k) 0 = true
  simp [fitsB, a1, a2]
end MR
