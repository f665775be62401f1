/-! keep, join, invert, on both sides; the reference's isPermutation. -/
def joinF (f f2 : Nat → Nat) (i : Nat) : Nat := if f2 i < 64 then f (f2 i) else f2 i
theorem joinF_ok {w : Nat} {f f2 : Nat → Nat} (hw : w ≤ 64) (h1 : okF w f) (h2 : okF w f2) : okF w (joinF f f2) := by
  intro k hk
  unfold joinF
  by_cases h : f2 k < 64
  · rw [if_pos h]
    refine h1 _ ?_
    rcases h2 k hk with h3 | h3 | h3 <;> omega
  · rw [if_neg h]
    exact h2 k hk
theorem invF_ok {w : Nat} {f : Nat → Nat} (hw : 1 ≤ w) : okF w (idxN f w) := fun k _ => Or.inl (idxN_lt f w k hw)
/-- the kept maps' cells anew -/
theorem IC.kep {X w kc kc' n : Nat} {f : Nat → Nat} {ks ks' : bs_Ks} {st : bs_St} {h h' : bs_H} (i : IC X w f kc ks n st h) (hk : kc' ≤ 8) (c0 : cB X kc' h') (c : cKep X kc' ks' h') (s1 : same (X + 1) (X + 5) h h') (s2 : same (X + 22) (X + 37) h h') : IC X w f kc' ks' n st h' := by
  obtain ⟨i0, i1, i2, i3, i4, i5, i6, i7, i8, i9, i10⟩ := i
  exact ⟨⟨i0.1, i0.2.1, i0.2.2.1, hk, i0.2.2.2.2⟩, c0, i2.kept (s1.sub (by omega) (by omega)), i3.kept (s1.sub (by omega) (by omega)), i4.kept (s1 _ (by omega) (by omega)), c, i6.kept (s2.sub (by omega) (by omega)), i7.kept (s2 _ (by omega) (by omega)), i8.kept (s2.sub (by omega) (by omega)), i9.kept (s2.sub (by omega) (by omega)), i10.kept (s2.sub (by omega) (by omega))⟩
/-- what the map was: its cells anew -/
theorem IC.for {X w kc n : Nat} {f : Nat → Nat} {ks : bs_Ks} {st : bs_St} {h h' : bs_H} (i : IC X w f kc ks n st h) (c : cFor X h') (s1 : same X (X + 2) h h') (s2 : same (X + 5) (X + 37) h h') : IC X w f kc ks n st h' := by
  obtain ⟨i0, i1, i2, i3, i4, i5, i6, i7, i8, i9, i10⟩ := i
  exact ⟨i0, i1.kept (s1 _ (by omega) (by omega)), i2.kept (s1.sub (by omega) (by omega)), c, i4.kept (s2 _ (by omega) (by omega)), i5.kept (s2.sub (by omega) (by omega)), i6.kept (s2.sub (by omega) (by omega)), i7.kept (s2 _ (by omega) (by omega)), i8.kept (s2.sub (by omega) (by omega)), i9.kept (s2.sub (by omega) (by omega)), i10.kept (s2.sub (by omega) (by omega))⟩
theorem bs_lA_i {h : bs_H} {a n v : Nat} {i : Int32} {Q : Nat → Prop} {f : Nat → Option Nat} (j : Nat) (hx : h.1 a = some (bs_ra n f)) (hi : i = nI j) (hj : j < n) (hn : n < 2 ^ 31) (hv : f j = some v) (z : Q v) : bs_lA h a i Q := by
  subst hi
  refine ⟨n, f, v, hx, vp_in_nI hj hn, ?_, z⟩
  rw [nI_clamp (by omega)]
  exact hv
section SK
variable {Φ : bs_R → bs_H → Prop} {h : bs_H} {X Y w kc n : Nat} {th : Int32} {f : Nat → Nat} {ks : bs_Ks} {st : bs_St}
theorem s_B_keep (i : IC X w f kc ks n st h) (ke : kc = 8 → bud h 1 ∧ Φ (.error "java/lang/IllegalStateException") (bs_thrown h)) (ko : kc < 8 → ∀ h', IC X w f (kc + 1) (va_up ks kc (w, f)) n st h' → offC X h h' → Φ (.ok (some (.int (nI kc)))) h') : w_B_keep Φ X h := by
  have hk := i.1.2.2.2.1
  have e8 : (nI kc < 8) ↔ kc < 8 := nI_ltI (a := kc) (b := 8) (by omega) (by decide)
  refine bs_fI_i i.2.1 rfl (bs_ife e8 (fun hc => ?_) (fun hc => ?_))
  · obtain ⟨fk, a1, a2⟩ := i.2.2.2.2.1
    obtain ⟨v, g, p, -⟩ := i.2.2.2.2.2.1 kc hc
    obtain ⟨gm, pm, qm⟩ := i.2.2.1
    refine bs_fA_i i.2.1 rfl (bs_fI_i i.2.1 rfl (bs_lA_i kc a1 rfl hc (by decide) (a2 kc hc) (bs_fA_i i.2.1 rfl ⟨⟨_, p.1⟩, s_M_becomeCopy p pm (by omega) (fun G hG => bs_kV_i ?_)⟩)))
    have b1 : (bs_set (bs_set h (X + 6 + 2 * kc) (bs_obj 1 [.ref (X + 6 + 2 * kc + 1), .int (nI w)])) (X + 6 + 2 * kc + 1) (bs_ia 64 G)).1 X = h.1 X := by rw [bs_set_ne (by omega), bs_set_ne (by omega)]
    refine bs_fI_i (b1.trans i.2.1) rfl (bs_p_i (b1.trans i.2.1) (by simp) rfl (bs_fI_i bs_set_eq rfl ?_))
    rw [← nI_succ, nI_pred]
    refine ko hc _ (i.kep (by omega) bs_set_eq (fun k hk8 => ?_) (((same.set (by omega)).trans (same.set (by omega))).trans (same.set (by omega))) (((same.set (by omega)).trans (same.set (by omega))).trans (same.set (by omega)))) ((((offC.refl X h).set (by omega)).set (by omega)).set (by omega))
    by_cases hkk : k = kc
    · subst hkk
      refine ⟨nI w, G, (p.set _ _).off (by omega) (by omega), fun _ => ?_⟩
      rw [bs_up_eq]
      exact ⟨rfl, i.1.1, i.1.2.1, fun z hz => by rw [hG z (by have := i.1.2.1; omega)]; exact qm z hz, i.1.2.2.1⟩
    · obtain ⟨v', g', p', q'⟩ := i.2.2.2.2.2.1 k hk8
      refine ⟨v', g', ((p'.off (by omega) (by omega)).off (by omega) (by omega)).off (by omega) (by omega), fun hk1 => ?_⟩
      rw [bs_up_ne _ _ hkk]
      exact q' (by omega)
  · exact bs_th_i (ke (by omega)).1 (ke (by omega)).2
theorem s_B_join (i : IC X w f kc ks n st h) (x : Int32) (ke : ¬ (0 ≤ x.toInt ∧ x.toInt < kc) → bud h 1 ∧ Φ (.error "java/lang/IllegalArgumentException") (bs_thrown h)) (kw : ∀ j, j < kc → x = nI j → (ks j).1 ≠ w → bud h 1 ∧ Φ (.error "java/lang/IllegalStateException") (bs_thrown h))
    (ko : ∀ j, j < kc → x = nI j → (ks j).1 = w → ∀ h', IC X w (joinF f (ks j).2) kc ks n st h' → offC X h h' → Φ (.ok none) h') : w_B_join Φ X x h := by
  have hk := i.1.2.2.2.1
  have hw := i.1.2.1
  have e : (nI kc).toInt = (kc : Int) := nI_toInt (by omega)
  have z : (0 : Int32).toInt = 0 := rfl
  refine bs_ifc (fun hc => ?_) (fun hc => bs_fI_i i.2.1 rfl (bs_ifc (fun hd => ?_) (fun hd => ?_)))
  · rw [Int32.lt_iff_toInt_lt] at hc
    exact bs_th_i (ke (by omega)).1 (ke (by omega)).2
  · rw [Int32.lt_iff_toInt_lt] at hc
    rw [Int32.lt_iff_toInt_lt, e] at hd
    obtain ⟨j, hj, rfl⟩ := nI_between (x := x) (m := kc) ⟨by omega, by omega⟩
    obtain ⟨fk, a1, a2⟩ := i.2.2.2.2.1
    obtain ⟨v, g2, p2, q2⟩ := i.2.2.2.2.2.1 j (by omega)
    obtain ⟨hv, hk1, hk2, hg2, hok2⟩ := q2 hj
    subst hv
    obtain ⟨gm, pm, qm⟩ := i.2.2.1
    obtain ⟨vf, gf, pf⟩ := i.2.2.2.1
    refine bs_fA_i i.2.1 rfl (bs_lA_i j a1 rfl (by omega) (by decide) (a2 j (by omega)) ⟨⟨_, p2.1⟩, s_M_bits p2 (bs_kI_i (bs_fA_i i.2.1 rfl ⟨⟨_, pm.1⟩, s_M_bits pm (bs_kI_i (bs_ife (nI_eq (a := (ks j).1) (b := w) (by omega) (by omega)) (fun he => ?_) (fun he => ?_)))⟩))⟩)
    · rw [he] at hg2 p2 hok2
      refine bs_fA_i i.2.1 rfl (bs_fA_i i.2.1 rfl ⟨⟨_, pf.1⟩, s_M_becomeCopy pf pm (by omega) (fun G hG => bs_kV_i ?_)⟩)
      have i1 : IC X w f kc ks n st (bs_set (bs_set h (X + 3) (bs_obj 1 [.ref (X + 3 + 1), .int (nI w)])) (X + 3 + 1) (bs_ia 64 G)) := i.for ⟨_, _, pf.set _ _⟩ ((same.set (by omega)).trans (same.set (by omega))) ((same.set (by omega)).trans (same.set (by omega)))
      have o1 : offC X h (bs_set (bs_set h (X + 3) (bs_obj 1 [.ref (X + 3 + 1), .int (nI w)])) (X + 3 + 1) (bs_ia 64 G)) := ((offC.refl X h).set (by omega)).set (by omega)
      have pf1 : pM (bs_set (bs_set h (X + 3) (bs_obj 1 [.ref (X + 3 + 1), .int (nI w)])) (X + 3 + 1) (bs_ia 64 G)) (X + 3) (nI w) G := pf.set _ _
      have pm1 : pM (bs_set (bs_set h (X + 3) (bs_obj 1 [.ref (X + 3 + 1), .int (nI w)])) (X + 3 + 1) (bs_ia 64 G)) (X + 1) (nI w) gm := (pm.off (by omega) (by omega)).off (by omega) (by omega)
      have p21 : pM (bs_set (bs_set h (X + 3) (bs_obj 1 [.ref (X + 3 + 1), .int (nI w)])) (X + 3 + 1) (bs_ia 64 G)) (X + 6 + 2 * j) (nI w) g2 := (p2.off (by omega) (by omega)).off (by omega) (by omega)
      have a11 : (bs_set (bs_set h (X + 3) (bs_obj 1 [.ref (X + 3 + 1), .int (nI w)])) (X + 3 + 1) (bs_ia 64 G)).1 (X + 5) = some (bs_ra 8 fk) := by rw [bs_set_ne (by omega), bs_set_ne (by omega)]; exact a1
      generalize bs_set (bs_set h (X + 3) (bs_obj 1 [.ref (X + 3 + 1), .int (nI w)])) (X + 3 + 1) (bs_ia 64 G) = h1 at i1 o1 pf1 pm1 p21 a11 ⊢
      refine bs_fA_i i1.2.1 rfl (bs_fA_i i1.2.1 rfl (bs_fA_i i1.2.1 rfl (bs_lA_i j a11 rfl (by omega) (by decide) (a2 j (by omega)) ⟨⟨_, pm1.1⟩, s_M_becomeJoined (f1 := f) (f2 := (ks j).2) hw pm1 pf1 p21 (by omega) (by omega) hg2 (fun z hz hz64 => ?_) (fun G' hG' => bs_kV_i ?_)⟩)))
      · have hlt : (ks j).2 z < w := by rcases hok2 z hz with h3 | h3 | h3 <;> omega
        rw [hG _ (by omega), (qm _ hlt).1]
      · refine ko j hj rfl he _ (i1.map ⟨i.1.1, hw, joinF_ok hw i.1.2.2.1 hok2⟩ ⟨_, pm1.set _ _, fun z hz => ⟨hG' z hz, ?_⟩⟩ (by rw [bs_set_ne (by omega), bs_set_ne (by omega)]) ((same.set (by omega)).trans (same.set (by omega)))) ((o1.set (by omega)).set (by omega))
        have := joinF_ok hw i.1.2.2.1 hok2 z hz
        omega
    · exact bs_th_i (kw j hj rfl he).1 (kw j hj rfl he).2
  · rw [Int32.lt_iff_toInt_lt, e] at hd
    exact bs_th_i (ke (by omega)).1 (ke (by omega)).2
theorem s_B_invert (i : IC X w f kc ks n st h) (ke : permB f w = false → bud h 1 ∧ Φ (.error "java/lang/UnsupportedOperationException") (bs_thrown h)) (ko : permB f w = true → ∀ h', IC X w (idxN f w) kc ks n st h' → offC X h h' → Φ (.ok none) h') : w_B_invert Φ X h := by
  have hw := i.1.2.1
  obtain ⟨gm, pm, qm⟩ := i.2.2.1
  obtain ⟨vf, gf, pf⟩ := i.2.2.2.1
  refine bs_fA_i i.2.1 rfl ⟨⟨_, pm.1⟩, s_M_isPermutation pm hw qm (bs_kI_i (bs_ifz (fun hc => ?_) (fun hc => ?_)))⟩
  · exact bs_th_i (ke hc).1 (ke hc).2
  · obtain ⟨hlt, hinj, hsur⟩ := perm_all i.1.2.2.1 hc
    refine bs_fA_i i.2.1 rfl (bs_fA_i i.2.1 rfl ⟨⟨_, pf.1⟩, s_M_becomeCopy pf pm (by omega) (fun G hG => bs_kV_i ?_)⟩)
    have i1 : IC X w f kc ks n st (bs_set (bs_set h (X + 3) (bs_obj 1 [.ref (X + 3 + 1), .int (nI w)])) (X + 3 + 1) (bs_ia 64 G)) := i.for ⟨_, _, pf.set _ _⟩ ((same.set (by omega)).trans (same.set (by omega))) ((same.set (by omega)).trans (same.set (by omega)))
    have o1 : offC X h (bs_set (bs_set h (X + 3) (bs_obj 1 [.ref (X + 3 + 1), .int (nI w)])) (X + 3 + 1) (bs_ia 64 G)) := ((offC.refl X h).set (by omega)).set (by omega)
    have pf1 : pM (bs_set (bs_set h (X + 3) (bs_obj 1 [.ref (X + 3 + 1), .int (nI w)])) (X + 3 + 1) (bs_ia 64 G)) (X + 3) (nI w) G := pf.set _ _
    have pm1 : pM (bs_set (bs_set h (X + 3) (bs_obj 1 [.ref (X + 3 + 1), .int (nI w)])) (X + 3 + 1) (bs_ia 64 G)) (X + 1) (nI w) gm := (pm.off (by omega) (by omega)).off (by omega) (by omega)
    generalize bs_set (bs_set h (X + 3) (bs_obj 1 [.ref (X + 3 + 1), .int (nI w)])) (X + 3 + 1) (bs_ia 64 G) = h1 at i1 o1 pf1 pm1 ⊢
    refine bs_fA_i i1.2.1 rfl (bs_fA_i i1.2.1 rfl ⟨⟨_, pm1.1⟩, s_M_becomeInverse (f := f) hw pm1 pf1 (by omega) (fun z hz => ⟨by rw [hG z (by omega)]; exact (qm z hz).1, (qm z hz).2⟩) hlt (fun G' hG' => bs_kV_i ?_)⟩)
    refine ko hc _ (i1.map ⟨i.1.1, hw, invF_ok i.1.1⟩ ⟨_, pm1.set _ _, fun z hz => ⟨hG' z hz (hsur z hz), ?_⟩⟩ (by rw [bs_set_ne (by omega), bs_set_ne (by omega)]) ((same.set (by omega)).trans (same.set (by omega)))) ((o1.set (by omega)).set (by omega))
    have := idxN_lt f w z i.1.1
    omega
/-- the reference's rows anew, one by one -/
theorem IR.lea (i : IR Y th w f kc ks n st h) {h' : bs_H} (c : rLea Y h') (s : same Y (Y + 20) h h') : IR Y th w f kc ks n st h' := by
  obtain ⟨i0, i1, i2, i3, i4, i5, i6, i7, i8⟩ := i
  exact ⟨i0, i1.kept (s _ (by omega) (by omega)), i2.kept (s _ (by omega) (by omega)), i3.kept (s.sub (by omega) (by omega)), i4.kept (s.sub (by omega) (by omega)), i5.kept (s.sub (by omega) (by omega)), i6.kept (s.sub (by omega) (by omega)), i7.kept (s.sub (by omega) (by omega)), c⟩
theorem IR.taken (i : IR Y th w f kc ks n st h) (G : Nat → Int32) : IR Y th w f kc ks n st (bs_set h (Y + 23) (bs_ia 64 G)) := by
  obtain ⟨g1, g2, g3, p1, p2, p3⟩ := i.2.2.2.2.2.2.2.2
  exact i.lea ⟨g1, g2, G, by rw [bs_set_ne (by omega)]; exact p1, by rw [bs_set_ne (by omega)]; exact p2, bs_set_eq⟩ (same.set (by omega))
theorem s_R_isPermutation (i : IR Y th w f kc ks n st h) (ko : ∀ h', IR Y th w f kc ks n st h' → offR Y h h' → Φ (.ok (some (.int (bz (permB f w))))) h') : w_R_isPermutation Φ Y h := by
  have hw := i.1.2.1
  have hok := i.1.2.2.1
  obtain ⟨l1, l2, g0, -, -, p0⟩ := i.2.2.2.2.2.2.2.2
  obtain ⟨gm, pm, qm⟩ := i.2.2.1
  have pm' : ∀ G : Nat → Int32, (bs_set h (Y + 23) (bs_ia 64 G)).1 (Y + 1) = some (bs_ia 64 gm) := fun G => by rw [bs_set_ne (by omega)]; exact pm
  have second : ∀ G : Nat → Int32, (∀ z, z < w → G z = nI 0) → w_R_isPermutation_27 Φ 1000 Y (bz true) (nI 0) (bs_set h (Y + 23) (bs_ia 64 G)) := by
    intro G hG
    refine bs_for (σ := Bool × (Nat → Int32)) (fun m c s => w_R_isPermutation_27 Φ m Y (bz s.1) (nI c) (bs_set h (Y + 23) (bs_ia 64 s.2))) (fun c s => s.1 = permB f c ∧ (permB f c = true → ∀ z, z < w → s.2 z = nI (if (List.range c).any (fun j => decide (f j = z)) then 1 else 0))) w ?_ ?_ w 0 (true, G) 1000 (by omega) (by omega) ⟨rfl, fun _ z hz => by simp [hG z hz]⟩
    · rintro m c ⟨b, G⟩ hc ⟨hs1, hs2⟩ nx
      dsimp only at hs1 hs2
      show w_R_isPermutation_27 Φ (m + 1) Y (bz b) (nI c) (bs_set h (Y + 23) (bs_ia 64 G))
      have ic := i.taken G
      have no : permB f (c + 1) = false → w_R_isPermutation_54 Φ (w_R_isPermutation_27 Φ m) Y (nI c) (bs_set h (Y + 23) (bs_ia 64 G)) := by
        intro hf
        refine bs_ift rfl ?_
        show w_R_isPermutation_27 Φ m Y (bz false) (nI c + 1) (bs_set h (Y + 23) (bs_ia 64 G))
        rw [← nI_succ]
        exact nx (false, G) ⟨hf.symm, fun z => by rw [hf] at z; cases z⟩
      refine bs_fI_i ic.2.1 rfl (bs_iff (nI_ge (by omega) (by omega)) (bs_ifz (fun hb => ?_) (fun hb => ?_)))
      · refine no ?_
        rw [hb] at hs1
        simp [permB, ← hs1]
      · rw [hb] at hs1
        have hq := qm c hc
        have e64 : ((64 : Int32) ≤ gm c) ↔ 64 ≤ f c := by rw [hq.1]; exact nI_leI (a := 64) (b := f c) (by decide) (by omega)
        refine bs_fA_i ic.2.1 rfl (bs_lI_i c (pm' G) rfl (by omega) (by decide) (bs_ife e64 (fun h1 => ?_) (fun h1 => ?_)))
        · refine no ?_
          have : ¬ f c < 64 := by omega
          simp [permB, this]
        · have hfw : f c < w := by rcases hok c hc with h3 | h3 | h3 <;> omega
          have hG := hs2 hs1.symm (f c) hfw
          refine bs_iff (by decide) (bs_fA_i ic.2.1 rfl (bs_fA_i ic.2.1 rfl (bs_lI_i c (pm' G) rfl (by omega) (by decide) (bs_lI_i (f c) bs_set_eq hq.1 (by omega) (by decide) (bs_sI_i (f c) bs_set_eq hq.1 (by omega) (by decide) ?_)))))
          rw [bs_set_set]
          have ic2 := i.taken (va_up G (f c) (G (f c) + 1))
          refine bs_fA_i ic2.2.1 rfl (bs_fA_i ic2.2.1 rfl (bs_lI_i c (pm' _) rfl (by omega) (by decide) (bs_lI_i (f c) bs_set_eq hq.1 (by omega) (by decide) ?_)))
          rw [bs_up_eq, hG]
          by_cases hany : (List.range c).any (fun j => decide (f j = f c)) = true
          · rw [if_pos hany]
            refine bs_iff (by decide) ?_
            have hf : permB f (c + 1) = false := by
              cases hz : permB f (c + 1) with
              | false => rfl
              | true =>
                obtain ⟨j, hj, he⟩ := List.any_eq_true.mp hany
                exact absurd (of_decide_eq_true he) (((permB_iff f (c + 1)).mp hz c (by omega)).2 j (List.mem_range.mp hj))
            show w_R_isPermutation_27 Φ m Y (bz false) (nI c + 1) _
            rw [← nI_succ]
            exact nx (false, _) ⟨hf.symm, fun z => by rw [hf] at z; cases z⟩
          · rw [if_neg hany]
            refine bs_ift (by decide) ?_
            have hno : ∀ j, j < c → f j ≠ f c := fun j hj he => hany (List.any_eq_true.mpr ⟨j, List.mem_range.mpr hj, decide_eq_true he⟩)
            have hf : permB f (c + 1) = true := by
              rw [permB_iff]
              intro z hz
              by_cases hzc : z = c
              · subst hzc; exact ⟨by omega, hno⟩
              · exact (permB_iff f c).mp hs1.symm z (by omega)
            show w_R_isPermutation_27 Φ m Y (bz true) (nI c + 1) _
            rw [← nI_succ]
            refine nx (true, va_up G (f c) (nI 0 + 1)) ⟨hf.symm, fun _ z hz => ?_⟩
            show va_up G (f c) (nI 0 + 1) z = _
            rw [List.range_succ, List.any_append]
            by_cases hzc : z = f c
            · subst hzc
              rw [bs_up_eq]
              simp
              decide
            · rw [bs_up_ne _ _ hzc, hs2 hs1.symm z hz]
              have hne : ¬ f c = z := fun e => hzc e.symm
              simp [hne]
    · rintro m ⟨b, G⟩ ⟨hs1, hs2⟩
      have ic := i.taken G
      refine bs_fI_i ic.2.1 rfl (bs_ift (nI_le (by omega) (by omega)) (bs_rZ_b ?_))
      rw [hs1]
      exact ko _ ic ((offR.refl Y h).set (by omega))
  have e : bs_set h (Y + 23) (bs_ia 64 g0) = h := bs_set_get p0
  show w_R_isPermutation_2 Φ 1000 Y (nI 0) h
  rw [← e]
  refine bs_for (σ := Nat → Int32) (fun m c G => w_R_isPermutation_2 Φ m Y (nI c) (bs_set h (Y + 23) (bs_ia 64 G))) (fun c G => ∀ z, z < c → G z = nI 0) w ?_ ?_ w 0 g0 1000 (by omega) (by omega) (fun z hz => by omega)
  · intro m c G hc hG nx
    have ic := i.taken G
    refine bs_fI_i ic.2.1 rfl (bs_iff (nI_ge (by omega) (by omega)) (bs_fA_i ic.2.1 rfl (bs_sI_i c bs_set_eq rfl (by omega) (by decide) ?_)))
    rw [bs_set_set, ← nI_succ]
    refine nx _ (fun z hz => ?_)
    by_cases hzc : z = c
    · subst hzc; rw [bs_up_eq]; rfl
    · rw [bs_up_ne _ _ hzc]; exact hG z (by omega)
  · intro m G hG
    have ic := i.taken G
    exact bs_fI_i ic.2.1 rfl (bs_ift (nI_le (by omega) (by omega)) (second G hG))
end SK
