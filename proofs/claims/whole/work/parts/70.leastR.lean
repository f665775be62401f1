/-! least of the reference. -/
def rT (D : Nat) (G : Nat → Int32) : Prop := ∀ c, c < 256 → G c = nI (gtD D c) - 1
theorem gtD_lt (D c : Nat) : gtD D c < 8 := Nat.mod_lt _ (by omega)
theorem lv_pos : ∀ v, v < 8 → (0 ≤ nI v - 1 ↔ v ≠ 0) := by decide +kernel
theorem lv_eq : ∀ v, v < 8 → ∀ n, n < 4 → (nI v - 1 = nI n ↔ v = n + 1) := by decide +kernel
theorem lv_up : ∀ n, n < 4 → nI (n + 1) - 1 + 1 = nI (n + 2) - 1 := by decide +kernel
theorem or_I : ∀ c, c < 256 → ∀ k, k < 4 → (nI c >>> (((2 : Int32) * nI k) &&& 31)) &&& 3 = nI (orN c k) := by decide +kernel
theorem orN_lt (c k : Nat) : orN c k < 4 := Nat.mod_lt _ (by omega)
theorem cdN_lt {o : Nat → Nat} {w : Nat} (h : ∀ k, k < w → o k < 4) : ∀ r, r ≤ w → cdN o w r < 4 ^ r := by
  intro r
  induction r with
  | zero => intro _; exact Nat.zero_lt_one
  | succ r ih =>
    intro hr
    have h1 := ih (by omega)
    have h2 := h (w - 1 - r) (by omega)
    rw [cdN, Nat.pow_succ]
    omega
theorem cdN_256 {o : Nat → Nat} {w : Nat} (hw : w ≤ 4) (h : ∀ k, k < w → o k < 4) : cdN o w w < 256 := by
  have h1 := cdN_lt h w (Nat.le_refl _)
  have h2 : 4 ^ w ≤ 4 ^ 4 := Nat.pow_le_pow_right (by omega) hw
  omega
theorem swO_lt {d m w c : Nat} (hdw : d < w) : ∀ z, z ≤ w - d → ∀ k, k < w → swO d m (orN c) z k < 4 := by
  intro z
  induction z with
  | zero => intro _ k _; exact orN_lt c k
  | succ z ih =>
    intro hz k hk
    rw [swO]
    by_cases hb : m.testBit z = true
    · rw [if_pos hb]
      by_cases e1 : k = z + d
      · rw [e1, bs_up_eq]; exact ih (by omega) z (by omega)
      · rw [bs_up_ne _ _ e1]
        by_cases e2 : k = z
        · rw [e2, bs_up_eq]; exact ih (by omega) (z + d) (by omega)
        · rw [bs_up_ne _ _ e2]; exact ih (by omega) k hk
    · rw [if_neg hb]; exact ih (by omega) k hk
def qL (Y : Nat) (th : Int32) (w n kc : Nat) (h : bs_H) (sw od : Nat → Int32) : Prop := rO Y th w n kc h ∧ h.1 (Y + 21) = some (bs_ia 256 sw) ∧ h.1 (Y + 22) = some (bs_ia 4 od)
def offL (Y : Nat) (h h' : bs_H) : Prop := (∀ b, b < Y + 21 ∨ Y + 22 < b → h'.1 b = h.1 b) ∧ h'.2 = h.2
theorem offL.refl (Y : Nat) (h : bs_H) : offL Y h h := ⟨fun _ _ => rfl, rfl⟩
theorem offL.trans {Y : Nat} {h h' h'' : bs_H} (h1 : offL Y h h') (h2 : offL Y h' h'') : offL Y h h'' := ⟨fun b hb => (h2.1 b hb).trans (h1.1 b hb), h2.2.trans h1.2⟩
theorem offL.set {Y a : Nat} {h h' : bs_H} {x : bs_E} (h1 : offL Y h h') (ha : Y + 21 ≤ a ∧ a ≤ Y + 22) : offL Y h (bs_set h' a x) := ⟨fun b hb => by rw [bs_set_ne (by omega)]; exact h1.1 b hb, h1.2⟩
theorem offL.r {Y : Nat} {h h' : bs_H} (o : offL Y h h') : offR Y h h' := ⟨fun b hb => o.1 b (by omega), o.2⟩
section LR
variable {Φ : bs_R → bs_H → Prop} {h : bs_H} {Y w kc n : Nat} {th : Int32} {f : Nat → Nat} {ks : bs_Ks} {st : bs_St} {sw od : Nat → Int32}
theorem qL.s (p : qL Y th w n kc h sw od) (g : Nat → Int32) : qL Y th w n kc (bs_set h (Y + 21) (bs_ia 256 g)) g od := ⟨by unfold rO; rw [bs_set_ne (by omega)]; exact p.1, bs_set_eq, by rw [bs_set_ne (by omega)]; exact p.2.2⟩
theorem qL.o (p : qL Y th w n kc h sw od) (g : Nat → Int32) : qL Y th w n kc (bs_set h (Y + 22) (bs_ia 4 g)) sw g := ⟨by unfold rO; rw [bs_set_ne (by omega)]; exact p.1, by rw [bs_set_ne (by omega)]; exact p.2.1, bs_set_eq⟩
theorem IR.lsq {h' : bs_H} (i : IR Y th w f kc ks n st h) (p : qL Y th w n kc h' sw od) (o : offL Y h h') : IR Y th w f kc ks n st h' := by
  obtain ⟨g1, g2, g3, c1, c2, c3⟩ := i.2.2.2.2.2.2.2.2
  exact i.lea ⟨_, _, _, p.2.1, p.2.2, (o.1 _ (by omega)).trans c3⟩ (fun b _ _ => o.1 b (by omega))
theorem s_R_code (p : qL Y th w n kc h sw od) (h1 : 1 ≤ w) (hw : w ≤ 4) {o : Nat → Nat} (ho : ∀ k, k < w → od k = nI (o k)) (k : Φ (.ok (some (.int (nI (cdN o w w))))) h) : w_R_code Φ Y h := by
  refine bs_fI_i p.1 rfl ?_
  show w_R_code_9 Φ 1000 Y (nI 0) (nI (w - 0) - 1) h
  refine bs_for (σ := Unit) (fun u z _ => w_R_code_9 Φ u Y (nI (cdN o w z)) (nI (w - z) - 1) h) (fun _ _ => True) w ?_ ?_ w 0 () 1000 (by omega) (by omega) trivial
  · intro u z _ hz _ nx
    have e1 := nI_pre (w - 1 - z) (by omega)
    show w_R_code_9 Φ (u + 1) Y (nI (cdN o w z)) (nI (w - z) - 1) h
    rw [show w - z = (w - 1 - z) + 1 by omega, e1.1]
    refine bs_iff e1.2.2 (bs_fA_i p.1 rfl (bs_lI_i (w - 1 - z) p.2.2 rfl (by omega) (by decide) ?_))
    rw [ho _ (by omega), e1.2.1, show (4 : Int32) = nI 4 from rfl, pk_mul, nI_add, show w - 1 - z = w - (z + 1) by omega]
    have e2 : 4 * cdN o w z + o (w - (z + 1)) = cdN o w (z + 1) := by rw [cdN]; congr 2; omega
    rw [e2]
    exact nx () trivial
  · intro u _ _
    show w_R_code_9 Φ (u + 1) Y (nI (cdN o w w)) (nI (w - w) - 1) h
    rw [Nat.sub_self]
    exact bs_ift (by decide) k
/-- one swap is tried -/
theorem s_R_spread32 {nx2 : Nat → Int32 → Int32 → bs_H → Prop} {nx12 : Nat → Int32 → Int32 → Int32 → bs_H → Prop} (p : qL Y th w n kc h sw od) (h1 : 1 ≤ w) (hw : w ≤ 4) {D c d m lv : Nat} (hT : rT D sw) (hc : c < 256) (hlv : lv < 4) (hD : gtD D c = lv + 1) (hd1 : 1 ≤ d) (hd : d < w) (hm : m < 8) (hl : lgl w d m = true) (ko : ∀ h' sw' od', qL Y th w n kc h' sw' od' → rT (sp1 w c D d m) sw' → gtD (sp1 w c D d m) c = lv + 1 → offL Y h h' → nx12 Y (nI c) (nI d) (nI m + 1) h') : w_R_spread_32 Φ nx2 nx12 1000 Y (nI c) (nI d) (nI m) 0 h := by
  show w_R_spread_32 Φ nx2 nx12 1000 Y (nI c) (nI d) (nI m) (nI 0) h
  refine bs_for (σ := bs_H) (fun u z H => w_R_spread_32 Φ nx2 nx12 u Y (nI c) (nI d) (nI m) (nI z) H) (fun z H => offL Y h H ∧ ∃ od', qL Y th w n kc H sw od' ∧ ∀ k, k < z → od' k = nI (orN c k)) w ?_ ?_ w 0 h 1000 (by omega) (by omega) ⟨offL.refl Y h, od, p, fun k hk => by omega⟩
  · rintro u z H hz ⟨oH, od', pH, ho⟩ nx
    refine bs_fI_i pH.1 rfl (bs_iff (nI_ge hz (by omega)) (bs_fA_i pH.1 rfl (bs_sI_i z pH.2.2 rfl (by omega) (by decide) ?_)))
    rw [or_I c hc z (by omega), ← nI_succ]
    refine nx _ ⟨oH.set (by omega), _, pH.o (va_up od' z (nI (orN c z))), fun k hk => ?_⟩
    by_cases e : k = z
    · subst e; rw [bs_up_eq]
    · rw [bs_up_ne _ _ e]; exact ho k (by omega)
  · rintro u H ⟨oH, od', pH, ho⟩
    refine bs_fI_i pH.1 rfl (bs_ift (nI_le (by omega) (by omega)) ?_)
    show w_R_spread_65 Φ nx2 nx12 1000 Y (nI c) (nI d) (nI m) (nI 0) H
    refine bs_for (σ := bs_H) (fun u z K => w_R_spread_65 Φ nx2 nx12 u Y (nI c) (nI d) (nI m) (nI z) K) (fun z K => offL Y h K ∧ ∃ od', qL Y th w n kc K sw od' ∧ ∀ k, k < w → od' k = nI (swO d m (orN c) z k)) (w - d) ?_ ?_ (w - d) 0 H 1000 (by omega) (by omega) ⟨oH, od', pH, ho⟩
    · rintro u z K hz ⟨oK, od', pK, ho⟩ nx
      refine bs_fI_i pK.1 rfl (bs_iff (by rw [nI_add]; exact nI_ge (by omega) (by omega)) ⟨⟨_, pK.1⟩, s_R_isIn (by omega) (bs_kI_i ?_)⟩)
      rw [mI_bit m (by omega) z (by omega)]
      refine bs_ifz (fun hb => ?_) (fun hb => ?_)
      · show w_R_spread_65 Φ nx2 nx12 u Y (nI c) (nI d) (nI m) (nI z + 1) K
        rw [← nI_succ]
        refine nx K ⟨oK, od', pK, fun k hk => ?_⟩
        rw [swO, if_neg (by rw [hb]; exact (fun q => by cases q))]
        exact ho k hk
      · refine bs_fA_i pK.1 rfl (bs_lI_i z pK.2.2 rfl (by omega) (by decide) (bs_fA_i pK.1 rfl (bs_fA_i pK.1 rfl (bs_lI_i (z + d) pK.2.2 (nI_add _ _) (by omega) (by decide) (bs_sI_i z pK.2.2 rfl (by omega) (by decide) ?_)))))
        have p1 := pK.o (va_up od' z (od' (z + d)))
        refine bs_fA_i p1.1 rfl (bs_sI_i (z + d) p1.2.2 (nI_add _ _) (by omega) (by decide) ?_)
        show w_R_spread_65 Φ nx2 nx12 u Y (nI c) (nI d) (nI m) (nI z + 1) _
        rw [← nI_succ]
        refine nx _ ⟨(oK.set (by omega)).set (by omega), _, p1.o (va_up (va_up od' z (od' (z + d))) (z + d) (od' z)), fun k hk => ?_⟩
        rw [swO, if_pos hb]
        by_cases e1 : k = z + d
        · rw [e1, bs_up_eq, bs_up_eq]; exact ho z (by omega)
        · rw [bs_up_ne _ _ e1, bs_up_ne _ _ e1]
          by_cases e2 : k = z
          · rw [e2, bs_up_eq, bs_up_eq]; exact ho (z + d) (by omega)
          · rw [bs_up_ne _ _ e2, bs_up_ne _ _ e2]; exact ho k hk
    · rintro u K ⟨oK, od', pK, ho⟩
      refine bs_fI_i pK.1 rfl (bs_ift (by rw [nI_add]; exact nI_le (by omega) (by omega)) ⟨⟨_, pK.1⟩, s_R_code pK h1 hw ho (bs_kI_i ?_)⟩)
      have hcl : nxC w c d m < 256 := cdN_256 hw (swO_lt hd (w - d) (Nat.le_refl _))
      show bs_fA K Y 7 24 _
      have e1 : sp1 w c D d m = if gtD D (nxC w c d m) = 0 then D + (gtD D c + 1) * 8 ^ nxC w c d m else D := by unfold sp1; rw [if_pos hl, frc_eq]
      have eC : cdN (swO d m (orN c) (w - d)) w w = nxC w c d m := rfl
      rw [eC]
      generalize nxC w c d m = c' at hcl e1
      refine bs_fA_i pK.1 rfl (bs_fA_i pK.1 rfl (bs_lI_i c' pK.2.1 rfl hcl (by decide) ?_))
      rw [hT c' hcl]
      refine bs_ife (lv_pos _ (gtD_lt D c')) (fun hz => ?_) (fun hz => ?_)
      · rw [if_neg hz] at e1
        refine bs_fA_i pK.1 rfl (bs_lI_i c' pK.2.1 rfl hcl (by decide) (bs_sI_i c' pK.2.1 rfl hcl (by decide) ?_))
        show nx12 Y (nI c) (nI d) (nI m + 1) _
        refine ko _ _ _ (pK.s (va_up sw c' (sw c'))) ?_ (by rw [e1]; exact hD) (oK.set (by omega))
        rw [e1]
        intro x hx
        by_cases e : x = c'
        · rw [e, bs_up_eq]; exact hT c' hcl
        · rw [bs_up_ne _ _ e]; exact hT x hx
      · have hz : gtD D c' = 0 := Decidable.byContradiction hz
        rw [if_pos hz, hD] at e1
        have gs := gtD_set hz (show lv + 1 + 1 < 8 by omega)
        refine bs_fA_i pK.1 rfl (bs_lI_i c pK.2.1 rfl hc (by decide) (bs_sI_i c' pK.2.1 rfl hcl (by decide) ?_))
        rw [hT c hc, hD, lv_up lv hlv]
        show nx12 Y (nI c) (nI d) (nI m + 1) _
        have hcc : c ≠ c' := fun e => by rw [← e, hD] at hz; omega
        refine ko _ _ _ (pK.s (va_up sw c' (nI (lv + 2) - 1))) ?_ (by rw [e1, gs, if_neg hcc]; exact hD) (oK.set (by omega))
        rw [e1]
        intro x hx
        rw [gs]
        by_cases e : x = c'
        · rw [e, bs_up_eq, if_pos rfl]
        · rw [bs_up_ne _ _ e, if_neg e]; exact hT x hx
theorem s_R_spread (i : IR Y th w f kc ks n st h) (p : qL Y th w n kc h sw od) (hw : w ≤ 4) {D c lv : Nat} (hT : rT D sw) (hc : c < 256) (hlv : lv < 4) (hD : gtD D c = lv + 1) (ko : ∀ h' sw' od', qL Y th w n kc h' sw' od' → rT (spD w c D (w - 1)) sw' → offL Y h h' → Φ (.ok none) h') : w_R_spread Φ Y (nI c) h := by
  have h1 := i.1.1
  show w_R_spread_2 Φ 1000 Y (nI c) (nI 1) h
  refine bs_for (σ := bs_H) (fun u d H => w_R_spread_2 Φ u Y (nI c) (nI d) H) (fun d H => 1 ≤ d ∧ offL Y h H ∧ gtD (spD w c D (d - 1)) c = lv + 1 ∧ ∃ sw' od', qL Y th w n kc H sw' od' ∧ rT (spD w c D (d - 1)) sw') w ?_ ?_ (w - 1) 1 h 1000 (by omega) (by omega) ⟨Nat.le_refl _, offL.refl Y h, hD, sw, od, p, hT⟩
  · rintro u d H hd ⟨hd1, oH, gH, sw', od', pH, tH⟩ nx
    refine bs_fI_i pH.1 rfl (bs_iff (nI_ge hd (by omega)) ?_)
    have eD : spD w c D d = spM w c d (spD w c D (d - 1)) 7 := by
      obtain ⟨d, rfl⟩ : ∃ v, d = v + 1 := ⟨d - 1, by omega⟩
      rw [spD, frc_eq]; rfl
    generalize spD w c D (d - 1) = D1 at gH tH eD
    show w_R_spread_12 Φ (w_R_spread_2 Φ u) 1000 Y (nI c) (nI d) (nI 1) H
    refine bs_for (σ := bs_H) (fun v m K => w_R_spread_12 Φ (w_R_spread_2 Φ u) v Y (nI c) (nI d) (nI m) K) (fun m K => 1 ≤ m ∧ offL Y h K ∧ gtD (spM w c d D1 (m - 1)) c = lv + 1 ∧ ∃ sw' od', qL Y th w n kc K sw' od' ∧ rT (spM w c d D1 (m - 1)) sw') 8 ?_ ?_ 7 1 H 1000 (by omega) (by omega) ⟨Nat.le_refl _, oH, gH, sw', od', pH, tH⟩
    · rintro v m K hm ⟨hm1, oK, gK, sw', od', pK, tK⟩ nx2
      have eM : spM w c d D1 m = sp1 w c (spM w c d D1 (m - 1)) d m := by
        obtain ⟨m, rfl⟩ : ∃ v, m = v + 1 := ⟨m - 1, by omega⟩
        rw [spM, frc_eq]; rfl
      generalize spM w c d D1 (m - 1) = D2 at gK tK eM
      have iK := i.lsq pK oK
      refine bs_iff (nI_ge (b := 8) hm (by omega)) ⟨⟨_, pK.1⟩, s_R_fits iK 5 (nI d) (nI m).toInt64 (bs_kI_i ?_)⟩
      have ef : fitsB w 5 (nI d) (nI m).toInt64 = lgl w d m := lgl_is h1 (by omega) hd1 (by omega) hm1 (by omega)
      rw [ef]
      refine bs_ifz (fun hb => ?_) (fun hb => ?_)
      · have e2 : sp1 w c D2 d m = D2 := by unfold sp1; rw [if_neg (by rw [hb]; exact (fun q => by cases q))]
        rw [e2] at eM
        show w_R_spread_12 Φ (w_R_spread_2 Φ u) v Y (nI c) (nI d) (nI m + 1) K
        rw [← nI_succ]
        exact nx2 K ⟨by omega, oK, by rw [Nat.add_sub_cancel, eM]; exact gK, sw', od', pK, by rw [Nat.add_sub_cancel, eM]; exact tK⟩
      · refine s_R_spread32 pK h1 hw tK hc hlv gK hd1 hd hm hb (fun h' sw'' od'' p' t' g' o' => ?_)
        rw [← nI_succ]
        exact nx2 h' ⟨by omega, oK.trans o', by rw [Nat.add_sub_cancel, eM]; exact g', sw'', od'', p', by rw [Nat.add_sub_cancel, eM]; exact t'⟩
    · rintro v K ⟨_, oK, gK, sw', od', pK, tK⟩
      refine bs_ift (nI_le (a := 8) (b := 8) (by omega) (by omega)) ?_
      rw [← nI_succ]
      exact nx K ⟨by omega, oK, by rw [Nat.add_sub_cancel, eD]; exact gK, sw', od', pK, by rw [Nat.add_sub_cancel, eD]; exact tK⟩
  · rintro u H ⟨_, oH, gH, sw', od', pH, tH⟩
    exact bs_fI_i pH.1 rfl (bs_ift (nI_le (by omega) (by omega)) (ko H sw' od' pH tH oH))
theorem s_R_least (i : IR Y th w f kc ks n st h) (ke : ¬ (w ≤ 4 ∧ permB f w = true) → ∀ h', IR Y 1 w f kc ks n st h' → offR Y h h' → Φ (.ok (some (.int 0))) h') (ko : w ≤ 4 → permB f w = true → ∀ h', IR Y 0 w f kc ks n st h' → offR Y h h' → Φ (.ok (some (.int (nI (lsB w (pkC f w) (pkC (fun k => k) w)))))) h') : w_R_least Φ Y h := by
  have h1 := i.1.1
  have hw := i.1.2.1
  refine ⟨⟨_, i.2.1⟩, s_R_isPermutation i (fun h' i' o' => bs_kI_i ?_)⟩
  have no : ¬ (w ≤ 4 ∧ permB f w = true) → w_R_least_16 Φ Y Y h' := by
    intro hh
    show w_R_least_21 Φ Y Y 1 h'
    exact s_R_th i' 1 fun i2 o2 => bs_fI_i i2.2.1 rfl (bs_iff (by decide) (ke hh _ i2 (o'.trans o2)))
  refine bs_ifz (fun hb => no (fun z => by rw [hb] at z; cases z.2)) (fun hb => bs_fI_i i'.2.1 rfl (bs_ife (nI_leI (a := w) (b := 4) (by omega) (by omega)) (fun h4 => ?_) (fun h4 => no (fun z => h4 z.1))))
  obtain ⟨pa, pb, _⟩ := perm_all i.1.2.2.1 hb
  have eq := ls_eq h1 h4 pa hb
  refine s_R_th i' 0 fun i2 o2 => bs_fI_i i2.2.1 rfl (bs_ift rfl ?_)
  generalize bs_set h' Y (bs_obj 7 (rF Y 0 w n kc)) = H at i2 o2 ⊢
  have oH := o'.trans o2
  obtain ⟨gm, pm, qm⟩ := i2.2.2.1
  obtain ⟨s0, d0, t0, c1, c2, c3⟩ := i2.2.2.2.2.2.2.2.2
  have p0 : qL Y 0 w n kc H s0 d0 := ⟨i2.2.1, c1, c2⟩
  show w_R_least_35 Φ 1000 Y (nI 0) H
  refine bs_for (σ := bs_H) (fun u z K => w_R_least_35 Φ u Y (nI z) K) (fun z K => offL Y H K ∧ ∃ sw, qL Y 0 w n kc K sw d0 ∧ ∀ c, c < z → sw c = -1) 256 ?_ ?_ 256 0 H 1000 (by omega) (by omega) ⟨offL.refl Y H, s0, p0, fun c hc => by omega⟩
  · rintro u z K hz ⟨oK, sw, pK, hs⟩ nx
    refine bs_iff (nI_ge (b := 256) hz (by omega)) (bs_fA_i pK.1 rfl (bs_sI_i z pK.2.1 rfl hz (by decide) ?_))
    rw [← nI_succ]
    refine nx _ ⟨oK.set (by omega), _, pK.s (va_up sw z (-1)), fun c hc => ?_⟩
    by_cases e : c = z
    · subst e; rw [bs_up_eq]
    · rw [bs_up_ne _ _ e]; exact hs c (by omega)
  · rintro u K ⟨oK, sw, pK, hs⟩
    refine bs_ift (nI_le (a := 256) (b := 256) (by omega) (by omega)) ?_
    show w_R_least_57 Φ 1000 Y (nI 0) K
    refine bs_for (σ := bs_H) (fun u z T => w_R_least_57 Φ u Y (nI z) T) (fun z T => offL Y H T ∧ ∃ od, qL Y 0 w n kc T sw od ∧ ∀ k, k < z → od k = nI k) w ?_ ?_ w 0 K 1000 (by omega) (by omega) ⟨oK, d0, pK, fun k hk => by omega⟩
    · rintro u z T hz ⟨oT, od, pT, ho⟩ nx
      refine bs_fI_i pT.1 rfl (bs_iff (nI_ge hz (by omega)) (bs_fA_i pT.1 rfl (bs_sI_i z pT.2.2 rfl (by omega) (by decide) ?_)))
      rw [← nI_succ]
      refine nx _ ⟨oT.set (by omega), _, pT.o (va_up od z (nI z)), fun k hk => ?_⟩
      by_cases e : k = z
      · subst e; rw [bs_up_eq]
      · rw [bs_up_ne _ _ e]; exact ho k (by omega)
    · rintro u T ⟨oT, od, pT, ho⟩
      have cl : cdN (fun k => k) w w < 256 := cdN_256 h4 (fun k hk => by show k < 4; omega)
      refine bs_fI_i pT.1 rfl (bs_ift (nI_le (by omega) (by omega)) (bs_fA_i pT.1 rfl ⟨⟨_, pT.1⟩, s_R_code (o := fun k => k) pT h1 h4 ho (bs_kI_i (bs_sI_i (cdN (fun k => k) w w) pT.2.1 rfl cl (by decide) ?_))⟩))
      have p1 := pT.s (va_up sw (cdN (fun k => k) w w) 0)
      have o1 := oT.set (x := bs_ia 256 (va_up sw (cdN (fun k => k) w w) 0)) (a := Y + 21) (by omega)
      have t1 : rT (8 ^ cdN (fun k => k) w w) (va_up sw (cdN (fun k => k) w w) 0) := by
        have g0 : ∀ c, gtD 0 c = 0 := fun c => by unfold gtD; rw [Nat.zero_div]
        have gs := gtD_set (g0 (cdN (fun k => k) w w)) (show 1 < 8 by omega)
        rw [Nat.zero_add, Nat.one_mul] at gs
        intro c hc
        rw [gs]
        by_cases e : c = cdN (fun k => k) w w
        · rw [e, bs_up_eq, if_pos rfl]; rfl
        · rw [bs_up_ne _ _ e, if_neg e, g0, hs c hc]; rfl
      show w_R_least_90 Φ 1000 Y (nI 0) (bs_set T (Y + 21) (bs_ia 256 (va_up sw (cdN (fun k => k) w w) 0)))
      refine bs_for (σ := bs_H) (fun u z T => w_R_least_90 Φ u Y (nI z) T) (fun z T => offL Y H T ∧ ∃ sw od, qL Y 0 w n kc T sw od ∧ rT (bfN w (8 ^ cdN (fun k => k) w w) z) sw) 4 ?_ ?_ 4 0 _ 1000 (by omega) (by omega) ⟨o1, _, od, p1, t1⟩
      · rintro u z T hz ⟨oT, sw, od, pT, tT⟩ nx
        have eN : bfN w (8 ^ cdN (fun k => k) w w) (z + 1) = bfC w z (bfN w (8 ^ cdN (fun k => k) w w) z) 256 := by rw [bfN, frc_eq]
        generalize bfN w (8 ^ cdN (fun k => k) w w) z = D at tT eN
        refine bs_iff (nI_ge (b := 4) hz (by omega)) ?_
        show w_R_least_97 Φ (w_R_least_90 Φ u) 1000 Y (nI z) (nI 0) T
        refine bs_for (σ := bs_H) (fun v c T => w_R_least_97 Φ (w_R_least_90 Φ u) v Y (nI z) (nI c) T) (fun c T => offL Y H T ∧ ∃ sw od, qL Y 0 w n kc T sw od ∧ rT (bfC w z D c) sw) 256 ?_ ?_ 256 0 T 1000 (by omega) (by omega) ⟨oT, sw, od, pT, tT⟩
        · rintro v c T hc ⟨oT, sw, od, pT, tT⟩ nx2
          have eC : bfC w z D (c + 1) = if gtD (bfC w z D c) c = z + 1 then spD w c (bfC w z D c) (w - 1) else bfC w z D c := by rw [bfC, frc_eq]
          generalize bfC w z D c = D1 at tT eC
          refine bs_iff (nI_ge (b := 256) hc (by omega)) (bs_fA_i pT.1 rfl (bs_lI_i c pT.2.1 rfl hc (by decide) ?_))
          rw [tT c hc]
          refine bs_ife (lv_eq _ (gtD_lt D1 c) z hz) (fun he => ⟨⟨_, pT.1⟩, s_R_spread (i2.lsq pT oT) pT h4 tT hc hz he (fun h' sw' od' p' t' o' => bs_kV_i ?_)⟩) (fun he => ?_)
          · show w_R_least_97 Φ (w_R_least_90 Φ u) v Y (nI z) (nI c + 1) h'
            rw [← nI_succ]
            exact nx2 h' ⟨oT.trans o', sw', od', p', by rw [eC, if_pos he]; exact t'⟩
          · show w_R_least_97 Φ (w_R_least_90 Φ u) v Y (nI z) (nI c + 1) T
            rw [← nI_succ]
            exact nx2 T ⟨oT, sw, od, pT, by rw [eC, if_neg he]; exact tT⟩
        · rintro v T ⟨oT, sw, od, pT, tT⟩
          refine bs_ift (nI_le (a := 256) (b := 256) (by omega) (by omega)) ?_
          rw [← nI_succ]
          exact nx T ⟨oT, sw, od, pT, by rw [eN]; exact tT⟩
      · rintro u T ⟨oT, sw, od, pT, tT⟩
        refine bs_ift (nI_le (a := 4) (b := 4) (by omega) (by omega)) ?_
        show w_R_least_133 Φ 1000 Y (nI 0) T
        refine bs_for (σ := bs_H) (fun u z T => w_R_least_133 Φ u Y (nI z) T) (fun z T => offL Y H T ∧ ∃ od, qL Y 0 w n kc T sw od ∧ ∀ k, k < z → od k = nI (f k)) w ?_ ?_ w 0 T 1000 (by omega) (by omega) ⟨oT, od, pT, fun k hk => by omega⟩
        · rintro u z T hz ⟨oT, od, pT, ho⟩ nx
          refine bs_fI_i pT.1 rfl (bs_iff (nI_ge hz (by omega)) (bs_fA_i pT.1 rfl (bs_fA_i pT.1 rfl (bs_lI_i z ((oT.1 _ (by omega)).trans pm) rfl (by omega) (by decide) (bs_sI_i z pT.2.2 rfl (by omega) (by decide) ?_)))))
          rw [← nI_succ]
          refine nx _ ⟨oT.set (by omega), _, pT.o (va_up od z (gm z)), fun k hk => ?_⟩
          by_cases e : k = z
          · subst e; rw [bs_up_eq, (qm k hz).1]
          · rw [bs_up_ne _ _ e]; exact ho k (by omega)
        · rintro u T ⟨oT, od, pT, ho⟩
          have cl : cdN f w w < 256 := cdN_256 h4 (fun k hk => by have := pa k hk; omega)
          refine bs_fI_i pT.1 rfl (bs_ift (nI_le (by omega) (by omega)) (bs_fA_i pT.1 rfl ⟨⟨_, pT.1⟩, s_R_code pT h1 h4 ho (bs_kI_i (bs_lI_i (cdN f w w) pT.2.1 rfl cl (by decide) ?_))⟩))
          have e : sw (cdN f w w) = nI (lsB w (pkC f w) (pkC (fun k => k) w)) := by
            rw [tT _ cl]
            show nI (gtD (bfs w) (cdN f w w)) - 1 = _
            rw [← eq, nI_pred]
          rw [e]
          exact ko h4 hb T (i2.lsq pT oT) (oH.trans oT.r)
end LR
