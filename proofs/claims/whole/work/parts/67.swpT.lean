/-! make(2) of the reference: makeSwaps. -/
section WT
variable {Φ : bs_R → bs_H → Prop} {h : bs_H} {Y w kc : Nat} {th : Int32} {f : Nat → Nat} {ks : bs_Ks} {st : bs_St}
theorem IR.swp {n v : Nat} {h' : bs_H} {W Lt Co Go : Nat → Int32} {Fi La : Nat → Int64} (i : IR Y th w f kc ks n st h) (p : qW Y th v n kc h' W Lt Co Go Fi La) (o : offW Y h h') : IR Y th w f kc ks n st h' := by
  obtain ⟨i0, i1, i2, i3, i4, i5, i6, i7, i8⟩ := i
  have s : same Y (Y + 11) h h' := fun b _ _ => o.1 b (by omega)
  have s2 : same (Y + 18) (Y + 23) h h' := fun b _ _ => o.1 b (by omega)
  exact ⟨i0, i1.kept (s _ (by omega) (by omega)), i2.kept (s _ (by omega) (by omega)), i3.kept (s.sub (by omega) (by omega)), i4.kept (s.sub (by omega) (by omega)), i5.kept (s.sub (by omega) (by omega)), ⟨_, _, _, _, _, _, p.2.1, p.2.2.1, p.2.2.2.1, p.2.2.2.2.1, p.2.2.2.2.2.1, p.2.2.2.2.2.2⟩, i7.kept (s2.sub (by omega) (by omega)), i8.kept (s2.sub (by omega) (by omega))⟩
theorem m2b_1 {L : Nat} (hL : L < 7) (h0 : 0 < L) (a : ∀ k, k < 2 ^ L → f k < 2 ^ L) (b : ∀ i j, i < 2 ^ L → j < 2 ^ L → f i = f j → i = j) : m2b L f st 1 = m2a L f st L := by
  show puSwap (m2b L f st 0) (nI (2 ^ 0)) (spL L f (L - 1 - 0)) = _
  rw [Nat.sub_zero, spL_last hL h0 a b]
  rfl
/-- the two rows of swaps are added -/
theorem s_R_addSwaps {L : Nat} (hL : L < 7) (ha : ∀ k, k < 2 ^ L → f k < 2 ^ L) (hb : ∀ i j, i < 2 ^ L → j < 2 ^ L → f i = f j → i = j) (i : IR Y th (2 ^ L) f kc ks 0 st h) {Fi La : Nat → Int64} (c1 : h.1 (Y + 16) = some (bs_la 7 Fi)) (c2 : h.1 (Y + 17) = some (bs_la 7 La)) (hF : ∀ y, y < L → Fi y = spF L f y ∧ La y = spL L f y) (k : ∀ h', IR Y th (2 ^ L) f kc ks (pu (m2b L f st L) (6, 0, 0)).1 (pu (m2b L f st L) (6, 0, 0)).2 h' → offR Y h h' → Φ (.ok none) h') : w_R_makeSwaps_168 Φ 1000 Y (nI L) 0 h := by
  show w_R_makeSwaps_168 Φ 1000 Y (nI L) (nI 0) h
  refine bs_for (σ := bs_H) (fun v y K => w_R_makeSwaps_168 Φ v Y (nI L) (nI y) K) (fun y K => IR Y th (2 ^ L) f kc ks (m2a L f st y).1 (m2a L f st y).2 K ∧ offR Y h K ∧ K.1 (Y + 16) = some (bs_la 7 Fi) ∧ K.1 (Y + 17) = some (bs_la 7 La)) L ?_ ?_ L 0 h 1000 (by omega) (by omega) ⟨i, offR.refl Y h, c1, c2⟩
  · rintro v y K hy ⟨iK, oK, d1, d2⟩ nx
    have nn := m2a_ok hL f st y (by omega)
    refine bs_iff (nI_ge hy (by omega)) (bs_fA_i iK.2.1 rfl (bs_lL_i y d1 rfl (by omega) (by decide) ?_))
    rw [(hF y hy).1]
    refine bs_ifc (fun hz => ?_) (fun hz => bs_fI_i iK.2.1 rfl (bs_fA_i iK.2.1 rfl (bs_lL_i y d1 rfl (by omega) (by decide) ⟨⟨_, iK.2.1⟩, ?_⟩)))
    · have e : m2a L f st (y + 1) = m2a L f st y := if_pos hz
      show w_R_makeSwaps_168 Φ v Y (nI L) (nI y + 1) K
      rw [← nI_succ]
      exact nx K ⟨by rw [e]; exact iK, oK, d1, d2⟩
    · have e : m2a L f st (y + 1) = pu (m2a L f st y) (5, nI (2 ^ (L - 1 - y)), spF L f y) := if_neg hz
      rw [(hF y hy).1, nI_pow_shr L hL y hy]
      refine s_R_add2 (x := (5, nI (2 ^ (L - 1 - y)), spF L f y)) iK (by omega) (fun h1 i1 o1 s1 => bs_kV_i ?_)
      show w_R_makeSwaps_168 Φ v Y (nI L) (nI y + 1) h1
      rw [← nI_succ]
      exact nx h1 ⟨by rw [e]; exact i1, oK.trans o1, (s1 _ (by omega) (by omega)).trans d1, (s1 _ (by omega) (by omega)).trans d2⟩
  · rintro v K ⟨iK, oK, d1, d2⟩
    refine bs_ift (nI_le (by omega) (by omega)) ?_
    rcases Nat.eq_zero_or_pos L with h0 | h0
    · subst h0
      refine bs_ift (by decide) ⟨⟨_, iK.2.1⟩, s_R_add2 (x := (6, 0, 0)) iK (by show (0 : Nat) < 192; omega) (fun h1 i1 o1 s1 => bs_kV_i (k h1 i1 (oK.trans o1)))⟩
    · have e2 : nI L - 2 = nI (L - 1) - 1 := by
        have a1 : ∀ L, L < 7 → 0 < L → nI L - 2 = nI (L - 1) - 1 := by decide +kernel
        exact a1 L hL h0
      rw [e2]
      refine bs_for (σ := bs_H) (fun u z T => w_R_makeSwaps_213 Φ u Y (nI (L - z) - 1) T) (fun z T => IR Y th (2 ^ L) f kc ks (m2b L f st z).1 (m2b L f st z).2 T ∧ offR Y h T ∧ T.1 (Y + 17) = some (bs_la 7 La)) L ?_ ?_ (L - 1) 1 K 1000 (by omega) (by omega) ⟨by rw [m2b_1 hL h0 ha hb]; exact iK, oK, d2⟩
      · rintro u z T hz ⟨iT, oT, dT⟩ nx
        have e1 := nI_pre (L - 1 - z) (by omega)
        have nn := m2b_ok hL f st z (by omega)
        show w_R_makeSwaps_213 Φ (u + 1) Y (nI (L - z) - 1) T
        rw [show L - z = (L - 1 - z) + 1 by omega, e1.1]
        refine bs_iff e1.2.2 (bs_fA_i iT.2.1 rfl (bs_lL_i (L - 1 - z) dT rfl (by omega) (by decide) ?_))
        rw [(hF _ (by omega)).2]
        refine bs_ifc (fun hz0 => ?_) (fun hz0 => bs_fI_i iT.2.1 rfl (bs_fA_i iT.2.1 rfl (bs_lL_i (L - 1 - z) dT rfl (by omega) (by decide) ⟨⟨_, iT.2.1⟩, ?_⟩)))
        · have e : m2b L f st (z + 1) = m2b L f st z := if_pos hz0
          show w_R_makeSwaps_213 Φ u Y (nI (L - 1 - z) + (-1)) T
          rw [e1.2.1, show L - 1 - z = L - (z + 1) by omega]
          exact nx T ⟨by rw [e]; exact iT, oT, dT⟩
        · have e : m2b L f st (z + 1) = pu (m2b L f st z) (5, nI (2 ^ z), spL L f (L - 1 - z)) := if_neg hz0
          rw [(hF _ (by omega)).2, nI_pow_shr L hL _ (by omega), show L - 1 - (L - 1 - z) = z by omega]
          refine s_R_add2 (x := (5, nI (2 ^ z), spL L f (L - 1 - z))) iT (by omega) (fun h1 i1 o1 s1 => bs_kV_i ?_)
          show w_R_makeSwaps_213 Φ u Y (nI (L - 1 - z) + (-1)) h1
          rw [e1.2.1, show L - 1 - z = L - (z + 1) by omega]
          exact nx h1 ⟨by rw [e]; exact i1, oT.trans o1, (s1 _ (by omega) (by omega)).trans dT⟩
      · rintro u T ⟨iT, oT, dT⟩
        have nn := m2b_ok hL f st L (Nat.le_refl _)
        show w_R_makeSwaps_213 Φ (u + 1) Y (nI (L - L) - 1) T
        rw [Nat.sub_self]
        refine bs_ift (by decide) ⟨⟨_, iT.2.1⟩, s_R_add2 (x := (6, 0, 0)) iT (by omega) (fun h' i' o' s' => bs_kV_i (k h' i' (oT.trans o')))⟩
theorem s_R_makeSwapsL {L : Nat} (hL : L < 7) (i : IR Y th (2 ^ L) f kc ks 0 st h) (ha : ∀ k, k < 2 ^ L → f k < 2 ^ L) (hb : ∀ i j, i < 2 ^ L → j < 2 ^ L → f i = f j → i = j) (k : ∀ h', IR Y th (2 ^ L) f kc ks (pu (m2b L f st L) (6, 0, 0)).1 (pu (m2b L f st L) (6, 0, 0)).2 h' → offR Y h h' → Φ (.ok none) h') : w_R_makeSwaps Φ Y h := by
  have w64 := pow_le64 L hL
  obtain ⟨g, pg, qg⟩ := i.2.2.1
  obtain ⟨W0, Lt0, Co0, Go0, Fi0, La0, c1, c2, c3, c4, c5, c6⟩ := i.2.2.2.2.2.2.1
  have p0 : qW Y th (2 ^ L) 0 kc h W0 Lt0 Co0 Go0 Fi0 La0 := ⟨i.2.1, c1, c2, c3, c4, c5, c6⟩
  show w_R_makeSwaps_2 Φ 1000 Y (nI 0) h
  refine bs_for (σ := bs_H) (fun v z H => w_R_makeSwaps_2 Φ v Y (nI z) H) (fun z H => offW Y h H ∧ ∃ W, qW Y th (2 ^ L) 0 kc H W Lt0 Co0 Go0 Fi0 La0 ∧ ∀ q, q < z → W q = nI (f q)) (2 ^ L) ?_ ?_ (2 ^ L) 0 h 1000 (by omega) (by omega) ⟨offW.refl Y h, W0, p0, fun q hq => by omega⟩
  · rintro v z H hz ⟨oH, W, pH, hW⟩ nx
    refine bs_fI_i pH.1 rfl (bs_iff (nI_ge hz (by omega)) (bs_fA_i pH.1 rfl (bs_fA_i pH.1 rfl (bs_lI_i z ((oH.1 _ (by omega)).trans pg) rfl (by omega) (by decide) (bs_sI_i z pH.2.1 rfl (by omega) (by decide) ?_)))))
    rw [← nI_succ]
    refine nx _ ⟨oH.set (by omega), _, pH.wn (va_up W z (g z)), fun q hq => ?_⟩
    by_cases e : q = z
    · subst e; rw [bs_up_eq, (qg q hz).1]
    · rw [bs_up_ne _ _ e]; exact hW q (by omega)
  · rintro v H ⟨oH, W, pH, hW⟩
    refine bs_fI_i pH.1 rfl (bs_ift (nI_le (by omega) (by omega)) (bs_fI_i pH.1 rfl ?_))
    show w_R_makeSwaps_35 Φ 1000 Y (nI 0) (nI (2 ^ (L - 0))) H
    refine bs_for (σ := bs_H) (fun v z H => w_R_makeSwaps_35 Φ v Y (nI z) (nI (2 ^ (L - z))) H) (fun z H => offW Y h H ∧ ∃ W Lt Co Go Fi La, qW Y th (2 ^ L) 0 kc H W Lt Co Go Fi La ∧ (z < L → ∀ q, q < 2 ^ L → W q = nI (spP L f z q % 2 ^ (L - z))) ∧ ∀ y, y < z → Fi y = spF L f y ∧ La y = spL L f y) L ?_ ?_ L 0 H 1000 (by omega) (by omega) ⟨oH, W, Lt0, Co0, Go0, Fi0, La0, pH, fun _ q hq => by rw [hW q hq]; show _ = nI (f q % 2 ^ L); rw [Nat.mod_eq_of_lt (ha q hq)], fun y hy => by omega⟩
    · rintro v z H hz ⟨oH, W, Lt, Co, Go, Fi, La, pH, hW, hFL⟩ nx
      have hW := hW hz
      have hj : L - 1 - z < L := by omega
      have en : 2 ^ (L - z) = 2 * 2 ^ (L - 1 - z) := by rw [show L - z = (L - 1 - z) + 1 by omega, Nat.pow_succ, Nat.mul_comm]
      have enx : 2 ^ (L - (z + 1)) = 2 ^ (L - 1 - z) := by rw [show L - (z + 1) = L - 1 - z by omega]
      have nle : 2 ^ (L - z) ≤ 2 ^ L := Nat.pow_le_pow_right (by omega) (by omega)
      have n1 : 1 < 2 ^ (L - z) := Nat.one_lt_two_pow (by omega)
      obtain ⟨kp, kb⟩ := sp_ok hL ha hb z (by omega)
      rw [en] at hW kb nle n1
      have eL : (2 * 2 ^ (L - 1 - z)) * 2 ^ z = 2 ^ L := by rw [← en, ← Nat.pow_add]; congr 1; omega
      have sF : spS L f z = dwN (spP L f z) (spQ L f z) (2 ^ (L - 1 - z)) (2 ^ L) (2 ^ L) := rfl
      have eF : spF L f z = lb_of (loB (L - 1 - z) (spS L f z).2.1) (2 ^ L) := rfl
      have eA : spL L f z = lb_of (loB (L - 1 - z) (spS L f z).2.2) (2 ^ L) := rfl
      have eP : spP L f (z + 1) = dvP (spP L f z) (spS L f z).2.2 (2 ^ (L - 1 - z)) := rfl
      generalize hjj : L - 1 - z = j at *
      generalize hPP : spP L f z = P at *
      generalize hQQ : spQ L f z = Q at *
      generalize hSS : spS L f z = S at *
      have j0 : 0 < 2 ^ j := Nat.two_pow_pos j
      have j64 := pow_lt64 (show j < 6 by omega)
      show w_R_makeSwaps_35 Φ (v + 1) Y (nI z) (nI (2 ^ (L - z))) H
      rw [en]
      refine bs_iff (nI_ge (a := 1) n1 (by omega)) (bs_fA_i pH.1 rfl (bs_sL_i z pH.2.2.2.2.2.1 rfl (by omega) (by decide) ?_))
      have p1 := pH.f (va_up Fi z 0)
      refine bs_fA_i p1.1 rfl (bs_sL_i z p1.2.2.2.2.2.2 rfl (by omega) (by decide) ?_)
      have p2 := p1.s (va_up La z 0)
      have o2 : offW Y h (bs_set (bs_set H (Y + 16) (bs_la 7 (va_up Fi z 0))) (Y + 17) (bs_la 7 (va_up La z 0))) := (oH.set (by omega)).set (by omega)
      show w_R_makeSwaps_56 Φ (w_R_makeSwaps_35 Φ v) 1000 Y (nI z) (nI (2 * 2 ^ j)) (nI ((2 * 2 ^ j) * 0)) (bs_set (bs_set H (Y + 16) (bs_la 7 (va_up Fi z 0))) (Y + 17) (bs_la 7 (va_up La z 0)))
      generalize bs_set (bs_set H (Y + 16) (bs_la 7 (va_up Fi z 0))) (Y + 17) (bs_la 7 (va_up La z 0)) = H2 at p2 o2 ⊢
      have z64 : 2 ^ z ≤ 64 := by
        have : 2 ^ z ≤ 2 ^ L := Nat.pow_le_pow_right (by omega) (by omega)
        omega
      refine bs_for (σ := bs_H) (fun u B K => w_R_makeSwaps_56 Φ (w_R_makeSwaps_35 Φ v) u Y (nI z) (nI (2 * 2 ^ j)) (nI ((2 * 2 ^ j) * B)) K) (fun B K => offW Y h K ∧ ∃ Lt Co Go Fi La, qW Y th (2 ^ L) 0 kc K W Lt Co Go Fi La ∧ Fi z = lb_of (loB j S.2.1) ((2 * 2 ^ j) * B) ∧ La z = lb_of (loB j S.2.2) ((2 * 2 ^ j) * B) ∧ (0 < j → ltO L j P S.2.2 ((2 * 2 ^ j) * B) Lt) ∧ ∀ y, y < z → Fi y = spF L f y ∧ La y = spL L f y) (2 ^ z) ?_ ?_ (2 ^ z) 0 H2 1000 (by omega) (by omega) ⟨o2, Lt, Co, Go, _, _, p2, by rw [bs_up_eq]; rfl, by rw [bs_up_eq]; rfl, fun _ q _ hq => by rw [Nat.mul_zero] at hq; omega, fun y hy => by rw [bs_up_ne _ _ (by omega), bs_up_ne _ _ (by omega)]; exact hFL y hy⟩
      · rintro u B K hB ⟨oK, Lt, Co, Go, Fi, La, pK, f1, l1, t1, r1⟩ nx2
        have hB1 : (2 * 2 ^ j) * (B + 1) ≤ 2 ^ L := by rw [← eL]; exact Nat.mul_le_mul_left _ hB
        have e0 : (2 * 2 ^ j) * (B + 1) = (2 * 2 ^ j) * B + 2 * 2 ^ j := by rw [Nat.mul_add, Nat.mul_one]
        have enxt : nI ((2 * 2 ^ j) * B) + nI (2 * 2 ^ j) = nI ((2 * 2 ^ j) * (B + 1)) := by rw [nI_add, e0]
        refine bs_fI_i pK.1 rfl (bs_iff (nI_ge (by omega) (by omega)) ?_)
        rcases Nat.eq_zero_or_pos j with hz0 | hz0
        · subst hz0
          have h0L : 0 < L := by omega
          have lc := last_c hL h0L kp kb (B := B) (by omega)
          have lg := last_g hL h0L kp kb (B := B) (by omega)
          have lc : lb S.2.2 (2 * B) = false := by rw [sF]; exact lc
          have lg : lb S.2.1 (2 * B) = decide (P (2 * B) % 2 = 1) := by rw [sF]; exact lg
          have ev : 2 * B &&& 2 ^ 0 = 0 := by show 2 * B &&& 1 = 0; rw [Nat.and_one_is_mod]; omega
          have od : ¬ (2 * B + 1) &&& 2 ^ 0 = 0 := by show ¬ (2 * B + 1) &&& 1 = 0; rw [Nat.and_one_is_mod]; omega
          have up2 : ∀ x : Int64, lb_of (loB 0 x) (2 * B + 1 + 1) = lb_of (loB 0 x) (2 * B + 1) := fun x => by
            rw [lb_of, if_neg]
            unfold loB
            rw [decide_eq_false od]; exact (fun q => by cases q)
          refine bs_ift (by decide) (bs_fA_i pK.1 rfl (bs_fA_i pK.1 rfl (bs_lI_i (2 * B) pK.2.1 rfl (by omega) (by decide) ?_)))
          rw [hW _ (by omega)]
          have tl : ∀ x : Int64, x = lb_of (loB 0 S.2.1) (2 * B + 1) → w_R_makeSwaps_115 Φ (w_R_makeSwaps_35 Φ v) (w_R_makeSwaps_56 Φ (w_R_makeSwaps_35 Φ v) u) Y (nI z) (nI (2 * 2 ^ 0)) (nI ((2 * 2 ^ 0) * B)) (Y + 16) (nI z) x K := by
            intro x hx
            refine bs_sL_i z pK.2.2.2.2.2.1 rfl (by omega) (by decide) ?_
            show w_R_makeSwaps_56 Φ (w_R_makeSwaps_35 Φ v) u Y (nI z) (nI (2 * 2 ^ 0)) (nI ((2 * 2 ^ 0) * B) + nI (2 * 2 ^ 0)) _
            rw [enxt]
            refine nx2 _ ⟨oK.set (by omega), Lt, Co, Go, _, La, pK.f (va_up Fi z x), ?_, ?_, fun q => absurd q (by omega), fun y hy => by rw [bs_up_ne _ _ (by omega)]; exact r1 y hy⟩
            · rw [bs_up_eq, hx]; exact (up2 _).symm
            · rw [l1]
              show lb_of (loB 0 S.2.2) (2 * B) = lb_of (loB 0 S.2.2) (2 * B + 1 + 1)
              rw [up2, lb_of, if_neg]
              unfold loB
              rw [lc, Bool.and_false]; exact (fun q => by cases q)
          refine bs_ife (nI_eq (a := P (2 * B) % 2) (b := 1) (by omega) (by omega)) (fun e1 => ?_) (fun e1 => ?_)
          · refine bs_fA_i pK.1 rfl (bs_lL_i z pK.2.2.2.2.2.1 rfl (by omega) (by decide) (tl _ ?_))
            rw [f1, lb_of, if_pos]
            unfold loB
            rw [decide_eq_true ev, lg, decide_eq_true e1]; rfl
          · refine bs_fA_i pK.1 rfl (bs_lL_i z pK.2.2.2.2.2.1 rfl (by omega) (by decide) (tl _ ?_))
            rw [f1, lb_of, if_neg]
            unfold loB
            rw [lg, decide_eq_false e1, Bool.and_false]; exact (fun q => by cases q)
        · have j2 : 2 ≤ 2 ^ j := by
            have := Nat.pow_le_pow_right (n := 2) (by omega) (show 1 ≤ j by omega)
            omega
          refine bs_iff (nI_ge (a := 2) (by omega) (by omega)) ⟨⟨_, pK.1⟩, ?_⟩
          rw [nI_half _ (by omega), Nat.mul_div_cancel_left _ (by omega)]
          refine s_R_split hL hj kp kb hB1 hW pK sF (by omega) f1 l1 (t1 hz0) (fun h' Lt' Co' Go' Fi' La' p' f' l' t' r' o' => bs_kV_i ?_)
          show w_R_makeSwaps_56 Φ (w_R_makeSwaps_35 Φ v) u Y (nI z) (nI (2 * 2 ^ j)) (nI ((2 * 2 ^ j) * B) + nI (2 * 2 ^ j)) h'
          rw [enxt]
          exact nx2 h' ⟨oK.trans o', Lt', Co', Go', Fi', La', p', f', l', fun _ => t', fun y hy => by rw [(r' y (by omega)).1, (r' y (by omega)).2]; exact r1 y hy⟩
      · rintro u K ⟨oK, Lt, Co, Go, Fi, La, pK, f1, l1, t1, r1⟩
        show w_R_makeSwaps_56 Φ (w_R_makeSwaps_35 Φ v) (u + 1) Y (nI z) (nI (2 * 2 ^ j)) (nI ((2 * 2 ^ j) * 2 ^ z)) K
        rw [eL] at f1 l1 t1 ⊢
        have r2 : ∀ y, y < z + 1 → Fi y = spF L f y ∧ La y = spL L f y := by
          intro y hy
          by_cases e : y = z
          · subst e; rw [f1, l1, eF, eA]; exact ⟨rfl, rfl⟩
          · exact r1 y (by omega)
        have fin : ∀ (K' : bs_H) (W' : Nat → Int32), offW Y h K' → qW Y th (2 ^ L) 0 kc K' W' Lt Co Go Fi La → (z + 1 < L → ∀ q, q < 2 ^ L → W' q = nI (spP L f (z + 1) q % 2 ^ (L - (z + 1)))) → w_R_makeSwaps_156 Φ (w_R_makeSwaps_35 Φ v) Y (nI z) (nI (2 * 2 ^ j)) K' := by
          intro K' W' oK' pK' hW'
          show w_R_makeSwaps_35 Φ v Y (nI z + 1) (nI (2 * 2 ^ j) / 2) K'
          rw [← nI_succ, nI_half _ (by omega), Nat.mul_div_cancel_left _ (by omega), ← enx]
          exact nx K' ⟨oK', W', Lt, Co, Go, Fi, La, pK', hW', r2⟩
        refine bs_fI_i pK.1 rfl (bs_ift (nI_le (by omega) (by omega)) ?_)
        rcases Nat.eq_zero_or_pos j with hz0 | hz0
        · subst hz0
          refine bs_fI_i pK.1 rfl (bs_iff (nI_ge (a := 0) (by omega) (by omega)) (bs_ift (by decide) (fin K W oK pK (fun q => absurd q (by omega)))))
        · have j2 : 2 ≤ 2 ^ j := by
            have := Nat.pow_le_pow_right (n := 2) (by omega) (show 1 ≤ j by omega)
            omega
          show w_R_makeSwaps_125 Φ (w_R_makeSwaps_35 Φ v) 1000 Y (nI z) (nI (2 * 2 ^ j)) (nI 0) K
          refine bs_for (σ := bs_H) (fun u q K => w_R_makeSwaps_125 Φ (w_R_makeSwaps_35 Φ v) u Y (nI z) (nI (2 * 2 ^ j)) (nI q) K) (fun q K => offW Y h K ∧ ∃ W', qW Y th (2 ^ L) 0 kc K W' Lt Co Go Fi La ∧ ∀ y, y < q → W' y = Lt y) (2 ^ L) ?_ ?_ (2 ^ L) 0 K 1000 (by omega) (by omega) ⟨oK, W, pK, fun y hy => by omega⟩
          · rintro u q T hq ⟨oT, W', pT, hT⟩ nx3
            refine bs_fI_i pT.1 rfl (bs_iff (nI_ge hq (by omega)) (bs_iff (nI_ge (a := 2) (by omega) (by omega)) (bs_fA_i pT.1 rfl (bs_fA_i pT.1 rfl (bs_lI_i q pT.2.2.1 rfl (by omega) (by decide) (bs_sI_i q pT.2.1 rfl (by omega) (by decide) ?_))))))
            rw [← nI_succ]
            refine nx3 _ ⟨oT.set (by omega), _, pT.wn (va_up W' q (Lt q)), fun y hy => ?_⟩
            by_cases e : y = q
            · subst e; rw [bs_up_eq]
            · rw [bs_up_ne _ _ e]; exact hT y (by omega)
          · rintro u T ⟨oT, W', pT, hT⟩
            refine bs_fI_i pT.1 rfl (bs_ift (nI_le (by omega) (by omega)) (fin T W' oT pT (fun _ q hq => ?_)))
            rw [hT q hq, t1 hz0 q hq (lwN_lo hL hj hq).2, eP, enx]
    · rintro v H ⟨oH, W, Lt, Co, Go, Fi, La, pH, hW, hFL⟩
      show w_R_makeSwaps_35 Φ (v + 1) Y (nI L) (nI (2 ^ (L - L))) H
      rw [Nat.sub_self]
      refine bs_ift (by decide) (s_R_addSwaps hL ha hb (i.swp pH oH) pH.2.2.2.2.2.1 pH.2.2.2.2.2.2 hFL (fun h' i' o' => k h' i' (oH.r.trans o')))
theorem s_R_makeSwaps (i : IR Y th w f kc ks 0 st h) (hp : permB f w = true) (h2 : pw2 w = true) (k : ∀ h', IR Y th w f kc ks (mk2 w f st).1 (mk2 w f st).2 h' → offR Y h h' → Φ (.ok none) h') : w_R_makeSwaps Φ Y h := by
  obtain ⟨e1, e2⟩ := lgN_is w (by have := i.1.2.1; omega) h2
  obtain ⟨pa, pb, _⟩ := perm_all i.1.2.2.1 hp
  unfold mk2 at k
  generalize lgN w = L at e1 e2 k
  subst e1
  exact s_R_makeSwapsL e2 i pa pb k
end WT
