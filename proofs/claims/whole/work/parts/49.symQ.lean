/-! The reference: a step, all steps; check, origins, constant. -/
def offQ (Y : Nat) (h h' : bs_H) : Prop := (∀ b, b < Y + 7 ∨ Y + 11 < b → h'.1 b = h.1 b) ∧ h'.2 = h.2
theorem offQ.refl (Y : Nat) (h : bs_H) : offQ Y h h := ⟨fun _ _ => rfl, rfl⟩
theorem offQ.trans {Y : Nat} {h h' h'' : bs_H} (h1 : offQ Y h h') (h2 : offQ Y h' h'') : offQ Y h h'' := ⟨fun b hb => (h2.1 b hb).trans (h1.1 b hb), h2.2.trans h1.2⟩
theorem offQ.set {Y a : Nat} {h h' : bs_H} {x : bs_E} (h1 : offQ Y h h') (ha : Y + 7 ≤ a ∧ a ≤ Y + 11) : offQ Y h (bs_set h' a x) := ⟨fun b hb => by rw [bs_set_ne (by omega)]; exact h1.1 b hb, h1.2⟩
theorem offQ.r {Y : Nat} {h h' : bs_H} (o : offQ Y h h') : offR Y h h' := ⟨fun b hb => o.1 b (by omega), o.2⟩
/-- at most 8 -/
def opL (op : Int32) : Prop := ∃ o, o ≤ 8 ∧ op = nI o
section SG
variable {Φ : bs_R → bs_H → Prop} {h : bs_H} {Y w n kc : Nat} {th : Int32} {ga gt gr gl : Nat → Int64} {go : Nat → Bool}
theorem s_R_goRest (p : qS Y th w n kc h ga gt gr go gl) (hw : w ≤ 64) {o : Nat → Int32} {i : Nat} (ho : h.1 (Y + 2) = some (bs_ia 400 o)) (hi : i < 400) {m : Int64}
    (k : ∀ h' T R O, qS Y th w n kc h' ga T R O gl → (∀ z, z < w → T z = (if o i = 2 ∧ lb m z = false then 0 else gt z) ∧ R z = (if o i = 3 then gr z ||| gt z else if o i = 6 then gr z ||| ga z else gr z) ∧ O z = (go z || (decide (o i = 4) && lb m z))) → offQ Y h h' → Φ (.ok none) h') : w_R_go_125 Φ 1000 Y (nI i) m 0 h := by
  show w_R_go_125 Φ 1000 Y (nI i) m (nI 0) h
  refine bs_for (σ := bs_H) (fun q c H => w_R_go_125 Φ q Y (nI i) m (nI c) H) (fun c H => offQ Y h H ∧ ∃ T R O, qS Y th w n kc H ga T R O gl ∧ (∀ z, z < c → T z = (if o i = 2 ∧ lb m z = false then 0 else gt z) ∧ R z = (if o i = 3 then gr z ||| gt z else if o i = 6 then gr z ||| ga z else gr z) ∧ O z = (go z || (decide (o i = 4) && lb m z))) ∧ ∀ z, c ≤ z → T z = gt z ∧ R z = gr z ∧ O z = go z) w ?_ ?_ w 0 h 1000 (by omega) (by omega) ⟨offQ.refl Y h, gt, gr, go, p, fun z hz => by omega, fun z hz => ⟨rfl, rfl, rfl⟩⟩
  · rintro q c H hc ⟨oH, T, R, O, pH, hlo, hhi⟩ nx
    obtain ⟨c1, c2, c3⟩ := hhi c (Nat.le_refl _)
    -- the third: the ones
    have st3 : ∀ (H' : bs_H) (T' R' : Nat → Int64), offQ Y h H' → qS Y th w n kc H' ga T' R' O gl → (∀ z, z < c + 1 → T' z = (if o i = 2 ∧ lb m z = false then 0 else gt z) ∧ R' z = (if o i = 3 then gr z ||| gt z else if o i = 6 then gr z ||| ga z else gr z)) → (∀ z, c + 1 ≤ z → T' z = gt z ∧ R' z = gr z) → ∀ b : Bool, b = (go c || (decide (o i = 4) && lb m c)) → w_R_go_284 Φ (w_R_go_125 Φ q) Y (nI i) m (nI c) (Y + 10) (nI c) (bz b) H' := by
      intro H' T' R' oH' pH' h1 h2 b hb
      refine bs_sZ_i c pH'.2.2.2.2.1 rfl (by omega) (by decide) ?_
      rw [bz_up, ← nI_succ]
      refine nx _ ⟨oH'.set (by omega), T', R', _, pH'.o _, fun z hz => ⟨(h1 z hz).1, (h1 z hz).2, ?_⟩, fun z hz => ⟨(h2 z hz).1, (h2 z hz).2, ?_⟩⟩
      · by_cases hzc : z = c
        · subst hzc; rw [bs_up_eq]; exact hb
        · rw [bs_up_ne _ _ hzc]; exact (hlo z (by omega)).2.2
      · rw [bs_up_ne _ _ (by omega)]; exact (hhi z (by omega)).2.2
    -- the second: R
    have st2 : ∀ (H' : bs_H) (T' : Nat → Int64), offQ Y h H' → qS Y th w n kc H' ga T' R O gl → (∀ z, z < c + 1 → T' z = (if o i = 2 ∧ lb m z = false then 0 else gt z)) → (∀ z, c + 1 ≤ z → T' z = gt z) → ∀ v : Int64, (v = if o i = 3 then gr c ||| gt c else if o i = 6 then gr c ||| ga c else gr c) → w_R_go_242 Φ (w_R_go_125 Φ q) Y (nI i) m (nI c) (Y + 9) (nI c) v H' := by
      intro H' T' oH' pH' h1 h2 v hv
      refine bs_sL_i c pH'.2.2.2.1 rfl (by omega) (by decide) ?_
      have p2 := pH'.r (va_up R c v)
      have o2 : offQ Y h (bs_set H' (Y + 9) (bs_la 64 (va_up R c v))) := oH'.set (by omega)
      generalize bs_set H' (Y + 9) (bs_la 64 (va_up R c v)) = H2 at p2 o2 ⊢
      have hops : H2.1 (Y + 2) = some (bs_ia 400 o) := (o2.1 _ (by omega)).trans ho
      have g := st3 H2 T' (va_up R c v) o2 p2 (fun z hz => ⟨h1 z hz, ?_⟩) (fun z hz => ⟨h2 z hz, by rw [bs_up_ne _ _ (by omega)]; exact (hhi z (by omega)).2.1⟩)
      · refine bs_fA_i p2.1 rfl (bs_fA_i p2.1 rfl (bs_lZ_i c p2.2.2.2.2.1 rfl (by omega) (by decide) (bs_ifz (fun hb => bs_fA_i p2.1 rfl (bs_lI_i i hops rfl hi (by decide) (bs_ifc (fun h4 => ⟨⟨_, p2.1⟩, s_R_isIn (by omega) (bs_kI_i (bs_ifz (fun hl => ?_) (fun hl => ?_)))⟩) (fun h4 => ?_)))) (fun hb => ?_))))
        · exact g false (by rw [← c3, hb, hl]; simp)
        · exact g true (by rw [← c3, hb, hl, h4]; rfl)
        · exact g false (by rw [← c3, hb]; simp [h4])
        · exact g true (by rw [← c3, hb]; rfl)
      · by_cases hzc : z = c
        · subst hzc; rw [bs_up_eq]; exact hv
        · rw [bs_up_ne _ _ hzc]; exact (hlo z (by omega)).2.1
    have st1 : ∀ v : Int64, (v = if o i = 2 ∧ lb m c = false then 0 else gt c) → w_R_go_171 Φ (w_R_go_125 Φ q) Y (nI i) m (nI c) (Y + 8) (nI c) v H := by
      intro v hv
      refine bs_sL_i c pH.2.2.1 rfl (by omega) (by decide) ?_
      have p2 := pH.t (va_up T c v)
      have o2 : offQ Y h (bs_set H (Y + 8) (bs_la 64 (va_up T c v))) := oH.set (by omega)
      generalize bs_set H (Y + 8) (bs_la 64 (va_up T c v)) = H2 at p2 o2 ⊢
      have hops : H2.1 (Y + 2) = some (bs_ia 400 o) := (o2.1 _ (by omega)).trans ho
      have g := st2 H2 (va_up T c v) o2 p2 (up_below (fun z hz => (hlo z hz).1) hv) (fun z hz => by rw [bs_up_ne _ _ (by omega)]; exact (hhi z (by omega)).1)
      refine bs_fA_i p2.1 rfl (bs_fA_i p2.1 rfl (bs_lI_i i hops rfl hi (by decide) (bs_ifc (fun h3 => ?_) (fun h3 => bs_fA_i p2.1 rfl (bs_lI_i i hops rfl hi (by decide) (bs_ifc (fun h6 => ?_) (fun h6 => ?_)))))))
      · refine bs_fA_i p2.1 rfl (bs_lL_i c p2.2.2.2.1 rfl (by omega) (by decide) (bs_fA_i p2.1 rfl (bs_lL_i c p2.2.2.1 rfl (by omega) (by decide) (g _ ?_))))
        rw [if_pos h3, bs_up_eq, c2, hv, if_neg (by rw [h3]; exact (fun q => absurd q.1 (by decide)))]
      · refine bs_fA_i p2.1 rfl (bs_lL_i c p2.2.2.2.1 rfl (by omega) (by decide) (bs_fA_i p2.1 rfl (bs_lL_i c p2.2.1 rfl (by omega) (by decide) (g _ ?_))))
        rw [if_neg h3, if_pos h6, c2]
      · refine bs_fA_i p2.1 rfl (bs_lL_i c p2.2.2.2.1 rfl (by omega) (by decide) (g _ ?_))
        rw [if_neg h3, if_neg h6, c2]
    have hops : H.1 (Y + 2) = some (bs_ia 400 o) := (oH.1 _ (by omega)).trans ho
    have st0 : (¬ (o i = 2 ∧ lb m c = false)) → w_R_go_164 Φ (w_R_go_125 Φ q) Y (nI i) m (nI c) (Y + 8) (nI c) H := fun hn => bs_fA_i pH.1 rfl (bs_lL_i c pH.2.2.1 rfl (by omega) (by decide) (st1 _ (by rw [if_neg hn, c1])))
    refine bs_fI_i pH.1 rfl (bs_iff (nI_ge hc (by omega)) (bs_fA_i pH.1 rfl (bs_fA_i pH.1 rfl (bs_lI_i i hops rfl hi (by decide) (bs_ifc (fun h2 => ⟨⟨_, pH.1⟩, s_R_isIn (by omega) (bs_kI_i (bs_ifz (fun hb => ?_) (fun hb => ?_)))⟩) (fun h2 => ?_))))))
    · exact st1 0 (by rw [if_pos ⟨h2, hb⟩])
    · exact st0 (fun q => by rw [hb] at q; cases q.2)
    · exact st0 (fun q => h2 q.1)
  · rintro q H ⟨oH, T, R, O, pH, hlo, hhi⟩
    exact bs_fI_i pH.1 rfl (bs_ift (nI_le (by omega) (by omega)) (k H T R O pH hlo oH))
theorem s_R_go (p : qS Y th w n kc h ga gt gr go gl) (hw : w ≤ 64) {q : sy_S} (a : ag w q ga gt gr go) {o am : Nat → Int32} {ms : Nat → Int64} {i : Nat} (ho : h.1 (Y + 2) = some (bs_ia 400 o)) (ha : h.1 (Y + 3) = some (bs_ia 400 am)) (hm : h.1 (Y + 4) = some (bs_la 400 ms)) (hi : i < 400) (hf : fitsB w (o i) (am i) (ms i) = true) (hop : opL (o i))
    (k : ∀ h' ga' gt' gr' go' gl', qS Y th w n kc h' ga' gt' gr' go' gl' → ag w (sy w (o i) (am i) (ms i) q) ga' gt' gr' go' → offQ Y h h' → Φ (.ok none) h') : w_R_go Φ Y (nI i) h := by
  refine bs_fA_i p.1 rfl (bs_lL_i i hm rfl hi (by decide) (bs_fA_i p.1 rfl (bs_lI_i i ho rfl hi (by decide) ?_)))
  have ft : ∀ T : Nat → Int64, (∀ z, z < w → T z = (sy w (o i) (am i) (ms i) q).2.1 z) → (sy w (o i) (am i) (ms i) q).1 = q.1 → (sy w (o i) (am i) (ms i) q).2.2 = q.2.2 → Φ (.ok none) (bs_set h (Y + 8) (bs_la 64 T)) := by
    intro T hT e1 e2
    refine k _ _ _ _ _ _ (p.t T) (fun z hz => ?_) ((offQ.refl Y h).set (by omega))
    rw [e1, e2]
    exact ⟨(a z hz).1, hT z hz, (a z hz).2.2⟩
  have rest : ∀ op : Int32, o i = op → op = 2 ∨ op = 3 ∨ op = 4 ∨ op = 6 → w_R_go_125 Φ 1000 Y (nI i) (ms i) 0 h := by
    intro op eo ho4
    refine s_R_goRest p hw ho hi (fun h' T R O p' hz o' => k h' ga T R O gl p' (fun z hz' => ?_) o')
    obtain ⟨a1, a2, a3, a4⟩ := a z hz'
    obtain ⟨b1, b2, b3⟩ := hz z hz'
    rw [b1, b2, b3, eo, a1, a2, a3, a4]
    rcases ho4 with rfl | rfl | rfl | rfl
    · refine ⟨rfl, ?_, rfl, by show (q.2.2.2 z || (false && lb (ms i) z)) = q.2.2.2 z; simp⟩
      show _ = if lb (ms i) z = true then q.2.1 z else 0
      cases hb : lb (ms i) z <;> rfl
    · exact ⟨rfl, rfl, rfl, by show (q.2.2.2 z || (false && lb (ms i) z)) = q.2.2.2 z; simp⟩
    · exact ⟨rfl, rfl, rfl, rfl⟩
    · exact ⟨rfl, rfl, rfl, by show (q.2.2.2 z || (false && lb (ms i) z)) = q.2.2.2 z; simp⟩
  have hmv0 : o i = 0 → w_R_go_86 Φ Y (am i) 0 h := by
    intro h0
    rw [h0] at hf ft
    have hd := fit_sh hf
    have e : sy w 0 (am i) (ms i) q = (q.1, shT w (am i).toInt q.1, q.2.2) := rfl
    refine ⟨⟨_, p.1⟩, s_R_moveBits p hw (am i) hd false (fun q => by cases q) (fun T hT => bs_kV_i (ft T (fun z hz => ?_) (by rw [e]) (by rw [e])))⟩
    rw [e, hT z hz]
    show shT w (am i).toInt ga z = shT w (am i).toInt q.1 z
    unfold shT
    by_cases hc : 0 ≤ (z : Int) - (am i).toInt ∧ (z : Int) - (am i).toInt < w
    · rw [if_pos hc, if_pos hc]; exact (a _ (by omega)).1
    · rw [if_neg hc, if_neg hc]
  have hmv1 : o i = 1 → w_R_go_86 Φ Y (am i) 1 h := by
    intro h1
    rw [h1] at hf ft
    obtain ⟨j, hj, ej⟩ := fit_ro hf
    have ejt : (nI j).toInt = (j : Int) := nI_toInt (by omega)
    rw [ej] at ft ⊢
    have e : sy w 1 (nI j) (ms i) q = (q.1, roT w (nI j).toNatClampNeg q.1, q.2.2) := rfl
    refine ⟨⟨_, p.1⟩, s_R_moveBits p hw (nI j) (by omega) true (fun _ => by omega) (fun T hT => bs_kV_i (ft T (fun z hz => ?_) (by rw [e]) (by rw [e])))⟩
    rw [e, hT z hz, nI_clamp (by omega)]
    show roT w j ga z = roT w j q.1 z
    unfold roT
    exact (a _ (by split <;> omega)).1
  refine bs_ifc (fun h0 => ?_) (fun h0 => bs_ifc (fun h1 => ?_) (fun h1 => bs_ifc (fun h5 => ?_) (fun h5 => bs_ifc (fun h7 => ?_) (fun h7 => bs_ifc (fun h8 => ?_) (fun h8 => ?_)))))
  · exact bs_fA_i p.1 rfl (bs_lI_i i ha rfl hi (by decide) (bs_fA_i p.1 rfl (bs_lI_i i ho rfl hi (by decide) (bs_iff (by rw [h0]; decide) (hmv0 h0)))))
  · exact bs_fA_i p.1 rfl (bs_lI_i i ha rfl hi (by decide) (bs_fA_i p.1 rfl (bs_lI_i i ho rfl hi (by decide) (bs_ift h1 (hmv1 h1)))))
  · refine bs_fA_i p.1 rfl (bs_lI_i i ha rfl hi (by decide) ⟨⟨_, p.1⟩, ?_⟩)
    rw [h5] at hf k
    obtain ⟨j, ej, ok⟩ := fit_sw hw hf
    rw [ej] at k ⊢
    have d0 := ok.2.1
    have e : sy w 5 (nI j) (ms i) q = (swC w (nI j).toNatClampNeg (ms i) q.1 (w - (nI j).toNatClampNeg), q.2) := rfl
    refine s_R_swapBits p hw ok (fun T hT => bs_kV_i (k _ _ _ _ _ _ (p.a T) (fun z hz => ?_) ((offQ.refl Y h).set (by omega))))
    rw [e, nI_clamp (by omega)]
    refine ⟨?_, (a z hz).2⟩
    rw [hT z hz]
    show swC w j (ms i) ga (w - j) z = swC w j (ms i) q.1 (w - j) z
    unfold swC
    by_cases h1 : lb (ms i) z = true ∧ z + j < w ∧ z < w - j
    · rw [if_pos h1, if_pos h1]; exact (a _ (by omega)).1
    · rw [if_neg h1, if_neg h1]
      by_cases h2 : j ≤ z ∧ lb (ms i) (z - j) = true ∧ z - j < w - j
      · rw [if_pos h2, if_pos h2]; exact (a _ (by omega)).1
      · rw [if_neg h2, if_neg h2]; exact (a z hz).1
  · rw [h7] at ft
    have e : sy w 7 (am i) (ms i) q = (q.1, gat (ms i) q.1 w, q.2.2) := rfl
    refine ⟨⟨_, p.1⟩, s_R_gatherBits p hw (ms i) (fun T hT => bs_kV_i (ft T (fun z hz => ?_) (by rw [e]) (by rw [e])))⟩
    rw [e, hT z hz]
    have : ∀ c, c ≤ w → gat (ms i) ga c z = gat (ms i) q.1 c z := by
      intro c
      induction c with
      | zero => intro _; rfl
      | succ c ih => intro hc; unfold gat; rw [ih (by omega), (a c (by omega)).1]
    exact this w (Nat.le_refl _)
  · rw [h8] at k
    have e : sy w 8 (am i) (ms i) q = (q.1, fun k => if lb (ms i) k = true then q.2.1 (rk (ms i) k) else 0, q.2.2) := rfl
    refine ⟨⟨_, p.1⟩, s_R_scatterBits p hw (ms i) (fun T L hT => bs_kV_i (k _ _ _ _ _ _ ((p.l L).t T) (fun z hz => ?_) (((offQ.refl Y h).set (by omega)).set (by omega))))⟩
    rw [e]
    refine ⟨(a z hz).1, ?_, (a z hz).2.2⟩
    have := rk_le (ms i) z
    rw [hT z hz]
    show (if lb (ms i) z = true then _ else _) = (if lb (ms i) z = true then _ else _)
    rw [(a (rk (ms i) z) (by omega)).2.1]
  · obtain ⟨j, hj, ej⟩ := hop
    refine rest (nI j) ej ?_
    rw [ej] at h0 h1 h5 h7 h8
    have : j = 0 ∨ j = 1 ∨ j = 2 ∨ j = 3 ∨ j = 4 ∨ j = 5 ∨ j = 6 ∨ j = 7 ∨ j = 8 := by omega
    rcases this with rfl | rfl | rfl | rfl | rfl | rfl | rfl | rfl | rfl
    · exact absurd rfl h0
    · exact absurd rfl h1
    · exact Or.inl rfl
    · exact Or.inr (Or.inl rfl)
    · exact Or.inr (Or.inr (Or.inl rfl))
    · exact absurd rfl h5
    · exact Or.inr (Or.inr (Or.inr rfl))
    · exact absurd rfl h7
    · exact absurd rfl h8
end SG
