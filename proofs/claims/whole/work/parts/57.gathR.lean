/-! make(3) of the reference. -/
def qG (Y : Nat) (th : Int32) (w n kc : Nat) (h : bs_H) (gl : Nat → Int32) (gs gb : Nat → Int64) : Prop := rO Y th w n kc h ∧ h.1 (Y + 18) = some (bs_ia 64 gl) ∧ h.1 (Y + 19) = some (bs_la 64 gs) ∧ h.1 (Y + 20) = some (bs_la 64 gb)
def agR (Q : gp_S) (gl : Nat → Int32) (gs gb : Nat → Int64) : Prop := ∀ g, g < Q.1 → gl g = nI (Q.2.1 g) ∧ gs g = Q.2.2.1 g ∧ gb g = Q.2.2.2 g
def offK (Y : Nat) (h h' : bs_H) : Prop := (∀ b, b < Y + 18 ∨ Y + 20 < b → h'.1 b = h.1 b) ∧ h'.2 = h.2
theorem offK.refl (Y : Nat) (h : bs_H) : offK Y h h := ⟨fun _ _ => rfl, rfl⟩
theorem offK.trans {Y : Nat} {h h' h'' : bs_H} (h1 : offK Y h h') (h2 : offK Y h' h'') : offK Y h h'' := ⟨fun b hb => (h2.1 b hb).trans (h1.1 b hb), h2.2.trans h1.2⟩
theorem offK.set {Y a : Nat} {h h' : bs_H} {x : bs_E} (h1 : offK Y h h') (ha : Y + 18 ≤ a ∧ a ≤ Y + 20) : offK Y h (bs_set h' a x) := ⟨fun b hb => by rw [bs_set_ne (by omega)]; exact h1.1 b hb, h1.2⟩
theorem offK.r {Y : Nat} {h h' : bs_H} (o : offK Y h h') : offR Y h h' := ⟨fun b hb => o.1 b (by omega), o.2⟩
section GR
variable {Φ : bs_R → bs_H → Prop} {h : bs_H} {Y w n kc : Nat} {th : Int32} {gl : Nat → Int32} {gs gb : Nat → Int64}
theorem qG.l (p : qG Y th w n kc h gl gs gb) (g : Nat → Int32) : qG Y th w n kc (bs_set h (Y + 18) (bs_ia 64 g)) g gs gb := ⟨by unfold rO; rw [bs_set_ne (by omega)]; exact p.1, bs_set_eq, by rw [bs_set_ne (by omega)]; exact p.2.2.1, by rw [bs_set_ne (by omega)]; exact p.2.2.2⟩
theorem qG.s (p : qG Y th w n kc h gl gs gb) (g : Nat → Int64) : qG Y th w n kc (bs_set h (Y + 19) (bs_la 64 g)) gl g gb := ⟨by unfold rO; rw [bs_set_ne (by omega)]; exact p.1, by rw [bs_set_ne (by omega)]; exact p.2.1, bs_set_eq, by rw [bs_set_ne (by omega)]; exact p.2.2.2⟩
theorem qG.b (p : qG Y th w n kc h gl gs gb) (g : Nat → Int64) : qG Y th w n kc (bs_set h (Y + 20) (bs_la 64 g)) gl gs g := ⟨by unfold rO; rw [bs_set_ne (by omega)]; exact p.1, by rw [bs_set_ne (by omega)]; exact p.2.1, by rw [bs_set_ne (by omega)]; exact p.2.2.1, bs_set_eq⟩
theorem s_R_gput_76 {nx4 : Nat → Int32 → Int32 → bs_H → Prop} (p : qG Y th w n kc h gl gs gb) {G g k s : Nat} (hg : g < 64) (ko : ∀ h', qG Y th w n kc h' (va_up gl g (nI s)) (va_up gs g (gs g ||| bs_shl 1 (nI s))) (va_up gb g (gb g ||| bs_shl 1 (nI k))) → offK Y h h' → nx4 Y (nI G) (nI k + 1) h') : w_R_makeGathers_76 Φ nx4 Y (nI G) (nI k) (nI s) (nI g) h := by
  refine bs_fA_i p.1 rfl (bs_sI_i g p.2.1 rfl hg (by decide) ?_)
  have p1 := p.l (va_up gl g (nI s))
  refine bs_fA_i p1.1 rfl (bs_fA_i p1.1 rfl (bs_lL_i g p1.2.2.1 rfl hg (by decide) (bs_sL_i g p1.2.2.1 rfl hg (by decide) ?_)))
  have p2 := p1.s (va_up gs g (gs g ||| bs_shl 1 (nI s)))
  refine bs_fA_i p2.1 rfl (bs_fA_i p2.1 rfl (bs_lL_i g p2.2.2.2 rfl hg (by decide) (bs_sL_i g p2.2.2.2 rfl hg (by decide) ?_)))
  exact ko _ (p2.b _) ((((offK.refl Y h).set (by omega)).set (by omega)).set (by omega))
theorem s_R_gput {nx4 : Nat → Int32 → Int32 → bs_H → Prop} {Q : gp_S} (p : qG Y th w n kc h gl gs gb) (ag : agR Q gl gs gb) (t : gpT w Q) (hG : Q.1 < 64) {k s : Nat} (hs : s < 64) (ko : ∀ h' gl' gs' gb', qG Y th w n kc h' gl' gs' gb' → agR (gpPut Q (fndG Q.2.1 s Q.1 0) k s) gl' gs' gb' → offK Y h h' → nx4 Y (nI (gpPut Q (fndG Q.2.1 s Q.1 0) k s).1) (nI k + 1) h') : w_R_makeGathers_28 Φ nx4 1000 Y (nI Q.1) (nI k) (nI s) 0 h := by
  have tail : ∀ g, g = fndG Q.2.1 s Q.1 0 → w_R_makeGathers_51 Φ nx4 Y (nI Q.1) (nI k) (nI s) (nI g) h := by
    intro g hg
    rw [← hg] at ko
    have hle := (fndG_le Q.2.1 s Q.1 0).2
    rw [← hg] at hle
    refine bs_ife (nI_eq (a := g) (b := Q.1) (by omega) (by omega)) (fun he => ?_) (fun he => ?_)
    · subst he
      refine bs_fA_i p.1 rfl (bs_sL_i Q.1 p.2.2.1 rfl (by omega) (by decide) ?_)
      have p1 := p.s (va_up gs Q.1 0)
      refine bs_fA_i p1.1 rfl (bs_sL_i Q.1 p1.2.2.2 rfl (by omega) (by decide) ?_)
      have p2 := p1.b (va_up gb Q.1 0)
      rw [← nI_succ]
      refine s_R_gput_76 p2 (by omega) (fun h' p' o' => ?_)
      have := ko h' _ _ _ p' (fun z hz => ?_) ((((offK.refl Y h).set (by omega)).set (by omega)).trans o')
      · have e : (gpPut Q Q.1 k s).1 = Q.1 + 1 := if_pos rfl
        rw [e] at this
        exact this
      · have hz : z < (if Q.1 = Q.1 then Q.1 + 1 else Q.1) := hz
        rw [if_pos rfl] at hz
        show _ = nI (va_up Q.2.1 Q.1 s z) ∧ _ = va_up Q.2.2.1 Q.1 ((if Q.1 = Q.1 then 0 else Q.2.2.1 Q.1) ||| bs_shl 1 (nI s)) z ∧ _ = va_up Q.2.2.2 Q.1 ((if Q.1 = Q.1 then 0 else Q.2.2.2 Q.1) ||| bs_shl 1 (nI k)) z
        rw [if_pos rfl, if_pos rfl]
        by_cases hzn : z = Q.1
        · subst hzn; simp only [bs_up_eq]; exact ⟨trivial, trivial, trivial⟩
        · simp only [bs_up_ne _ _ hzn]; exact ag z (by omega)
    · refine s_R_gput_76 p (by omega) (fun h' p' o' => ?_)
      have := ko h' _ _ _ p' (fun z hz => ?_) o'
      · have e : (gpPut Q g k s).1 = Q.1 := if_neg he
        rw [e] at this
        exact this
      · have hz2 : z < (if g = Q.1 then Q.1 + 1 else Q.1) := hz
        rw [if_neg he] at hz2
        show _ = nI (va_up Q.2.1 g s z) ∧ _ = va_up Q.2.2.1 g ((if g = Q.1 then 0 else Q.2.2.1 g) ||| bs_shl 1 (nI s)) z ∧ _ = va_up Q.2.2.2 g ((if g = Q.1 then 0 else Q.2.2.2 g) ||| bs_shl 1 (nI k)) z
        rw [if_neg he, if_neg he]
        by_cases hzn : z = g
        · subst hzn; rw [bs_up_eq, bs_up_eq, bs_up_eq, bs_up_eq, bs_up_eq, bs_up_eq, (ag z hz2).2.1, (ag z hz2).2.2]; exact ⟨rfl, rfl, rfl⟩
        · simp only [bs_up_ne _ _ hzn]; exact ag z hz2
  have lp : ∀ (m g fu : Nat), g + m = Q.1 → m < fu → fndG Q.2.1 s Q.1 0 = fndG Q.2.1 s m g → w_R_makeGathers_28 Φ nx4 fu Y (nI Q.1) (nI k) (nI s) (nI g) h := by
    intro m
    induction m with
    | zero =>
      intro g fu hg hfu he
      obtain ⟨fu, rfl⟩ : ∃ fu', fu = fu' + 1 := ⟨fu - 1, by omega⟩
      exact bs_ift (nI_le (by omega) (by omega)) (tail g he.symm)
    | succ m ih =>
      intro g fu hg hfu he
      obtain ⟨fu, rfl⟩ : ∃ fu', fu = fu' + 1 := ⟨fu - 1, by omega⟩
      refine bs_iff (nI_ge (by omega) (by omega)) (bs_fA_i p.1 rfl (bs_lI_i g p.2.1 rfl (by omega) (by decide) ?_))
      have tg := (t g (by omega)).1
      rw [(ag g (by omega)).1]
      refine bs_ife (nI_ltI (a := Q.2.1 g) (b := s) (by omega) (by omega)) (fun hlt => ?_) (fun hlt => ?_)
      · exact tail g (by rw [he, fndG, if_pos hlt])
      · rw [← nI_succ]
        exact ih (g + 1) fu (by omega) (by omega) (by rw [he, fndG, if_neg hlt])
  exact lp Q.1 0 1000 (by omega) (by omega) rfl
end GR
section GRW
variable {Φ : bs_R → bs_H → Prop} {h : bs_H} {Y w kc : Nat} {th : Int32} {f : Nat → Nat} {ks : bs_Ks} {st : bs_St}
theorem IR.gat {n : Nat} {h' : bs_H} (i : IR Y th w f kc ks n st h) (c : rGat Y h') (o : offK Y h h') : IR Y th w f kc ks n st h' := by
  obtain ⟨i0, i1, i2, i3, i4, i5, i6, i7, i8⟩ := i
  have s1 : same Y (Y + 17) h h' := fun b h1 h2 => o.1 b (by omega)
  have s2 : same (Y + 21) (Y + 23) h h' := fun b h1 h2 => o.1 b (by omega)
  exact ⟨i0, i1.kept (s1 _ (by omega) (by omega)), i2.kept (s1 _ (by omega) (by omega)), i3.kept (s1.sub (by omega) (by omega)), i4.kept (s1.sub (by omega) (by omega)), i5.kept (s1.sub (by omega) (by omega)), i6.kept (s1.sub (by omega) (by omega)), c, i8.kept (s2.sub (by omega) (by omega))⟩
theorem s_R_add2 {P : bs_Pr} (i : IR Y th w f kc ks P.1 P.2 h) (hn : P.1 < 192) {x : Int32 × Int32 × Int64} (k : ∀ h', IR Y th w f kc ks (pu P x).1 (pu P x).2 h' → offR Y h h' → same (Y + 5) (Y + 23) h h' → Φ (.ok none) h') : w_R_add Φ Y x.1 x.2.1 x.2.2 h := by
  obtain ⟨i0, i1, i2, ⟨o, am, m, p1, p2, p3, q⟩, i4, i5, i6, i7, i8⟩ := i
  refine bs_fA_i i1 rfl (bs_fI_i i1 rfl (bs_sI_i P.1 p1 rfl (by omega) (by decide) ?_))
  have a1 : (bs_set h (Y + 2) (bs_ia 400 (va_up o P.1 x.1))).1 Y = some (bs_obj 7 (rF Y th w P.1 kc)) := by rw [bs_set_ne (by omega)]; exact i1
  refine bs_fA_i a1 rfl (bs_fI_i a1 rfl (bs_sI_i P.1 (by rw [bs_set_ne (by omega)]; exact p2) rfl (by omega) (by decide) ?_))
  have a2 : (bs_set (bs_set h (Y + 2) (bs_ia 400 (va_up o P.1 x.1))) (Y + 3) (bs_ia 400 (va_up am P.1 x.2.1))).1 Y = some (bs_obj 7 (rF Y th w P.1 kc)) := by rw [bs_set_ne (by omega)]; exact a1
  refine bs_fA_i a2 rfl (bs_fI_i a2 rfl (bs_sL_i P.1 (by rw [bs_set_ne (by omega), bs_set_ne (by omega)]; exact p3) rfl (by omega) (by decide) ?_))
  have a3 : (bs_set (bs_set (bs_set h (Y + 2) (bs_ia 400 (va_up o P.1 x.1))) (Y + 3) (bs_ia 400 (va_up am P.1 x.2.1))) (Y + 4) (bs_la 400 (va_up m P.1 x.2.2))).1 Y = some (bs_obj 7 (rF Y th w P.1 kc)) := by rw [bs_set_ne (by omega)]; exact a2
  refine bs_fI_i a3 rfl (bs_p_i a3 (by simp) rfl ?_)
  rw [← nI_succ]
  refine k _ ⟨⟨i0.1, i0.2.1, i0.2.2.1, i0.2.2.2.1, by show P.1 + 1 ≤ 192; omega⟩, bs_set_eq, i2.kept ?_, ⟨va_up o P.1 x.1, va_up am P.1 x.2.1, va_up m P.1 x.2.2, ?_, ?_, ?_, fun z hz => ?_⟩, i4.kept ?_, i5.kept ?_, i6.kept ?_, i7.kept ?_, i8.kept ?_⟩ (((((offR.refl Y h).set (by omega)).set (by omega)).set (by omega)).set (by omega)) ?_
  · rw [bs_set_ne (by omega), bs_set_ne (by omega), bs_set_ne (by omega), bs_set_ne (by omega)]
  · rw [bs_set_ne (by omega), bs_set_ne (by omega), bs_set_ne (by omega), bs_set_eq]
  · rw [bs_set_ne (by omega), bs_set_ne (by omega), bs_set_eq]
  · rw [bs_set_ne (by omega), bs_set_eq]
  · have hz : z < P.1 + 1 := hz
    show va_up o P.1 x.1 z = (va_up P.2 P.1 x z).1 ∧ va_up am P.1 x.2.1 z = (va_up P.2 P.1 x z).2.1 ∧ va_up m P.1 x.2.2 z = (va_up P.2 P.1 x z).2.2
    by_cases hzn : z = P.1
    · subst hzn; rw [bs_up_eq, bs_up_eq, bs_up_eq, bs_up_eq]; exact ⟨rfl, rfl, rfl⟩
    · rw [bs_up_ne _ _ hzn, bs_up_ne _ _ hzn, bs_up_ne _ _ hzn, bs_up_ne _ _ hzn]; exact q z (by omega)
  all_goals exact (((same.set (by omega)).trans (same.set (by omega))).trans (same.set (by omega))).trans (same.set (by omega))
theorem s_R_makeGathers (i : IR Y th w f kc ks 0 st h) (k : ∀ h', IR Y th w f kc ks (mk3 w f st).1 (mk3 w f st).2 h' → offR Y h h' → Φ (.ok none) h') : w_R_makeGathers Φ Y h := by
  have h1 := i.1.1
  have hw := i.1.2.1
  have hf := i.1.2.2.1
  obtain ⟨g1, g2, g3, c1, c2, c3⟩ := i.2.2.2.2.2.2.2.1
  show w_R_makeGathers_4 Φ 1000 Y (nI (gpN f 0).1) (nI 0) h
  refine bs_for (σ := bs_H) (fun u c H => w_R_makeGathers_4 Φ u Y (nI (gpN f c).1) (nI c) H) (fun c H => offK Y h H ∧ ∃ gl gs gb, qG Y th w 0 kc H gl gs gb ∧ agR (gpN f c) gl gs gb) w ?_ ?_ w 0 h 1000 (by omega) (by omega) ⟨offK.refl Y h, g1, g2, g3, ⟨i.2.1, c1, c2, c3⟩, fun z hz => absurd hz (Nat.not_lt_zero z)⟩
  · rintro u c H hc ⟨oH, gl, gs, gb, pH, aH⟩ nx
    have iH : IR Y th w f kc ks 0 st H := i.gat ⟨_, _, _, pH.2.1, pH.2.2.1, pH.2.2.2⟩ oH
    obtain ⟨g, p, q⟩ := iH.2.2.1
    obtain ⟨t, ct⟩ := gpN_t hw hf c (by omega)
    have hcl := cnt_le (fun i => decide (f i < 64)) c
    obtain ⟨q1, q2⟩ := q c hc
    refine bs_fI_i pH.1 rfl (bs_iff (nI_ge hc (by omega)) (bs_fA_i pH.1 rfl (bs_lI_i c p rfl (by omega) (by decide) ?_)))
    rw [q1]
    refine bs_ife (nI_leI (a := 64) (b := f c) (by decide) (by omega)) (fun h64 => ?_) (fun h64 => ?_)
    · show w_R_makeGathers_4 Φ u Y (nI (gpN f c).1) (nI c + 1) H
      rw [← nI_succ]
      have e : gpN f (c + 1) = gpN f c := if_neg (by omega)
      rw [← e]
      exact nx H ⟨oH, gl, gs, gb, pH, by rw [e]; exact aH⟩
    · have e : gpN f (c + 1) = gpPut (gpN f c) (fndG (gpN f c).2.1 (f c) (gpN f c).1 0) c (f c) := if_pos (by omega)
      refine s_R_gput pH aH t (by omega) (by omega) (fun h' gl' gs' gb' p' a' o' => ?_)
      rw [← nI_succ, ← e]
      exact nx h' ⟨oH.trans o', gl', gs', gb', p', by rw [e]; exact a'⟩
  · rintro u H ⟨oH, gl, gs, gb, pH, aH⟩
    have iH : IR Y th w f kc ks 0 st H := i.gat ⟨_, _, _, pH.2.1, pH.2.2.1, pH.2.2.2⟩ oH
    obtain ⟨r1, r2⟩ := gp_room hw hf
    refine bs_fI_i pH.1 rfl (bs_ift (nI_le (by omega) (by omega)) ?_)
    show w_R_makeGathers_128 Φ 1000 Y (nI (gpN f w).1) (nI 0) H
    refine bs_for (σ := bs_H) (fun u c K => w_R_makeGathers_128 Φ u Y (nI (gpN f w).1) (nI c) K) (fun c K => IR Y th w f kc ks (gpP st (gpN f w) c).1 (gpP st (gpN f w) c).2 K ∧ offR Y h K ∧ K.1 (Y + 19) = some (bs_la 64 gs) ∧ K.1 (Y + 20) = some (bs_la 64 gb)) (gpN f w).1 ?_ ?_ (gpN f w).1 0 H 1000 (by omega) (by omega) ⟨iH, oH.r, pH.2.2.1, pH.2.2.2⟩
    · rintro u c K hc ⟨iK, oK, k1, k2⟩ nx
      have hn := gpP_n st (gpN f w) c
      refine bs_iff (nI_ge hc (by omega)) (bs_fA_i iK.2.1 rfl (bs_lL_i c k1 rfl (by omega) (by decide) ⟨⟨_, iK.2.1⟩, ?_⟩))
      rw [(aH c hc).2.1]
      refine s_R_add2 (x := (7, 0, (gpN f w).2.2.1 c)) iK (by omega) (fun h1 i1 o1 s1 => bs_kV_i ?_)
      have k1' := (s1 _ (by omega) (by omega)).trans k1
      have k2' := (s1 _ (by omega) (by omega)).trans k2
      refine bs_fA_i i1.2.1 rfl (bs_lL_i c k2' rfl (by omega) (by decide) ⟨⟨_, i1.2.1⟩, ?_⟩)
      rw [(aH c hc).2.2]
      refine s_R_add2 (x := (8, 0, (gpN f w).2.2.2 c)) i1 (by show (gpP st (gpN f w) c).1 + 1 < 192; omega) (fun h2 i2 o2 s2 => bs_kV_i ⟨⟨_, i2.2.1⟩, ?_⟩)
      refine s_R_add2 (x := (3, 0, 0)) i2 (by show (gpP st (gpN f w) c).1 + 1 + 1 < 192; omega) (fun h3 i3 o3 s3 => bs_kV_i ?_)
      rw [← nI_succ]
      exact nx h3 ⟨i3, ((oK.trans o1).trans o2).trans o3, ((s3 _ (by omega) (by omega)).trans (s2 _ (by omega) (by omega))).trans k1', ((s3 _ (by omega) (by omega)).trans (s2 _ (by omega) (by omega))).trans k2'⟩
    · rintro u K ⟨iK, oK, k1, k2⟩
      refine bs_ift (nI_le (by omega) (by omega)) ⟨⟨_, iK.2.1⟩, s_R_addOnes iK (fun hz => by rw [gpP_n]; exact r2 hz) (fun h' i' o' => bs_kV_i (k h' i' (oK.trans o')))⟩
end GRW
