/-! make(3) of the class. -/
def pG (h : bs_H) (a G : Nat) (gs gb : Nat → Int64) : Prop := h.1 a = some (bs_obj 6 [.ref (a + 1), .ref (a + 2), .int (nI G)]) ∧ h.1 (a + 1) = some (bs_la 64 gs) ∧ h.1 (a + 2) = some (bs_la 64 gb)
def agG (Q : gp_S) (gs gb : Nat → Int64) : Prop := ∀ g, g < Q.1 → gs g = Q.2.2.1 g ∧ gb g = Q.2.2.2 g
def offG (a : Nat) (h h' : bs_H) : Prop := (∀ b, b < a ∨ a + 2 < b → h'.1 b = h.1 b) ∧ h'.2 = h.2
theorem offG.refl (a : Nat) (h : bs_H) : offG a h h := ⟨fun _ _ => rfl, rfl⟩
theorem offG.trans {a : Nat} {h h' h'' : bs_H} (h1 : offG a h h') (h2 : offG a h' h'') : offG a h h'' := ⟨fun b hb => (h2.1 b hb).trans (h1.1 b hb), h2.2.trans h1.2⟩
theorem offG.set {a b : Nat} {h h' : bs_H} {x : bs_E} (h1 : offG a h h') (hb : a ≤ b ∧ b ≤ a + 2) : offG a h (bs_set h' b x) := ⟨fun c hc => by rw [bs_set_ne (by omega)]; exact h1.1 c hc, h1.2⟩
section GB
variable {Φ : bs_R → bs_H → Prop} {h : bs_H} {a G : Nat} {gs gb : Nat → Int64}
theorem pG.s (p : pG h a G gs gb) (g : Nat → Int64) : pG (bs_set h (a + 1) (bs_la 64 g)) a G g gb := ⟨by rw [bs_set_ne (by omega)]; exact p.1, bs_set_eq, by rw [bs_set_ne (by omega)]; exact p.2.2⟩
theorem pG.b (p : pG h a G gs gb) (g : Nat → Int64) : pG (bs_set h (a + 2) (bs_la 64 g)) a G gs g := ⟨by rw [bs_set_ne (by omega)]; exact p.1, by rw [bs_set_ne (by omega)]; exact p.2.1, bs_set_eq⟩
theorem pG.n (p : pG h a G gs gb) (G' : Nat) : pG (bs_set h a (bs_obj 6 [.ref (a + 1), .ref (a + 2), .int (nI G')])) a G' gs gb := ⟨bs_set_eq, by rw [bs_set_ne (by omega)]; exact p.2.1, by rw [bs_set_ne (by omega)]; exact p.2.2⟩
theorem s_G_put_70 (p : pG h a G gs gb) (hG : G ≤ 64) {g k s : Nat} (hg : g < G) (ko : ∀ h', pG h' a G (va_up gs g (gs g ||| bs_shl 1 (nI s))) (va_up gb g (gb g ||| bs_shl 1 (nI k))) → offG a h h' → Φ (.ok none) h') : w_G_put_70 Φ a (nI k) (nI s) (nI g) h := by
  refine bs_fI_i p.1 rfl (bs_iff (nI_ge hg (by omega)) (bs_fA_i p.1 rfl (bs_lL_i g p.2.1 rfl (by omega) (by decide) (bs_sL_i g p.2.1 rfl (by omega) (by decide) ?_))))
  have p1 := p.s (va_up gs g (gs g ||| bs_shl 1 (nI s)))
  refine bs_fA_i p1.1 rfl (bs_lL_i g p1.2.2 rfl (by omega) (by decide) (bs_sL_i g p1.2.2 rfl (by omega) (by decide) ?_))
  exact ko _ (p1.b _) (((offG.refl a h).set (by omega)).set (by omega))
theorem s_G_put {w : Nat} {Q : gp_S} (p : pG h a Q.1 gs gb) (ag : agG Q gs gb) (t : gpT w Q) (hG : Q.1 < 64) {k s : Nat} (hs : s < 64) (ko : ∀ h' gs' gb', pG h' a (gpPut Q (fndG Q.2.1 s Q.1 0) k s).1 gs' gb' → agG (gpPut Q (fndG Q.2.1 s Q.1 0) k s) gs' gb' → offG a h h' → Φ (.ok none) h') : w_G_put Φ a (nI k) (nI s) h := by
  have tail : ∀ g, g = fndG Q.2.1 s Q.1 0 → w_G_put_29 Φ a (nI k) (nI s) (nI g) h := by
    intro g hg
    rw [← hg] at ko
    have hle := (fndG_le Q.2.1 s Q.1 0).2
    rw [← hg] at hle
    refine bs_fI_i p.1 rfl (bs_ife (nI_eq (a := g) (b := Q.1) (by omega) (by omega)) (fun he => ?_) (fun he => ?_))
    · subst he
      refine bs_fI_i p.1 rfl (bs_iff (nI_ge (b := 64) hG (by omega)) (bs_fA_i p.1 rfl (bs_sL_i Q.1 p.2.1 rfl (by omega) (by decide) ?_)))
      have p1 := p.s (va_up gs Q.1 0)
      refine bs_fA_i p1.1 rfl (bs_sL_i Q.1 p1.2.2 rfl (by omega) (by decide) ?_)
      have p2 := p1.b (va_up gb Q.1 0)
      refine bs_fI_i p2.1 rfl (bs_p_i p2.1 (by simp) rfl ?_)
      rw [← nI_succ]
      have p3 := p2.n (Q.1 + 1)
      refine s_G_put_70 p3 (by omega) (by omega) (fun h' p' o' => ko h' _ _ (by show pG h' a (if Q.1 = Q.1 then Q.1 + 1 else Q.1) _ _; rw [if_pos rfl]; exact p') (fun z hz => ?_) ((((offG.refl a h).set (by omega)).set (by omega)).set (by omega) |>.trans o'))
      have hz : z < (if Q.1 = Q.1 then Q.1 + 1 else Q.1) := hz
      rw [if_pos rfl] at hz
      show _ = va_up Q.2.2.1 Q.1 ((if Q.1 = Q.1 then 0 else Q.2.2.1 Q.1) ||| bs_shl 1 (nI s)) z ∧ _ = va_up Q.2.2.2 Q.1 ((if Q.1 = Q.1 then 0 else Q.2.2.2 Q.1) ||| bs_shl 1 (nI k)) z
      rw [if_pos rfl, if_pos rfl]
      by_cases hzn : z = Q.1
      · subst hzn; simp only [bs_up_eq]; exact ⟨trivial, trivial⟩
      · rw [bs_up_ne _ _ hzn, bs_up_ne _ _ hzn, bs_up_ne _ _ hzn, bs_up_ne _ _ hzn, bs_up_ne _ _ hzn, bs_up_ne _ _ hzn]; exact ag z (by omega)
    · refine s_G_put_70 p (by omega) (by omega) (fun h' p' o' => ko h' _ _ (by show pG h' a (if g = Q.1 then Q.1 + 1 else Q.1) _ _; rw [if_neg he]; exact p') (fun z hz => ?_) o')
      have hz2 : z < (if g = Q.1 then Q.1 + 1 else Q.1) := hz
      rw [if_neg he] at hz2
      show _ = va_up Q.2.2.1 g ((if g = Q.1 then 0 else Q.2.2.1 g) ||| bs_shl 1 (nI s)) z ∧ _ = va_up Q.2.2.2 g ((if g = Q.1 then 0 else Q.2.2.2 g) ||| bs_shl 1 (nI k)) z
      rw [if_neg he, if_neg he]
      by_cases hzn : z = g
      · subst hzn; rw [bs_up_eq, bs_up_eq, bs_up_eq, bs_up_eq, (ag z hz2).1, (ag z hz2).2]; exact ⟨rfl, rfl⟩
      · rw [bs_up_ne _ _ hzn, bs_up_ne _ _ hzn, bs_up_ne _ _ hzn, bs_up_ne _ _ hzn]; exact ag z hz2
  have lp : ∀ (m g fu : Nat), g + m = Q.1 → m < fu → fndG Q.2.1 s Q.1 0 = fndG Q.2.1 s m g → w_G_put_2 Φ fu a (nI k) (nI s) (nI g) h := by
    intro m
    induction m with
    | zero =>
      intro g fu hg hfu he
      obtain ⟨fu, rfl⟩ : ∃ fu', fu = fu' + 1 := ⟨fu - 1, by omega⟩
      exact bs_fI_i p.1 rfl (bs_ift (nI_le (by omega) (by omega)) (tail g he.symm))
    | succ m ih =>
      intro g fu hg hfu he
      obtain ⟨fu, rfl⟩ : ∃ fu', fu = fu' + 1 := ⟨fu - 1, by omega⟩
      refine bs_fI_i p.1 rfl (bs_iff (nI_ge (by omega) (by omega)) (bs_fA_i p.1 rfl (bs_lL_i g p.2.1 rfl (by omega) (by decide) ?_)))
      rw [(ag g (by omega)).1]
      refine bs_ife (gp_ask t (by omega) hs) (fun hlt => ?_) (fun hlt => ?_)
      · exact tail g (by rw [he, fndG, if_pos hlt])
      · rw [← nI_succ]
        exact ih (g + 1) fu (by omega) (by omega) (by rw [he, fndG, if_neg hlt])
  exact lp Q.1 0 1000 (by omega) (by omega) rfl
end GB
section GW
variable {Φ : bs_R → bs_H → Prop} {h : bs_H} {X w kc : Nat} {f : Nat → Nat} {ks : bs_Ks} {st : bs_St}
theorem IC.gat {n : Nat} {h' : bs_H} (i : IC X w f kc ks n st h) (c : cGat X h') (s : same X (X + 34) h h') : IC X w f kc ks n st h' := by
  obtain ⟨i0, i1, i2, i3, i4, i5, i6, i7, i8, i9, i10⟩ := i
  exact ⟨i0, i1.kept (s _ (by omega) (by omega)), i2.kept (s.sub (by omega) (by omega)), i3.kept (s.sub (by omega) (by omega)), i4.kept (s _ (by omega) (by omega)), i5.kept (s.sub (by omega) (by omega)), i6.kept (s.sub (by omega) (by omega)), i7.kept (s _ (by omega) (by omega)), i8.kept (s.sub (by omega) (by omega)), i9.kept (s.sub (by omega) (by omega)), c⟩
theorem offG.c {h' : bs_H} (o : offG (X + 35) h h') : offC X h h' := ⟨fun b hb => o.1 b (by omega), o.2⟩
theorem s_B_append2 {P : bs_Pr} (i : IC X w f kc ks P.1 P.2 h) (hn : P.1 < 192) {x : Int32 × Int32 × Int64} (k : ∀ h', IC X w f kc ks (pu P x).1 (pu P x).2 h' → offC X h h' → same (X + 26) (X + 37) h h' → Φ (.ok none) h') : w_P_append Φ (X + 22) x.1 x.2.1 x.2.2 h := by
  obtain ⟨o, am, m, p, q⟩ := i.2.2.2.2.2.2.1
  refine s_P_append p hn (k _ (i.pro (by show P.1 + 1 ≤ 192; omega) ⟨_, _, _, setP_at _ _ _ _ _ _, fun z hz => ?_⟩ (fun b h1 h2 => setP_off _ _ _ _ _ _ (by omega)) (fun b h1 h2 => setP_off _ _ _ _ _ _ (by omega))) ⟨fun b hb => setP_off _ _ _ _ _ _ (by omega), rfl⟩ (fun b h1 h2 => setP_off _ _ _ _ _ _ (by omega)))
  have hz : z < P.1 + 1 := hz
  show va_up o P.1 x.1 z = (va_up P.2 P.1 x z).1 ∧ va_up am P.1 x.2.1 z = (va_up P.2 P.1 x z).2.1 ∧ va_up m P.1 x.2.2 z = (va_up P.2 P.1 x z).2.2
  by_cases hzn : z = P.1
  · subst hzn; rw [bs_up_eq, bs_up_eq, bs_up_eq, bs_up_eq]; exact ⟨rfl, rfl, rfl⟩
  · rw [bs_up_ne _ _ hzn, bs_up_ne _ _ hzn, bs_up_ne _ _ hzn, bs_up_ne _ _ hzn]; exact q z (by omega)
theorem pG.kept {h' : bs_H} {G : Nat} {gs gb : Nat → Int64} (p : pG h (X + 35) G gs gb) (s : same (X + 26) (X + 37) h h') : pG h' (X + 35) G gs gb := ⟨(s _ (by omega) (by omega)).trans p.1, (s _ (by omega) (by omega)).trans p.2.1, (s _ (by omega) (by omega)).trans p.2.2⟩
theorem s_G_write (i : IC X w f kc ks 0 st h) (k : ∀ h', IC X w f kc ks (mk3 w f st).1 (mk3 w f st).2 h' → offC X h h' → Φ (.ok none) h') : w_G_write Φ (X + 35) (X + 1) (X + 22) h := by
  have h1 := i.1.1
  have hw := i.1.2.1
  have hf := i.1.2.2.1
  obtain ⟨v, g1, g2, c1, c2, c3⟩ := i.2.2.2.2.2.2.2.2.2.2
  refine bs_p_i c1 (by simp) rfl ?_
  have p0 : pG (bs_set h (X + 35) (bs_obj 6 [.ref (X + 36), .ref (X + 37), .int 0])) (X + 35) 0 g1 g2 := ⟨bs_set_eq, by rw [bs_set_ne (by omega)]; exact c2, by rw [bs_set_ne (by omega)]; exact c3⟩
  have o0 : offG (X + 35) h (bs_set h (X + 35) (bs_obj 6 [.ref (X + 36), .ref (X + 37), .int 0])) := (offG.refl _ h).set (by omega)
  show w_G_write_7 Φ 1000 (X + 35) (X + 1) (X + 22) (nI 0) (bs_set h (X + 35) (bs_obj 6 [.ref (X + 36), .ref (X + 37), .int 0]))
  refine bs_for (σ := bs_H) (fun u c H => w_G_write_7 Φ u (X + 35) (X + 1) (X + 22) (nI c) H) (fun c H => offG (X + 35) h H ∧ ∃ gs gb, pG H (X + 35) (gpN f c).1 gs gb ∧ agG (gpN f c) gs gb) w ?_ ?_ w 0 _ 1000 (by omega) (by omega) ⟨o0, g1, g2, p0, fun z hz => absurd hz (Nat.not_lt_zero z)⟩
  · rintro u c H hc ⟨oH, gs, gb, pH, aH⟩ nx
    have iH : IC X w f kc ks 0 st H := i.gat ⟨_, _, _, pH.1, pH.2.1, pH.2.2⟩ (fun b h1 h2 => oH.1 b (by omega))
    obtain ⟨g, p, q⟩ := iH.2.2.1
    obtain ⟨t, ct⟩ := gpN_t hw hf c (by omega)
    have hcl := cnt_le (fun i => decide (f i < 64)) c
    refine ⟨⟨_, p.1⟩, s_M_bits p (bs_kI_i (bs_iff (nI_ge hc (by omega)) ⟨⟨_, p.1⟩, s_M_cfw p (by omega) (q c hc).1 (q c hc).2 (bs_kI_i (bs_ifz (fun hb => ?_) (fun hb => ⟨⟨_, p.1⟩, s_M_sourceOf p (by omega) (bs_kI_i ⟨⟨_, pH.1⟩, ?_⟩)⟩)))⟩))⟩
    · have hb := of_decide_eq_false hb
      show w_G_write_7 Φ u (X + 35) (X + 1) (X + 22) (nI c + 1) H
      rw [← nI_succ]
      have e : gpN f (c + 1) = gpN f c := if_neg hb
      exact nx H ⟨oH, gs, gb, by rw [e]; exact pH, by rw [e]; exact aH⟩
    · have hb := of_decide_eq_true hb
      rw [(q c hc).1]
      have e : gpN f (c + 1) = gpPut (gpN f c) (fndG (gpN f c).2.1 (f c) (gpN f c).1 0) c (f c) := if_pos hb
      refine s_G_put pH aH t (by omega) hb (fun h' gs' gb' p' a' o' => bs_kV_i ?_)
      show w_G_write_7 Φ u (X + 35) (X + 1) (X + 22) (nI c + 1) h'
      rw [← nI_succ]
      exact nx h' ⟨oH.trans o', gs', gb', by rw [e]; exact p', by rw [e]; exact a'⟩
  · rintro u H ⟨oH, gs, gb, pH, aH⟩
    have iH : IC X w f kc ks 0 st H := i.gat ⟨_, _, _, pH.1, pH.2.1, pH.2.2⟩ (fun b h1 h2 => oH.1 b (by omega))
    obtain ⟨g, p, q⟩ := iH.2.2.1
    obtain ⟨r1, r2⟩ := gp_room hw hf
    refine ⟨⟨_, p.1⟩, s_M_bits p (bs_kI_i (bs_ift (nI_le (by omega) (by omega)) ?_))⟩
    show w_G_write_41 Φ 1000 (X + 35) (X + 1) (X + 22) (nI 0) H
    refine bs_for (σ := bs_H) (fun u c K => w_G_write_41 Φ u (X + 35) (X + 1) (X + 22) (nI c) K) (fun c K => IC X w f kc ks (gpP st (gpN f w) c).1 (gpP st (gpN f w) c).2 K ∧ offC X h K ∧ pG K (X + 35) (gpN f w).1 gs gb) (gpN f w).1 ?_ ?_ (gpN f w).1 0 H 1000 (by omega) (by omega) ⟨iH, oH.c, pH⟩
    · rintro u c K hc ⟨iK, oK, pK⟩ nx
      have hn := gpP_n st (gpN f w) c
      refine bs_fI_i pK.1 rfl (bs_iff (nI_ge hc (by omega)) (bs_fA_i pK.1 rfl (bs_lL_i c pK.2.1 rfl (by omega) (by decide) ⟨iK.at22, ?_⟩)))
      rw [(aH c hc).1]
      refine s_B_append2 (x := (7, 0, (gpN f w).2.2.1 c)) iK (by omega) (fun h1 i1 o1 s1 => bs_kV_i ?_)
      have pK1 := pK.kept s1
      refine bs_fA_i pK1.1 rfl (bs_lL_i c pK1.2.2 rfl (by omega) (by decide) ⟨i1.at22, ?_⟩)
      rw [(aH c hc).2]
      refine s_B_append2 (x := (8, 0, (gpN f w).2.2.2 c)) i1 (by show (gpP st (gpN f w) c).1 + 1 < 192; omega) (fun h2 i2 o2 s2 => bs_kV_i ⟨i2.at22, ?_⟩)
      refine s_B_append2 (x := (3, 0, 0)) i2 (by show (gpP st (gpN f w) c).1 + 1 + 1 < 192; omega) (fun h3 i3 o3 s3 => bs_kV_i ?_)
      rw [← nI_succ]
      exact nx h3 ⟨i3, ((oK.trans o1).trans o2).trans o3, (pK1.kept s2).kept s3⟩
    · rintro u K ⟨iK, oK, pK⟩
      obtain ⟨g, p, q⟩ := iK.2.2.1
      refine bs_fI_i pK.1 rfl (bs_ift (nI_le (by omega) (by omega)) ⟨⟨_, p.1⟩, s_M_bitsThatAreOne p hw q (bs_kL_i ⟨iK.at22, ?_⟩)⟩)
      exact s_B_appendSet (z := onM w f) iK (fun hz => by rw [gpP_n]; exact r2 hz) (fun h' i' o' => bs_kV_i (k h' i' (oK.trans o')))
end GW
