/-! Steps are appended, on both sides. A program: how many steps, and which. -/
abbrev bs_Pr : Type := Nat × bs_St
def pu (P : bs_Pr) (x : Int32 × Int32 × Int64) : bs_Pr := (P.1 + 1, va_up P.2 P.1 x)
def puMove (P : bs_Pr) (op d : Int32) (z : Int64) : bs_Pr := if z = 0 then P else pu (pu (pu P (op, d, 0)) (2, 0, z)) (3, 0, 0)
def puSet (P : bs_Pr) (z : Int64) : bs_Pr := if z = 0 then P else pu P (4, 0, z)
def puSwap (P : bs_Pr) (d : Int32) (z : Int64) : bs_Pr := if z = 0 then P else pu P (5, d, z)
def okP (w : Nat) (P : bs_Pr) : Prop := ∀ i, i < P.1 → fitsB w (P.2 i).1 (P.2 i).2.1 (P.2 i).2.2 = true ∧ opL (P.2 i).1
theorem okP.pu {w : Nat} {P : bs_Pr} {x : Int32 × Int32 × Int64} (o : okP w P) (hf : fitsB w x.1 x.2.1 x.2.2 = true) (ho : opL x.1) : okP w (pu P x) := by
  intro i hi
  have hi : i < P.1 + 1 := hi
  show fitsB w (va_up P.2 P.1 x i).1 _ _ = true ∧ _
  by_cases h : i = P.1
  · subst h
    have e : va_up P.2 P.1 x P.1 = x := bs_up_eq _ _ _
    show fitsB w (va_up P.2 P.1 x P.1).1 (va_up P.2 P.1 x P.1).2.1 (va_up P.2 P.1 x P.1).2.2 = true ∧ opL (va_up P.2 P.1 x P.1).1
    rw [e]; exact ⟨hf, ho⟩
  · have e : va_up P.2 P.1 x i = P.2 i := bs_up_ne _ _ h
    show fitsB w (va_up P.2 P.1 x i).1 (va_up P.2 P.1 x i).2.1 (va_up P.2 P.1 x i).2.2 = true ∧ opL (va_up P.2 P.1 x i).1
    rw [e]; exact o i (by omega)
theorem opL_n {j : Nat} (h : j ≤ 8) : opL (nI j) := ⟨j, h, rfl⟩
theorem okP.move {w : Nat} {P : bs_Pr} {op d : Int32} {z : Int64} (o : okP w P) (hf : fitsB w op d 0 = true) (ho : opL op) (hz : inW z w = true) : okP w (puMove P op d z) := by
  unfold puMove
  by_cases h : z = 0
  · rw [if_pos h]; exact o
  · rw [if_neg h]
    refine ((o.pu hf ho).pu ?_ (opL_n (j := 2) (by omega))).pu ?_ (opL_n (j := 3) (by omega))
    · show fitsB w 2 0 z = true
      simp [fitsB, hz]
    · show fitsB w 3 0 0 = true
      simp [fitsB]
theorem okP.set {w : Nat} {P : bs_Pr} {z : Int64} (o : okP w P) (hz : inW z w = true) : okP w (puSet P z) := by
  unfold puSet
  by_cases h : z = 0
  · rw [if_pos h]; exact o
  · rw [if_neg h]
    refine o.pu ?_ (opL_n (j := 4) (by omega))
    show fitsB w 4 0 z = true
    simp [fitsB, hz]
section PB
variable {Φ : bs_R → bs_H → Prop} {h : bs_H} {X w kc : Nat} {f : Nat → Nat} {ks : bs_Ks} {P : bs_Pr}
theorem s_B_append (i : IC X w f kc ks P.1 P.2 h) (hn : P.1 < 192) {x : Int32 × Int32 × Int64} (k : ∀ h', IC X w f kc ks (pu P x).1 (pu P x).2 h' → offC X h h' → Φ (.ok none) h') : w_P_append Φ (X + 22) x.1 x.2.1 x.2.2 h := by
  obtain ⟨o, am, m, p, q⟩ := i.2.2.2.2.2.2.1
  refine s_P_append p hn (k _ (i.pro (by show P.1 + 1 ≤ 192; omega) ⟨_, _, _, setP_at _ _ _ _ _ _, fun z hz => ?_⟩ (fun b h1 h2 => setP_off _ _ _ _ _ _ (by omega)) (fun b h1 h2 => setP_off _ _ _ _ _ _ (by omega))) ⟨fun b hb => setP_off _ _ _ _ _ _ (by omega), rfl⟩)
  have hz : z < P.1 + 1 := hz
  show va_up o P.1 x.1 z = (va_up P.2 P.1 x z).1 ∧ va_up am P.1 x.2.1 z = (va_up P.2 P.1 x z).2.1 ∧ va_up m P.1 x.2.2 z = (va_up P.2 P.1 x z).2.2
  by_cases hzn : z = P.1
  · subst hzn; rw [bs_up_eq, bs_up_eq, bs_up_eq, bs_up_eq]; exact ⟨rfl, rfl, rfl⟩
  · rw [bs_up_ne _ _ hzn, bs_up_ne _ _ hzn, bs_up_ne _ _ hzn, bs_up_ne _ _ hzn]; exact q z (by omega)
theorem IC.at22 (i : IC X w f kc ks P.1 P.2 h) : ∃ fs, h.1 (X + 22) = some (bs_obj 2 fs) := by
  obtain ⟨o, am, m, p, q⟩ := i.2.2.2.2.2.2.1
  exact ⟨_, p.1⟩
theorem s_B_appendMove (i : IC X w f kc ks P.1 P.2 h) {op d : Int32} {z : Int64} (hn : z ≠ 0 → P.1 + 2 < 192) (k : ∀ h', IC X w f kc ks (puMove P op d z).1 (puMove P op d z).2 h' → offC X h h' → Φ (.ok none) h') : w_P_appendMove Φ (X + 22) op d z h := by
  unfold puMove at k
  refine bs_ifc (fun hz => ?_) (fun hz => ?_)
  · rw [if_pos hz] at k; exact k h i (offC.refl X h)
  · rw [if_neg hz] at k
    have hn := hn hz
    refine ⟨i.at22, s_B_append (x := (op, d, 0)) i (by omega) (fun h1 i1 o1 => bs_kV_i ⟨i1.at22, s_B_append (x := (2, 0, z)) i1 (by show P.1 + 1 < 192; omega) (fun h2 i2 o2 => bs_kV_i ⟨i2.at22, s_B_append (x := (3, 0, 0)) i2 (by show P.1 + 2 < 192; omega) (fun h3 i3 o3 => bs_kV_i (k h3 i3 ((o1.trans o2).trans o3)))⟩)⟩)⟩
theorem s_B_appendSet (i : IC X w f kc ks P.1 P.2 h) {z : Int64} (hn : z ≠ 0 → P.1 < 192) (k : ∀ h', IC X w f kc ks (puSet P z).1 (puSet P z).2 h' → offC X h h' → Φ (.ok none) h') : w_P_appendSet Φ (X + 22) z h := by
  unfold puSet at k
  refine bs_ifc (fun hz => ?_) (fun hz => ?_)
  · rw [if_pos hz] at k; exact k h i (offC.refl X h)
  · rw [if_neg hz] at k
    exact ⟨i.at22, s_B_append (x := (4, 0, z)) i (hn hz) (fun h1 i1 o1 => bs_kV_i (k h1 i1 o1))⟩
theorem s_B_appendSwap (i : IC X w f kc ks P.1 P.2 h) {d : Int32} {z : Int64} (hn : z ≠ 0 → P.1 < 192) (k : ∀ h', IC X w f kc ks (puSwap P d z).1 (puSwap P d z).2 h' → offC X h h' → Φ (.ok none) h') : w_P_appendSwap Φ (X + 22) d z h := by
  unfold puSwap at k
  refine bs_ifc (fun hz => ?_) (fun hz => ?_)
  · rw [if_pos hz] at k; exact k h i (offC.refl X h)
  · rw [if_neg hz] at k
    exact ⟨i.at22, s_B_append (x := (5, d, z)) i (hn hz) (fun h1 i1 o1 => bs_kV_i (k h1 i1 o1))⟩
end PB
section PR
variable {Φ : bs_R → bs_H → Prop} {h : bs_H} {Y w kc : Nat} {th : Int32} {f : Nat → Nat} {ks : bs_Ks} {P : bs_Pr}
theorem s_R_add (i : IR Y th w f kc ks P.1 P.2 h) (hn : P.1 < 192) {x : Int32 × Int32 × Int64} (k : ∀ h', IR Y th w f kc ks (pu P x).1 (pu P x).2 h' → offR Y h h' → Φ (.ok none) h') : w_R_add Φ Y x.1 x.2.1 x.2.2 h := by
  obtain ⟨i0, i1, i2, ⟨o, am, m, p1, p2, p3, q⟩, i4, i5, i6, i7, i8⟩ := i
  refine bs_fA_i i1 rfl (bs_fI_i i1 rfl (bs_sI_i P.1 p1 rfl (by omega) (by decide) ?_))
  have a1 : (bs_set h (Y + 2) (bs_ia 400 (va_up o P.1 x.1))).1 Y = some (bs_obj 7 (rF Y th w P.1 kc)) := by rw [bs_set_ne (by omega)]; exact i1
  refine bs_fA_i a1 rfl (bs_fI_i a1 rfl (bs_sI_i P.1 (by rw [bs_set_ne (by omega)]; exact p2) rfl (by omega) (by decide) ?_))
  have a2 : (bs_set (bs_set h (Y + 2) (bs_ia 400 (va_up o P.1 x.1))) (Y + 3) (bs_ia 400 (va_up am P.1 x.2.1))).1 Y = some (bs_obj 7 (rF Y th w P.1 kc)) := by rw [bs_set_ne (by omega)]; exact a1
  refine bs_fA_i a2 rfl (bs_fI_i a2 rfl (bs_sL_i P.1 (by rw [bs_set_ne (by omega), bs_set_ne (by omega)]; exact p3) rfl (by omega) (by decide) ?_))
  have a3 : (bs_set (bs_set (bs_set h (Y + 2) (bs_ia 400 (va_up o P.1 x.1))) (Y + 3) (bs_ia 400 (va_up am P.1 x.2.1))) (Y + 4) (bs_la 400 (va_up m P.1 x.2.2))).1 Y = some (bs_obj 7 (rF Y th w P.1 kc)) := by rw [bs_set_ne (by omega)]; exact a2
  refine bs_fI_i a3 rfl (bs_p_i a3 (by simp) rfl ?_)
  rw [← nI_succ]
  refine k _ ⟨⟨i0.1, i0.2.1, i0.2.2.1, i0.2.2.2.1, by show P.1 + 1 ≤ 192; omega⟩, bs_set_eq, i2.kept ?_, ⟨va_up o P.1 x.1, va_up am P.1 x.2.1, va_up m P.1 x.2.2, ?_, ?_, ?_, fun z hz => ?_⟩, i4.kept ?_, i5.kept ?_, i6.kept ?_, i7.kept ?_, i8.kept ?_⟩ (((((offR.refl Y h).set (by omega)).set (by omega)).set (by omega)).set (by omega))
  · rw [bs_set_ne (by omega), bs_set_ne (by omega), bs_set_ne (by omega), bs_set_ne (by omega)]
  · rw [bs_set_ne (by omega), bs_set_ne (by omega), bs_set_ne (by omega), bs_set_eq]
  · rw [bs_set_ne (by omega), bs_set_ne (by omega), bs_set_eq]
  · rw [bs_set_ne (by omega), bs_set_eq]
  · have hz : z < P.1 + 1 := hz
    show va_up o P.1 x.1 z = (va_up P.2 P.1 x z).1 ∧ va_up am P.1 x.2.1 z = (va_up P.2 P.1 x z).2.1 ∧ va_up m P.1 x.2.2 z = (va_up P.2 P.1 x z).2.2
    by_cases hzn : z = P.1
    · subst hzn; rw [bs_up_eq, bs_up_eq, bs_up_eq, bs_up_eq]; exact ⟨rfl, rfl, rfl⟩
    · rw [bs_up_ne _ _ hzn, bs_up_ne _ _ hzn, bs_up_ne _ _ hzn, bs_up_ne _ _ hzn]; exact q z (by omega)
  all_goals exact (((same.set (by omega)).trans (same.set (by omega))).trans (same.set (by omega))).trans (same.set (by omega))
end PR
