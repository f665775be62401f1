/-! The law: one call. -/
abbrev bs_Ev : Type := (Nat → Option (Nat × (Nat → Int32))) × Nat
def RS (X : Nat) (th : Int32) (w : Nat) (f : Nat → Nat) (kc : Nat) (ks : bs_Ks) (n : Nat) (st : bs_St) (g0 : Nat → Int64) (E : bs_Ev) (b : Nat) (h : bs_H) : Prop := IR (X + 38) th w f kc ks n st h ∧ h.1 (X + 62) = some (bs_la 1 g0) ∧ h.2.2.2.2 = E ∧ bud h b
/-- the state between two calls; b: so many throws may come -/
def SG (X : Nat) (E : bs_Ev) (b : Nat) (h : bs_H) : Prop := ∃ w f kc ks n st th g0, IC X w f kc ks n st h ∧ RS X th w f kc ks n st g0 E b h ∧ okP w (n, st)
/-- place i of the script is x -/
def rd (E : bs_Ev) (x0 : Nat) (i x : Int32) : Prop := ∀ (h : bs_H) (Q : Int32 → Prop), h.2.2.2.2 = E → Q x → bs_lX h x0 i Q
theorem nI_inj {a b : Nat} (h : nI a = nI b) (ha : a < 2 ^ 31) (hb : b < 2 ^ 31) : a = b := (nI_eq ha hb).mp h
theorem nI_in64 {x : Int32} {j : Nat} (h1 : 1 ≤ j) (h2 : j ≤ 64) (e : x = nI j) : 1 ≤ x.toInt ∧ x.toInt ≤ 64 := by subst e; rw [nI_toInt (by omega)]; omega
theorem nI_inw {x : Int32} {j w : Nat} (h1 : j < w) (hw : w ≤ 1000) (e : x = nI j) : 0 ≤ x.toInt ∧ x.toInt < w := by subst e; rw [nI_toInt (by omega)]; omega
section LW
variable {Φ : bs_R → bs_H → Prop} {h h' : bs_H} {X w kc n b : Nat} {th : Int32} {f : Nat → Nat} {ks : bs_Ks} {st : bs_St} {g0 : Nat → Int64} {E : bs_Ev}
theorem RS.cls (r : RS X th w f kc ks n st g0 E b h) (o : offC X h h') : RS X th w f kc ks n st g0 E b h' := ⟨r.1.kept (fun b _ _ => o.1 b (by omega)), (o.1 _ (by omega)).trans r.2.1, by rw [o.2]; exact r.2.2.1, by unfold bud; rw [o.2]; exact r.2.2.2⟩
theorem RS.thr (r : RS X th w f kc ks n st g0 E (b + 1) h) : RS X th w f kc ks n st g0 E b (bs_thrown h) := ⟨r.1.kept (fun _ _ _ => rfl), r.2.1, r.2.2.1, ⟨by have := r.2.2.2.1; show b ≤ h.2.2.1 - 1; omega, by have := r.2.2.2.2; show 6 * b ≤ h.2.2.2.1 - 6; omega⟩⟩
theorem RS.out (r : RS X th w f kc ks n st g0 E b h) (g : Nat → Int64) : RS X th w f kc ks n st g E b (bs_set h (X + 62) (bs_la 1 g)) := ⟨r.1.kept (same.set (by omega)), bs_set_eq, r.2.2.1, r.2.2.2⟩
theorem RS.ref {w' kc' n' : Nat} {th' : Int32} {f' : Nat → Nat} {ks' : bs_Ks} {st' : bs_St} (r : RS X th w f kc ks n st g0 E b h) (j : IR (X + 38) th' w' f' kc' ks' n' st' h') (o : offR (X + 38) h h') : RS X th' w' f' kc' ks' n' st' g0 E b h' := ⟨j, (o.1 _ (by omega)).trans r.2.1, by rw [o.2]; exact r.2.2.1, by unfold bud; rw [o.2]; exact r.2.2.2⟩
theorem RS.less (r : RS X th w f kc ks n st g0 E (b + 1) h) : RS X th w f kc ks n st g0 E b h := ⟨r.1, r.2.1, r.2.2.1, ⟨by have := r.2.2.2.1; omega, by have := r.2.2.2.2; omega⟩⟩
theorem RS.bud1 (r : RS X th w f kc ks n st g0 E (b + 1) h) : bud h 1 := ⟨by have := r.2.2.2.1; omega, by have := r.2.2.2.2; omega⟩
theorem RS.off (r : RS X th w f kc ks n st g0 E b h) : ∀ h', offC X h h' → h'.1 (X + 62) = some (bs_la 1 g0) := fun h' o => (o.1 _ (by omega)).trans r.2.1
theorem IC.thr (i : IC X w f kc ks n st h) : IC X w f kc ks n st (bs_thrown h) := i.kept (fun _ _ _ => rfl)
theorem IC.ref (i : IC X w f kc ks n st h) (o : offR (X + 38) h h') : IC X w f kc ks n st h' := i.kept (fun b _ _ => o.1 b (by omega))
theorem IC.put (i : IC X w f kc ks n st h) (g : Nat → Int64) : IC X w f kc ks n st (bs_set h (X + 62) (bs_la 1 g)) := i.kept (same.set (by omega))
theorem fin0 {K : bs_H → Prop} {v : Int32} (r : RS X th w f kc ks n st g0 E b h) (e : th = v) (k : K h) : bs_on h (X + 38) 7 (w_R_thrown (bs_kI Φ fun v8 h9 => (bs_if (v8 = v) (K h9) (bs_rZ Φ 0 h9))) (X + 38) h) := ⟨⟨_, r.1.2.1⟩, s_R_thrown r.1 (bs_kI_i (bs_ift e k))⟩
theorem fin1 {K : bs_H → Prop} {v : Int32} {x : Int64} (r : RS X th w f kc ks n st g0 E b h) (e : th = v) (ho : v = 0 → g0 0 = x) (k : K h) : bs_on h (X + 38) 7 (w_R_thrown (bs_kI Φ fun v3 h4 => (bs_if (v3 = v) (bs_if (v = 0) (bs_lL h4 (X + 62) 0 (fun v5 => bs_if (v5 = x) (K h4) (bs_rZ Φ 0 h4))) (K h4)) (bs_rZ Φ 0 h4))) (X + 38) h) :=
  ⟨⟨_, r.1.2.1⟩, s_R_thrown r.1 (bs_kI_i (bs_ift e (bs_ifc (fun hv => bs_lL_i 0 r.2.1 rfl (by omega) (by decide) (bs_ift (ho hv) k)) (fun _ => k))))⟩
variable {K : bs_H → Prop} {x0 : Nat} {i1 i2 i3 i4 x y x3 x4 : Int32}
theorem law_0 (g : SG X E (b + 1) h) (rx : rd E x0 i1 x) (nx : ∀ h', SG X E b h' → K h') : bs_lX h x0 i1 (fun v3 => w_L_width (bs_kI Φ fun v4 h5 => (bs_lX h5 x0 i1 (fun v6 => bs_on h5 (X + 38) 7 (w_R_width (bs_kV Φ fun h7 => (bs_on h7 (X + 38) 7 (w_R_thrown (bs_kI Φ fun v8 h9 => (bs_if (v8 = v4) (K h9) (bs_rZ Φ 0 h9))) (X + 38) h7))) (X + 38) v6 h5)))) X v3 h) := by
  obtain ⟨w, f, kc, ks, n, st, th, g0, i, r, ok⟩ := g
  refine rx h _ r.2.2.1 (s_L_width i r.bud1 x (fun hn => bs_kI_i ?_) (fun j h1 h2 h3 h' i' o' => bs_kI_i ?_))
  · have r2 := r.thr
    exact rx _ _ r2.2.2.1 ⟨⟨_, r2.1.2.1⟩, s_R_width r2.1 x (fun _ h' j' o' => bs_kV_i (fin0 (r2.ref j' o') rfl (nx h' ⟨w, f, kc, ks, n, st, _, g0, i.thr.ref o', r2.ref j' o', ok⟩))) (fun j h1 h2 h3 => absurd (nI_in64 h1 h2 h3) hn)⟩
  · have r2 := (r.cls o').less
    refine rx _ _ r2.2.2.1 ⟨⟨_, r2.1.2.1⟩, s_R_width r2.1 x (fun hn => absurd (nI_in64 h1 h2 h3) hn) (fun j2 q1 q2 q3 h'' j'' o'' => bs_kV_i ?_)⟩
    obtain rfl : j = j2 := nI_inj (h3.symm.trans q3) (by omega) (by omega)
    exact fin0 (r2.ref j'' o'') rfl (nx h'' ⟨j, _, kc, ks, 0, st, _, g0, i'.ref o'', r2.ref j'' o'', fun z hz => absurd hz (Nat.not_lt_zero z)⟩)
theorem law_1 (g : SG X E (b + 1) h) (rx : rd E x0 i1 x) (ry : rd E x0 i2 y) (nx : ∀ h', SG X E b h' → K h') : bs_lX h x0 i1 (fun v10 => bs_lX h x0 i2 (fun v11 => w_L_target (bs_kI Φ fun v12 h13 => (bs_lX h13 x0 i1 (fun v14 => bs_lX h13 x0 i2 (fun v15 => bs_on h13 (X + 38) 7 (w_R_target (bs_kV Φ fun h16 => (bs_on h16 (X + 38) 7 (w_R_thrown (bs_kI Φ fun v17 h18 => (bs_if (v17 = v12) (K h18) (bs_rZ Φ 0 h18))) (X + 38) h16))) (X + 38) v14 v15 h13))))) X v10 v11 h)) := by
  obtain ⟨w, f, kc, ks, n, st, th, g0, i, r, ok⟩ := g
  have hw := i.1.2.1
  have inr : ∀ {j c : Nat}, j < w → (c < w ∨ c = 64 ∨ c = 65) → x = nI j → y = nI c → ((0 ≤ x.toInt ∧ x.toInt < w) ∧ ((0 ≤ y.toInt ∧ y.toInt < w) ∨ y = 64 ∨ y = 65)) := by
    intro j c h1 h2 h3 h4
    refine ⟨nI_inw h1 (by omega) h3, ?_⟩
    rcases h2 with q | q | q
    · exact .inl (nI_inw q (by omega) h4)
    · subst q; exact .inr (.inl h4)
    · subst q; exact .inr (.inr h4)
  refine rx h _ r.2.2.1 (ry h _ r.2.2.1 (s_L_target i r.bud1 x y (fun hn => bs_kI_i ?_) (fun j c h1 h2 h3 h4 h' i' o' => bs_kI_i ?_)))
  · have r2 := r.thr
    exact rx _ _ r2.2.2.1 (ry _ _ r2.2.2.1 ⟨⟨_, r2.1.2.1⟩, s_R_target r2.1 x y (fun _ h' j' o' => bs_kV_i (fin0 (r2.ref j' o') rfl (nx h' ⟨w, f, kc, ks, n, st, _, g0, i.thr.ref o', r2.ref j' o', ok⟩))) (fun j c h1 h2 h3 h4 => absurd (inr h1 h2 h3 h4) hn)⟩)
  · have r2 := (r.cls o').less
    refine rx _ _ r2.2.2.1 (ry _ _ r2.2.2.1 ⟨⟨_, r2.1.2.1⟩, s_R_target r2.1 x y (fun hn => absurd (inr h1 h2 h3 h4) hn) (fun j2 c2 q1 q2 q3 q4 h'' j'' o'' => bs_kV_i ?_)⟩)
    obtain rfl : j = j2 := nI_inj (h3.symm.trans q3) (by omega) (by omega)
    obtain rfl : c = c2 := nI_inj (h4.symm.trans q4) (by omega) (by omega)
    exact fin0 (r2.ref j'' o'') rfl (nx h'' ⟨w, _, kc, ks, n, st, _, g0, i'.ref o'', r2.ref j'' o'', ok⟩)
theorem law_2 (g : SG X E (b + 1) h) (rx : rd E x0 i1 x) (nx : ∀ h', SG X E b h' → K h') : bs_lX h x0 i1 (fun v19 => w_L_source (bs_kI Φ fun v20 h21 => (bs_lX h21 x0 i1 (fun v22 => bs_on h21 (X + 38) 7 (w_R_source (bs_kI Φ fun v23 h24 => (bs_on h24 (X + 38) 7 (w_R_thrown (bs_kI Φ fun v25 h26 => (bs_if (v25 = v20) (bs_if (v20 = 0) (bs_lL h26 (X + 62) 0 (fun v27 => bs_if (v27 = v23.toInt64) (K h26) (bs_rZ Φ 0 h26))) (K h26)) (bs_rZ Φ 0 h26))) (X + 38) h24))) (X + 38) v22 h21)))) X v19 (X + 62) h) := by
  obtain ⟨w, f, kc, ks, n, st, th, g0, i, r, ok⟩ := g
  have hw := i.1.2.1
  refine rx h _ r.2.2.1 (s_L_source i r.bud1 r.2.1 x (fun hn => bs_kI_i ?_) (fun j h1 h3 => bs_kI_i ?_))
  · have r2 := r.thr
    exact rx _ _ r2.2.2.1 ⟨⟨_, r2.1.2.1⟩, s_R_source r2.1 x (fun _ h' j' o' => bs_kI_i (fin1 (r2.ref j' o') rfl (fun q => absurd q (by decide)) (nx h' ⟨w, f, kc, ks, n, st, _, g0, i.thr.ref o', r2.ref j' o', ok⟩))) (fun j h1 h3 => absurd (nI_inw h1 (by omega) h3) hn)⟩
  · have r2 := (r.out (va_up g0 0 (nI (f j)).toInt64)).less
    refine rx _ _ r2.2.2.1 ⟨⟨_, r2.1.2.1⟩, s_R_source r2.1 x (fun hn => absurd (nI_inw h1 (by omega) h3) hn) (fun j2 q1 q3 h'' j'' o'' => bs_kI_i ?_)⟩
    obtain rfl : j = j2 := nI_inj (h3.symm.trans q3) (by omega) (by omega)
    exact fin1 (r2.ref j'' o'') rfl (fun _ => bs_up_eq _ _ _) (nx h'' ⟨w, f, kc, ks, n, st, _, _, (i.put _).ref o'', r2.ref j'' o'', ok⟩)
theorem okP_mk (hw : w ≤ 64) (h1 : 1 ≤ w) (hf : okF w f) {x : Int32} (h3 : 0 ≤ x.toInt ∧ x.toInt ≤ 3) (h2 : x = 2 → (permB f w && pw2 w) = true) : okP w (mkK w f st (mk2 w f st) x) := by
  unfold mkK
  by_cases e0 : x = 0
  · rw [if_pos e0]; exact mk0_ok h1 hw
  · rw [if_neg e0]
    by_cases e1 : x = 1
    · rw [if_pos e1]; exact mk1_ok hw
    · rw [if_neg e1]
      by_cases e2 : x = 2
      · rw [if_pos e2]
        have := h2 e2
        rw [Bool.and_eq_true] at this
        exact (mk2_ok hw this.2 f st).1
      · rw [if_neg e2]; exact mk3_ok hw hf
theorem law_3 (g : SG X E (b + 1) h) (rx : rd E x0 i1 x) (nx : ∀ h', SG X E b h' → K h') : bs_lX h x0 i1 (fun v28 => w_L_make (bs_kI Φ fun v29 h30 => (bs_lX h30 x0 i1 (fun v31 => bs_on h30 (X + 38) 7 (w_R_make (bs_kI Φ fun v32 h33 => (bs_on h33 (X + 38) 7 (w_R_thrown (bs_kI Φ fun v34 h35 => (bs_if (v34 = v29) (bs_if (v29 = 0) (bs_lL h35 (X + 62) 0 (fun v36 => bs_if (v36 = v32.toInt64) (K h35) (bs_rZ Φ 0 h35))) (K h35)) (bs_rZ Φ 0 h35))) (X + 38) h33))) (X + 38) v31 h30)))) X v28 (X + 62) h) := by
  obtain ⟨w, f, kc, ks, n, st, th, g0, i, r, ok⟩ := g
  have hw := i.1.2.1
  have z2 : (2 : Int32).toInt = 2 := rfl
  refine rx h _ r.2.2.1 (s_L_make i r.bud1 r.off x (fun hn => bs_kI_i ?_) (fun e2 hn => bs_kI_i ?_) (fun h1 h2 h' i' o' => bs_kI_i ?_))
  · have r2 := r.thr
    exact rx _ _ r2.2.2.1 ⟨⟨_, r2.1.2.1⟩, s_R_make r2.1 (mk2 w f st) x (fun hp h2 {_ _} i' k' => s_R_makeSwaps i' hp h2 k') (fun _ h' j' o' => bs_kI_i (fin1 (r2.ref j' o') rfl (fun q => absurd q (by decide)) (nx h' ⟨w, f, kc, ks, n, st, _, g0, i.thr.ref o', r2.ref j' o', ok⟩))) (fun e2 _ => absurd (by rw [e2, z2]; omega) hn) (fun q _ => absurd q hn)⟩
  · have r2 := r.thr
    exact rx _ _ r2.2.2.1 ⟨⟨_, r2.1.2.1⟩, s_R_make r2.1 (mk2 w f st) x (fun hp h2 {_ _} i' k' => s_R_makeSwaps i' hp h2 k') (fun q => absurd (by rw [e2, z2]; omega) q) (fun _ _ h' j' o' => bs_kI_i (fin1 (r2.ref j' o') rfl (fun q => absurd q (by decide)) (nx h' ⟨w, f, kc, ks, n, st, _, g0, i.thr.ref o', r2.ref j' o', ok⟩))) (fun _ q => absurd (q e2) (by rw [hn]; exact (fun q => by cases q)))⟩
  · have r2 := ((r.cls o').out (va_up g0 0 (nI (mkK w f st (mk2 w f st) x).1).toInt64)).less
    exact rx _ _ r2.2.2.1 ⟨⟨_, r2.1.2.1⟩, s_R_make r2.1 (mk2 w f st) x (fun hp h2 {_ _} i' k' => s_R_makeSwaps i' hp h2 k') (fun q => absurd h1 q) (fun e2 q => absurd (h2 e2) (by rw [q]; exact (fun q => by cases q))) (fun _ _ h'' j'' o'' => bs_kI_i (fin1 (r2.ref j'' o'') rfl (fun _ => bs_up_eq _ _ _) (nx h'' ⟨w, f, kc, ks, _, _, _, _, (i'.put _).ref o'', r2.ref j'' o'', okP_mk hw i.1.1 i.1.2.2.1 h1 h2⟩)))⟩
theorem law_4 (g : SG X E (b + 1) h) (nx : ∀ h', SG X E b h' → K h') : bs_on h X 0 (w_B_size (bs_kI Φ fun v37 h38 => (bs_on h38 (X + 38) 7 (w_R_size (bs_kI Φ fun v39 h40 => (bs_if (v37 = v39) (K h40) (bs_rZ Φ 0 h40))) (X + 38) h38))) X h) := by
  obtain ⟨w, f, kc, ks, n, st, th, g0, i, r, ok⟩ := g
  have r2 := r.less
  exact ⟨⟨_, i.2.1⟩, s_B_size i (bs_kI_i ⟨⟨_, r2.1.2.1⟩, s_R_size r2.1 (fun h' j' o' => bs_kI_i (bs_ift rfl (nx h' ⟨w, f, kc, ks, n, st, _, g0, i.ref o', r2.ref j' o', ok⟩)))⟩)⟩
theorem law_5b {nx23 : Nat → Nat → Nat → Nat → Int32 → bs_H → Prop} (g : SG X E (b + 1) h) (rx : rd E x0 (x4 + 1) x) (ry : rd E x0 (x4 + 2) y) (nx : ∀ h', SG X E b h' → nx23 x0 X (X + 38) (X + 62) (x4 + 5) h') (d : Bool) (hd : y = 0 ↔ d = false) : w_L_law_354 Φ nx23 x0 X (X + 38) (X + 62) x4 X x (bz d) h := by
  obtain ⟨w, f, kc, ks, n, st, th, g0, i, r, ok⟩ := g
  have hn192 := i.1.2.2.2.2
  have two : ∀ (v : Int32) (H : bs_H), w_L_law_381 Φ nx23 x0 X (X + 38) (X + 62) x4 v (X + 38) x (bz d) H → bs_if (y = 0) (w_L_law_381 Φ nx23 x0 X (X + 38) (X + 62) x4 v (X + 38) x 0 H) (w_L_law_381 Φ nx23 x0 X (X + 38) (X + 62) x4 v (X + 38) x 1 H) := by
    intro v H k
    cases d with
    | false => exact bs_ift (hd.mpr rfl) k
    | true => exact bs_iff (fun q => absurd (hd.mp q) (fun q => by cases q)) k
  refine s_L_step i r.bud1 r.2.1 x d (fun hn => bs_kI_i ?_) (fun j h1 h3 => bs_kI_i ?_)
  · have r2 := r.thr
    refine rx _ _ r2.2.2.1 (ry _ _ r2.2.2.1 (two _ _ ?_))
    exact ⟨⟨_, r2.1.2.1⟩, s_R_step r2.1 x d (fun _ h' j' o' => bs_kI_i (fin1 (r2.ref j' o') rfl (fun q => absurd q (by decide)) (nx h' ⟨w, f, kc, ks, n, st, _, g0, i.thr.ref o', r2.ref j' o', ok⟩))) (fun j h1 h3 => absurd (nI_inw h1 (by omega) h3) hn)⟩
  · have r2 := (r.out (va_up g0 0 (if d then (st j).2.1 else (st j).1).toInt64)).less
    refine rx _ _ r2.2.2.1 (ry _ _ r2.2.2.1 (two _ _ ?_))
    refine ⟨⟨_, r2.1.2.1⟩, s_R_step r2.1 x d (fun hn => absurd (nI_inw h1 (by omega) h3) hn) (fun j2 q1 q3 h'' j'' o'' => bs_kI_i ?_)⟩
    obtain rfl : j = j2 := nI_inj (h3.symm.trans q3) (by omega) (by omega)
    exact fin1 (r2.ref j'' o'') rfl (fun _ => bs_up_eq _ _ _) (nx h'' ⟨w, f, kc, ks, n, st, _, _, (i.put _).ref o'', r2.ref j'' o'', ok⟩)
theorem law_5 {nx23 : Nat → Nat → Nat → Nat → Int32 → bs_H → Prop} (g : SG X E (b + 1) h) (rx : rd E x0 (x4 + 1) x) (ry : rd E x0 (x4 + 2) y) (nx : ∀ h', SG X E b h' → nx23 x0 X (X + 38) (X + 62) (x4 + 5) h') : bs_lX h x0 (x4 + 1) (fun v41 => bs_lX h x0 (x4 + 2) (fun v42 => bs_if (v42 = 0) (w_L_law_354 Φ nx23 x0 X (X + 38) (X + 62) x4 X v41 0 h) (w_L_law_354 Φ nx23 x0 X (X + 38) (X + 62) x4 X v41 1 h))) := by
  have e : h.2.2.2.2 = E := by obtain ⟨w, f, kc, ks, n, st, th, g0, i, r, ok⟩ := g; exact r.2.2.1
  exact rx h _ e (ry h _ e (bs_ifc (fun hy => law_5b g rx ry nx false ⟨fun _ => rfl, fun _ => hy⟩) (fun hy => law_5b g rx ry nx true ⟨fun q => absurd q hy, fun q => by cases q⟩)))
theorem law_6 (g : SG X E (b + 1) h) (rx : rd E x0 i1 x) (nx : ∀ h', SG X E b h' → K h') : bs_lX h x0 i1 (fun v43 => w_L_mask (bs_kI Φ fun v44 h45 => (bs_lX h45 x0 i1 (fun v46 => bs_on h45 (X + 38) 7 (w_R_mask (bs_kL Φ fun v47 h48 => (bs_on h48 (X + 38) 7 (w_R_thrown (bs_kI Φ fun v49 h50 => (bs_if (v49 = v44) (bs_if (v44 = 0) (bs_lL h50 (X + 62) 0 (fun v51 => bs_if (v51 = v47) (K h50) (bs_rZ Φ 0 h50))) (K h50)) (bs_rZ Φ 0 h50))) (X + 38) h48))) (X + 38) v46 h45)))) X v43 (X + 62) h) := by
  obtain ⟨w, f, kc, ks, n, st, th, g0, i, r, ok⟩ := g
  have hn192 := i.1.2.2.2.2
  refine rx h _ r.2.2.1 (s_L_mask i r.bud1 r.2.1 x (fun hn => bs_kI_i ?_) (fun j h1 h3 => bs_kI_i ?_))
  · have r2 := r.thr
    exact rx _ _ r2.2.2.1 ⟨⟨_, r2.1.2.1⟩, s_R_mask r2.1 x (fun _ h' j' o' => bs_kL_i (fin1 (r2.ref j' o') rfl (fun q => absurd q (by decide)) (nx h' ⟨w, f, kc, ks, n, st, _, g0, i.thr.ref o', r2.ref j' o', ok⟩))) (fun j h1 h3 => absurd (nI_inw h1 (by omega) h3) hn)⟩
  · have r2 := (r.out (va_up g0 0 (st j).2.2)).less
    refine rx _ _ r2.2.2.1 ⟨⟨_, r2.1.2.1⟩, s_R_mask r2.1 x (fun hn => absurd (nI_inw h1 (by omega) h3) hn) (fun j2 q1 q3 h'' j'' o'' => bs_kL_i ?_)⟩
    obtain rfl : j = j2 := nI_inj (h3.symm.trans q3) (by omega) (by omega)
    exact fin1 (r2.ref j'' o'') rfl (fun _ => bs_up_eq _ _ _) (nx h'' ⟨w, f, kc, ks, n, st, _, _, (i.put _).ref o'', r2.ref j'' o'', ok⟩)
theorem law_7 {z1 z2 : Int32} (g : SG X E (b + 1) h) (rx : rd E x0 i1 x) (ry : rd E x0 i2 y) (rz : rd E x0 i3 z1) (ru : rd E x0 i4 z2) (nx : ∀ h', SG X E b h' → K h') : bs_lX h x0 i1 (fun v52 => bs_lX h x0 i2 (fun v53 => bs_lX h x0 i3 (fun v54 => bs_lX h x0 i4 (fun v55 => w_L_patch (bs_kI Φ fun v56 h57 => (bs_lX h57 x0 i1 (fun v58 => bs_lX h57 x0 i2 (fun v59 => bs_lX h57 x0 i3 (fun v60 => bs_lX h57 x0 i4 (fun v61 => bs_on h57 (X + 38) 7 (w_R_patch (bs_kV Φ fun h62 => (bs_on h62 (X + 38) 7 (w_R_thrown (bs_kI Φ fun v63 h64 => (bs_if (v63 = v56) (K h64) (bs_rZ Φ 0 h64))) (X + 38) h62))) (X + 38) v58 v59 ((bs_shl v60.toInt64 32) ||| (v61.toInt64 &&& 4294967295)) h57))))))) X v52 v53 ((bs_shl v54.toInt64 32) ||| (v55.toInt64 &&& 4294967295)) h)))) := by
  obtain ⟨w, f, kc, ks, n, st, th, g0, i, r, ok⟩ := g
  have hn192 := i.1.2.2.2.2
  refine rx h _ r.2.2.1 (ry h _ r.2.2.1 (rz h _ r.2.2.1 (ru h _ r.2.2.1 ?_)))
  have four : ∀ {v : Int32} {H : bs_H}, H.2.2.2.2 = E → bs_on H (X + 38) 7 (w_R_patch (bs_kV Φ fun h62 => (bs_on h62 (X + 38) 7 (w_R_thrown (bs_kI Φ fun v63 h64 => (bs_if (v63 = v) (K h64) (bs_rZ Φ 0 h64))) (X + 38) h62))) (X + 38) x y ((bs_shl z1.toInt64 32) ||| (z2.toInt64 &&& 4294967295)) H) → bs_lX H x0 i1 (fun v58 => bs_lX H x0 i2 (fun v59 => bs_lX H x0 i3 (fun v60 => bs_lX H x0 i4 (fun v61 => bs_on H (X + 38) 7 (w_R_patch (bs_kV Φ fun h62 => (bs_on h62 (X + 38) 7 (w_R_thrown (bs_kI Φ fun v63 h64 => (bs_if (v63 = v) (K h64) (bs_rZ Φ 0 h64))) (X + 38) h62))) (X + 38) v58 v59 ((bs_shl v60.toInt64 32) ||| (v61.toInt64 &&& 4294967295)) H))))) := fun e k => rx _ _ e (ry _ _ e (rz _ _ e (ru _ _ e k)))
  generalize ((bs_shl z1.toInt64 32) ||| (z2.toInt64 &&& 4294967295)) = m at four
  refine s_L_patch i r.bud1 x y m (fun hn => bs_kI_i ?_) (fun j h1 h3 h4 => bs_kI_i ?_) (fun j h1 h3 h4 h' i' o' => bs_kI_i ?_)
  · have r2 := r.thr
    exact four r2.2.2.1 ⟨⟨_, r2.1.2.1⟩, s_R_patch r2.1 x y m (fun _ h' j' o' => bs_kV_i (fin0 (r2.ref j' o') rfl (nx h' ⟨w, f, kc, ks, n, st, _, g0, i.thr.ref o', r2.ref j' o', ok⟩))) (fun j h1 h3 => absurd (nI_inw h1 (by omega) h3) hn) (fun j h1 h3 => absurd (nI_inw h1 (by omega) h3) hn)⟩
  · have r2 := r.thr
    refine four r2.2.2.1 ⟨⟨_, r2.1.2.1⟩, s_R_patch r2.1 x y m (fun hn => absurd (nI_inw h1 (by omega) h3) hn) (fun _ _ _ _ h' j' o' => bs_kV_i (fin0 (r2.ref j' o') rfl (nx h' ⟨w, f, kc, ks, n, st, _, g0, i.thr.ref o', r2.ref j' o', ok⟩))) (fun j2 q1 q3 q4 => ?_)⟩
    obtain rfl : j = j2 := nI_inj (h3.symm.trans q3) (by omega) (by omega)
    rw [h4] at q4; cases q4
  · have r2 := (r.cls o').less
    refine four r2.2.2.1 ⟨⟨_, r2.1.2.1⟩, s_R_patch r2.1 x y m (fun hn => absurd (nI_inw h1 (by omega) h3) hn) (fun j2 q1 q3 q4 => ?_) (fun j2 q1 q3 q4 h'' j'' o'' => bs_kV_i ?_)⟩
    · obtain rfl : j = j2 := nI_inj (h3.symm.trans q3) (by omega) (by omega)
      rw [h4] at q4; cases q4
    · obtain rfl : j = j2 := nI_inj (h3.symm.trans q3) (by omega) (by omega)
      refine fin0 (r2.ref j'' o'') rfl (nx h'' ⟨w, f, kc, ks, n, _, _, g0, i'.ref o'', r2.ref j'' o'', fun z hz => ?_⟩)
      show fitsB w (va_up st j ((st j).1, y, m) z).1 (va_up st j ((st j).1, y, m) z).2.1 (va_up st j ((st j).1, y, m) z).2.2 = true ∧ opL (va_up st j ((st j).1, y, m) z).1
      by_cases e : z = j
      · subst e; rw [bs_up_eq]; exact ⟨h4, (ok z hz).2⟩
      · rw [bs_up_ne _ _ e]; exact ok z hz
theorem law_8 (g : SG X E (b + 1) h) (rx : rd E x0 i1 x) (ry : rd E x0 i2 y) (nx : ∀ h', SG X E b h' → K h') : bs_lX h x0 i1 (fun v65 => bs_lX h x0 i2 (fun v66 => bs_on h X 0 (w_B_run (bs_kL Φ fun v67 h68 => (bs_lX h68 x0 i1 (fun v69 => bs_lX h68 x0 i2 (fun v70 => bs_on h68 (X + 38) 7 (w_R_run (bs_kL Φ fun v71 h72 => (bs_if (v67 = v71) (K h72) (bs_rZ Φ 0 h72))) (X + 38) ((bs_shl v69.toInt64 32) ||| (v70.toInt64 &&& 4294967295)) h68))))) X ((bs_shl v65.toInt64 32) ||| (v66.toInt64 &&& 4294967295)) h))) := by
  obtain ⟨w, f, kc, ks, n, st, th, g0, i, r, ok⟩ := g
  refine rx h _ r.2.2.1 (ry h _ r.2.2.1 ⟨⟨_, i.2.1⟩, s_B_run i (fun z hz => (ok z hz).1) _ (fun h' i' o' => bs_kL_i ?_)⟩)
  have r2 := (r.cls o').less
  exact rx _ _ r2.2.2.1 (ry _ _ r2.2.2.1 ⟨⟨_, r2.1.2.1⟩, s_R_run r2.1 (fun z hz => (ok z hz).1) (fun z hz => (ok z hz).2) _ (fun h'' j'' o'' => bs_kL_i (bs_ift rfl (nx h'' ⟨w, f, kc, ks, n, st, _, g0, i'.ref o'', r2.ref j'' o'', ok⟩)))⟩)
theorem law_9 (g : SG X E (b + 1) h) (rx : rd E x0 i1 x) (ry : rd E x0 i2 y) (nx : ∀ h', SG X E b h' → K h') : bs_lX h x0 i1 (fun v73 => bs_lX h x0 i2 (fun v74 => bs_on h X 0 (w_B_direct (bs_kL Φ fun v75 h76 => (bs_lX h76 x0 i1 (fun v77 => bs_lX h76 x0 i2 (fun v78 => bs_on h76 (X + 38) 7 (w_R_direct (bs_kL Φ fun v79 h80 => (bs_if (v75 = v79) (K h80) (bs_rZ Φ 0 h80))) (X + 38) ((bs_shl v77.toInt64 32) ||| (v78.toInt64 &&& 4294967295)) h76))))) X ((bs_shl v73.toInt64 32) ||| (v74.toInt64 &&& 4294967295)) h))) := by
  obtain ⟨w, f, kc, ks, n, st, th, g0, i, r, ok⟩ := g
  refine rx h _ r.2.2.1 (ry h _ r.2.2.1 ⟨⟨_, i.2.1⟩, s_B_direct i _ (bs_kL_i ?_)⟩)
  have r2 := r.less
  exact rx _ _ r2.2.2.1 (ry _ _ r2.2.2.1 ⟨⟨_, r2.1.2.1⟩, s_R_direct r2.1 _ (fun h'' j'' o'' => bs_kL_i (bs_ift rfl (nx h'' ⟨w, f, kc, ks, n, st, _, g0, i.ref o'', r2.ref j'' o'', ok⟩)))⟩)
theorem law_10 (g : SG X E (b + 1) h) (nx : ∀ h', SG X E b h' → K h') : bs_on h X 0 (w_B_check (bs_kI Φ fun v81 h82 => (bs_on h82 (X + 38) 7 (w_R_check (bs_kI Φ fun v83 h84 => (bs_if (v81 = v83) (K h84) (bs_rZ Φ 0 h84))) (X + 38) h82))) X h) := by
  obtain ⟨w, f, kc, ks, n, st, th, g0, i, r, ok⟩ := g
  refine ⟨⟨_, i.2.1⟩, s_B_check i (fun z hz => (ok z hz).1) (fun h' i' o' => bs_kI_i ?_)⟩
  have r2 := (r.cls o').less
  exact ⟨⟨_, r2.1.2.1⟩, s_R_check r2.1 (fun z hz => (ok z hz).1) (fun z hz => (ok z hz).2) (fun h'' j'' o'' => bs_kI_i (bs_ift rfl (nx h'' ⟨w, f, kc, ks, n, st, _, g0, i'.ref o'', r2.ref j'' o'', ok⟩)))⟩
theorem law_11 (g : SG X E (b + 1) h) (rx : rd E x0 i1 x) (nx : ∀ h', SG X E b h' → K h') : bs_lX h x0 i1 (fun v85 => w_L_origins (bs_kI Φ fun v86 h87 => (bs_lX h87 x0 i1 (fun v88 => bs_on h87 (X + 38) 7 (w_R_origins (bs_kL Φ fun v89 h90 => (bs_on h90 (X + 38) 7 (w_R_thrown (bs_kI Φ fun v91 h92 => (bs_if (v91 = v86) (bs_if (v86 = 0) (bs_lL h92 (X + 62) 0 (fun v93 => bs_if (v93 = v89) (K h92) (bs_rZ Φ 0 h92))) (K h92)) (bs_rZ Φ 0 h92))) (X + 38) h90))) (X + 38) v88 h87)))) X v85 (X + 62) h) := by
  obtain ⟨w, f, kc, ks, n, st, th, g0, i, r, ok⟩ := g
  have hw := i.1.2.1
  refine rx h _ r.2.2.1 (s_L_origins i (fun z hz => (ok z hz).1) r.bud1 r.off x (fun hn => bs_kI_i ?_) (fun j h1 h3 h' i' o' => bs_kI_i ?_))
  · have r2 := r.thr
    exact rx _ _ r2.2.2.1 ⟨⟨_, r2.1.2.1⟩, s_R_origins r2.1 (fun z hz => (ok z hz).1) (fun z hz => (ok z hz).2) x (fun _ h' j' o' => bs_kL_i (fin1 (r2.ref j' o') rfl (fun q => absurd q (by decide)) (nx h' ⟨w, f, kc, ks, n, st, _, g0, i.thr.ref o', r2.ref j' o', ok⟩))) (fun j h1 h3 => absurd (nI_inw h1 (by omega) h3) hn)⟩
  · have r2 := ((r.cls o').out (va_up g0 0 ((syN w st n).2.2.1 j))).less
    refine rx _ _ r2.2.2.1 ⟨⟨_, r2.1.2.1⟩, s_R_origins r2.1 (fun z hz => (ok z hz).1) (fun z hz => (ok z hz).2) x (fun hn => absurd (nI_inw h1 (by omega) h3) hn) (fun j2 q1 q3 h'' j'' o'' => bs_kL_i ?_)⟩
    obtain rfl : j = j2 := nI_inj (h3.symm.trans q3) (by omega) (by omega)
    exact fin1 (r2.ref j'' o'') rfl (fun _ => bs_up_eq _ _ _) (nx h'' ⟨w, f, kc, ks, n, st, _, _, (i'.put _).ref o'', r2.ref j'' o'', ok⟩)
theorem law_12 {nx23 : Nat → Nat → Nat → Nat → Int32 → bs_H → Prop} (g : SG X E (b + 1) h) (rx : rd E x0 i1 x) (nx : ∀ h', SG X E b h' → nx23 x0 X (X + 38) (X + 62) (x4 + 5) h') : bs_lX h x0 i1 (fun v94 => w_L_constant (bs_kI Φ fun v95 h96 => (bs_lX h96 x0 i1 (fun v97 => bs_on h96 (X + 38) 7 (w_R_constant (bs_kI Φ fun v98 h99 => (bs_on h99 (X + 38) 7 (w_R_thrown (bs_kI Φ fun v100 h101 => (bs_if (v100 = v95) (bs_if (v95 = 0) (bs_lL h101 (X + 62) 0 (fun v102 => bs_if (v98 = 0) (w_L_law_802 Φ nx23 x0 X (X + 38) (X + 62) x4 v102 0 h101) (w_L_law_802 Φ nx23 x0 X (X + 38) (X + 62) x4 v102 1 h101))) (w_L_law_808 Φ nx23 x0 X (X + 38) (X + 62) x4 h101)) (bs_rZ Φ 0 h101))) (X + 38) h99))) (X + 38) v97 h96)))) X v94 (X + 62) h) := by
  obtain ⟨w, f, kc, ks, n, st, th, g0, i, r, ok⟩ := g
  have hw := i.1.2.1
  refine rx h _ r.2.2.1 (s_L_constant i (fun z hz => (ok z hz).1) r.bud1 r.off x (fun hn => bs_kI_i ?_) (fun j h1 h3 h' i' o' => bs_kI_i ?_))
  · have r2 := r.thr
    refine rx _ _ r2.2.2.1 ⟨⟨_, r2.1.2.1⟩, s_R_constant r2.1 (fun z hz => (ok z hz).1) (fun z hz => (ok z hz).2) x (fun _ h' j' o' => bs_kI_i ?_) (fun j h1 h3 => absurd (nI_inw h1 (by omega) h3) hn)⟩
    have r3 := r2.ref j' o'
    exact ⟨⟨_, r3.1.2.1⟩, s_R_thrown r3.1 (bs_kI_i (bs_ift rfl (bs_iff (by decide) (nx h' ⟨w, f, kc, ks, n, st, _, g0, i.thr.ref o', r3, ok⟩))))⟩
  · have r2 := ((r.cls o').out (va_up g0 0 (if (syN w st n).2.2.2 j then 1 else 0))).less
    refine rx _ _ r2.2.2.1 ⟨⟨_, r2.1.2.1⟩, s_R_constant r2.1 (fun z hz => (ok z hz).1) (fun z hz => (ok z hz).2) x (fun hn => absurd (nI_inw h1 (by omega) h3) hn) (fun j2 q1 q3 h'' j'' o'' => bs_kI_i ?_)⟩
    obtain rfl : j = j2 := nI_inj (h3.symm.trans q3) (by omega) (by omega)
    have r3 := r2.ref j'' o''
    have fn := nx h'' ⟨w, f, kc, ks, n, st, _, _, (i'.put _).ref o'', r3, ok⟩
    refine ⟨⟨_, r3.1.2.1⟩, s_R_thrown r3.1 (bs_kI_i (bs_ift rfl (bs_ift rfl (bs_lL_i 0 r3.2.1 rfl (by omega) (by decide) ?_))))⟩
    rw [bs_up_eq]
    refine bs_ifz (fun hb => ?_) (fun hb => ?_)
    · rw [hb]; exact bs_ift rfl fn
    · rw [hb]; exact bs_ift rfl fn
theorem law_13 (g : SG X E (b + 1) h) (ht : ∃ tf : Nat → Int32, E.1 E.2 = some (9, tf) ∧ ∀ j, j < 9 → tf j = ([1, 1, 1, 1, 1, 6, 1, 3, 3] : List Int32).getD j 0) (nx : ∀ h', SG X E b h' → K h') : bs_on h X 0 (w_B_ticks (bs_kI Φ fun v103 h104 => (bs_on h104 (X + 38) 7 (w_R_ticks (bs_kI Φ fun v105 h106 => (bs_if (v103 = v105) (K h106) (bs_rZ Φ 0 h106))) (X + 38) h104))) X h) := by
  obtain ⟨w, f, kc, ks, n, st, th, g0, i, r, ok⟩ := g
  have r2 := r.less
  exact ⟨⟨_, i.2.1⟩, s_B_ticks i (fun z hz => (ok z hz).2) (by rw [r.2.2.1]; exact ht) (bs_kI_i ⟨⟨_, r2.1.2.1⟩, s_R_ticks r2.1 (fun h'' j'' o'' => bs_kI_i (bs_ift rfl (nx h'' ⟨w, f, kc, ks, n, st, _, g0, i.ref o'', r2.ref j'' o'', ok⟩)))⟩)⟩
theorem law_14 (g : SG X E (b + 1) h) (nx : ∀ h', SG X E b h' → K h') : w_L_keep (bs_kI Φ fun v107 h108 => (bs_on h108 (X + 38) 7 (w_R_keep (bs_kI Φ fun v109 h110 => (bs_on h110 (X + 38) 7 (w_R_thrown (bs_kI Φ fun v111 h112 => (bs_if (v111 = v107) (bs_if (v107 = 0) (bs_lL h112 (X + 62) 0 (fun v113 => bs_if (v113 = v109.toInt64) (K h112) (bs_rZ Φ 0 h112))) (K h112)) (bs_rZ Φ 0 h112))) (X + 38) h110))) (X + 38) h108))) X (X + 62) h := by
  obtain ⟨w, f, kc, ks, n, st, th, g0, i, r, ok⟩ := g
  refine s_L_keep i r.bud1 r.off (fun hn => bs_kI_i ?_) (fun h1 h' i' o' => bs_kI_i ?_)
  · have r2 := r.thr
    exact ⟨⟨_, r2.1.2.1⟩, s_R_keep r2.1 (fun _ h' j' o' => bs_kI_i (fin1 (r2.ref j' o') rfl (fun q => absurd q (by decide)) (nx h' ⟨w, f, kc, ks, n, st, _, g0, i.thr.ref o', r2.ref j' o', ok⟩))) (fun q => absurd hn (by omega))⟩
  · have r2 := ((r.cls o').out (va_up g0 0 (nI kc).toInt64)).less
    exact ⟨⟨_, r2.1.2.1⟩, s_R_keep r2.1 (fun q => absurd q (by omega)) (fun _ h'' j'' o'' => bs_kI_i (fin1 (r2.ref j'' o'') rfl (fun _ => bs_up_eq _ _ _) (nx h'' ⟨w, f, _, _, n, st, _, _, (i'.put _).ref o'', r2.ref j'' o'', ok⟩)))⟩
theorem law_15 (g : SG X E (b + 1) h) (rx : rd E x0 i1 x) (nx : ∀ h', SG X E b h' → K h') : bs_lX h x0 i1 (fun v114 => w_L_join (bs_kI Φ fun v115 h116 => (bs_lX h116 x0 i1 (fun v117 => bs_on h116 (X + 38) 7 (w_R_join (bs_kV Φ fun h118 => (bs_on h118 (X + 38) 7 (w_R_thrown (bs_kI Φ fun v119 h120 => (bs_if (v119 = v115) (K h120) (bs_rZ Φ 0 h120))) (X + 38) h118))) (X + 38) v117 h116)))) X v114 h) := by
  obtain ⟨w, f, kc, ks, n, st, th, g0, i, r, ok⟩ := g
  have hk8 := i.1.2.2.2.1
  refine rx h _ r.2.2.1 (s_L_join i r.bud1 x (fun hn => bs_kI_i ?_) (fun j h1 h3 h4 => bs_kI_i ?_) (fun j h1 h3 h4 h' i' o' => bs_kI_i ?_))
  · have r2 := r.thr
    exact rx _ _ r2.2.2.1 ⟨⟨_, r2.1.2.1⟩, s_R_join r2.1 x (fun _ h' j' o' => bs_kV_i (fin0 (r2.ref j' o') rfl (nx h' ⟨w, f, kc, ks, n, st, _, g0, i.thr.ref o', r2.ref j' o', ok⟩))) (fun j h1 h3 => absurd (nI_inw h1 (by omega) h3) hn) (fun j h1 h3 => absurd (nI_inw h1 (by omega) h3) hn)⟩
  · have r2 := r.thr
    refine rx _ _ r2.2.2.1 ⟨⟨_, r2.1.2.1⟩, s_R_join r2.1 x (fun hn => absurd (nI_inw h1 (by omega) h3) hn) (fun _ _ _ _ h' j' o' => bs_kV_i (fin0 (r2.ref j' o') rfl (nx h' ⟨w, f, kc, ks, n, st, _, g0, i.thr.ref o', r2.ref j' o', ok⟩))) (fun j2 q1 q3 q4 => ?_)⟩
    obtain rfl : j = j2 := nI_inj (h3.symm.trans q3) (by omega) (by omega)
    exact absurd q4 h4
  · have r2 := (r.cls o').less
    refine rx _ _ r2.2.2.1 ⟨⟨_, r2.1.2.1⟩, s_R_join r2.1 x (fun hn => absurd (nI_inw h1 (by omega) h3) hn) (fun j2 q1 q3 q4 => ?_) (fun j2 q1 q3 q4 h'' j'' o'' => bs_kV_i ?_)⟩
    · obtain rfl : j = j2 := nI_inj (h3.symm.trans q3) (by omega) (by omega)
      exact absurd h4 q4
    · obtain rfl : j = j2 := nI_inj (h3.symm.trans q3) (by omega) (by omega)
      exact fin0 (r2.ref j'' o'') rfl (nx h'' ⟨w, _, kc, ks, n, st, _, g0, i'.ref o'', r2.ref j'' o'', ok⟩)
theorem law_16 (g : SG X E (b + 1) h) (nx : ∀ h', SG X E b h' → K h') : w_L_invert (bs_kI Φ fun v121 h122 => (bs_on h122 (X + 38) 7 (w_R_invert (bs_kV Φ fun h123 => (bs_on h123 (X + 38) 7 (w_R_thrown (bs_kI Φ fun v124 h125 => (bs_if (v124 = v121) (K h125) (bs_rZ Φ 0 h125))) (X + 38) h123))) (X + 38) h122))) X h := by
  obtain ⟨w, f, kc, ks, n, st, th, g0, i, r, ok⟩ := g
  refine s_L_invert i r.bud1 (fun hn => bs_kI_i ?_) (fun h1 h' i' o' => bs_kI_i ?_)
  · have r2 := r.thr
    exact ⟨⟨_, r2.1.2.1⟩, s_R_invert r2.1 (fun _ h' j' o' => bs_kV_i (fin0 (r2.ref j' o') rfl (nx h' ⟨w, f, kc, ks, n, st, _, g0, i.thr.ref o', r2.ref j' o', ok⟩))) (fun q => by rw [hn] at q; cases q)⟩
  · have r2 := (r.cls o').less
    exact ⟨⟨_, r2.1.2.1⟩, s_R_invert r2.1 (fun q => by rw [h1] at q; cases q) (fun _ h'' j'' o'' => bs_kV_i (fin0 (r2.ref j'' o'') rfl (nx h'' ⟨w, _, kc, ks, n, st, _, g0, i'.ref o'', r2.ref j'' o'', ok⟩)))⟩
theorem law_17 (g : SG X E (b + 1) h) (nx : ∀ h', SG X E b h' → K h') : w_L_least (bs_kI Φ fun v126 h127 => (bs_on h127 (X + 38) 7 (w_R_least (bs_kI Φ fun v128 h129 => (bs_on h129 (X + 38) 7 (w_R_thrown (bs_kI Φ fun v130 h131 => (bs_if (v130 = v126) (bs_if (v126 = 0) (bs_lL h131 (X + 62) 0 (fun v132 => bs_if (v132 = v128.toInt64) (K h131) (bs_rZ Φ 0 h131))) (K h131)) (bs_rZ Φ 0 h131))) (X + 38) h129))) (X + 38) h127))) X (X + 62) h := by
  obtain ⟨w, f, kc, ks, n, st, th, g0, i, r, ok⟩ := g
  refine s_L_least i r.bud1 r.2.1 (fun hn => bs_kI_i ?_) (fun h1 h2 => bs_kI_i ?_)
  · have r2 := r.thr
    exact ⟨⟨_, r2.1.2.1⟩, s_R_least r2.1 (fun _ h' j' o' => bs_kI_i (fin1 (r2.ref j' o') rfl (fun q => absurd q (by decide)) (nx h' ⟨w, f, kc, ks, n, st, _, g0, i.thr.ref o', r2.ref j' o', ok⟩))) (fun q1 q2 => absurd ⟨q1, q2⟩ hn)⟩
  · have r2 := (r.out (va_up g0 0 (nI (lsB w (pkC f w) (pkC (fun k => k) w))).toInt64)).less
    exact ⟨⟨_, r2.1.2.1⟩, s_R_least r2.1 (fun q => absurd ⟨h1, h2⟩ q) (fun _ _ h'' j'' o'' => bs_kI_i (fin1 (r2.ref j'' o'') rfl (fun _ => bs_up_eq _ _ _) (nx h'' ⟨w, f, kc, ks, n, st, _, _, (i.put _).ref o'', r2.ref j'' o'', ok⟩)))⟩
end LW
