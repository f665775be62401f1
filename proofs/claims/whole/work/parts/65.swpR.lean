/-! make(2) of the reference: decide. -/
def qW (Y : Nat) (th : Int32) (w n kc : Nat) (h : bs_H) (W Lt Co Go : Nat → Int32) (Fi La : Nat → Int64) : Prop := rO Y th w n kc h ∧ h.1 (Y + 12) = some (bs_ia 64 W) ∧ h.1 (Y + 13) = some (bs_ia 64 Lt) ∧ h.1 (Y + 14) = some (bs_ia 64 Co) ∧ h.1 (Y + 15) = some (bs_ia 64 Go) ∧ h.1 (Y + 16) = some (bs_la 7 Fi) ∧ h.1 (Y + 17) = some (bs_la 7 La)
def offW (Y : Nat) (h h' : bs_H) : Prop := (∀ b, b < Y + 12 ∨ Y + 17 < b → h'.1 b = h.1 b) ∧ h'.2 = h.2
theorem offW.refl (Y : Nat) (h : bs_H) : offW Y h h := ⟨fun _ _ => rfl, rfl⟩
theorem offW.trans {Y : Nat} {h h' h'' : bs_H} (h1 : offW Y h h') (h2 : offW Y h' h'') : offW Y h h'' := ⟨fun b hb => (h2.1 b hb).trans (h1.1 b hb), h2.2.trans h1.2⟩
theorem offW.set {Y a : Nat} {h h' : bs_H} {x : bs_E} (h1 : offW Y h h') (ha : Y + 12 ≤ a ∧ a ≤ Y + 17) : offW Y h (bs_set h' a x) := ⟨fun b hb => by rw [bs_set_ne (by omega)]; exact h1.1 b hb, h1.2⟩
theorem offW.r {Y : Nat} {h h' : bs_H} (o : offW Y h h') : offR Y h h' := ⟨fun b hb => o.1 b (by omega), o.2⟩
def acr (j y : Nat) : Nat := if y < 2 ^ j then y + 2 ^ j else y - 2 ^ j
theorem acr_x {L j B y : Nat} (hL : L < 7) (hj : j < L) (hB : (2 * 2 ^ j) * (B + 1) ≤ 2 ^ L) (hy : y < 2 * 2 ^ j) : (2 * 2 ^ j) * B + acr j y = ((2 * 2 ^ j) * B + y) ^^^ 2 ^ j ∧ acr j y < 2 * 2 ^ j := by
  have w64 := pow_le64 L hL
  have e0 : (2 * 2 ^ j) * (B + 1) = (2 * 2 ^ j) * B + 2 * 2 ^ j := by rw [Nat.mul_add, Nat.mul_one]
  have x := (xo_b j (by omega) ((2 * 2 ^ j) * B + y) (by omega)).2.1
  rw [Nat.mul_add_mod, Nat.mod_eq_of_lt hy] at x
  rw [x]
  unfold acr
  by_cases h : y < 2 ^ j
  · rw [if_pos h, if_pos h]; omega
  · rw [if_neg h, if_neg h]; omega
/-- the reference's rows hold the three sets of block B -/
def relW (L j B : Nat) (S : bs_W3) (Co Go : Nat → Int32) : Prop := ∀ q, q < 2 ^ L → q / (2 * 2 ^ j) = B → Co q = (if lb S.2.2 q = true then 2 else if lb S.1 q = true then 1 else 0) ∧ (Go q = 2 ↔ lb S.2.1 q = true)
theorem relW_step {L j B a x : Nat} {P Q : Nat → Nat} (hL : L < 7) (hj : j < L) (k : pq (2 ^ L) P Q) {S : bs_W3} (i : stI L j P Q a x S) (hx : lb S.1 x = false) {Co Go : Nat → Int32} (r : relW L j B S Co Go) : relW L j B (wy1 P Q (2 ^ j) x S) (va_up (va_up Co x 1) (Q (P x ^^^ 2 ^ j)) 2) (va_up (va_up Go (P x) 1) (P x ^^^ 2 ^ j) 2) := by
  have w64 := pow_le64 L hL
  have hxw := i.1.2.1
  obtain ⟨a1, a2, a3, a4⟩ := k x hxw
  obtain ⟨b1, b2, b3, b4⟩ := xo_i L hL j hj _ a1
  obtain ⟨c1, c2, c3, c4⟩ := k _ b1
  have hxz : x ≠ Q (P x ^^^ 2 ^ j) := fun e => b3 (by rw [← c4, ← e])
  have hc : lb S.2.2 x = false := by
    cases h : lb S.2.2 x with
    | false => rfl
    | true => have := i.1.2.2.2.1 x h; rw [hx] at this; cases this
  have hg : lb S.2.1 (P x) = false := by rw [i.2 x hxw]; exact hc
  have C' : ∀ q, lb (wy1 P Q (2 ^ j) x S).2.2 q = true ↔ lb S.2.2 q = true ∨ q = Q (P x ^^^ 2 ^ j) := fun q => lb_put (by omega) _
  have G' : ∀ q, lb (wy1 P Q (2 ^ j) x S).2.1 q = true ↔ lb S.2.1 q = true ∨ q = P x ^^^ 2 ^ j := fun q => lb_put (by omega) _
  have D' : ∀ q, lb (wy1 P Q (2 ^ j) x S).1 q = true ↔ lb S.1 q = true ∨ q = x ∨ q = Q (P x ^^^ 2 ^ j) := by
    intro q
    show lb (S.1 ||| (bs_shl 1 (nI x) ||| bs_shl 1 (nI (Q (P x ^^^ 2 ^ j))))) q = true ↔ _
    rw [lb_or, Bool.or_eq_true, lb_put (by omega)]
    have : lb (bs_shl 1 (nI x)) q = true ↔ q = x := by
      have := lb_put (x := x) (p := q) (by omega) 0
      rw [lb_or, lb_0, Bool.false_or] at this
      rw [this]; simp
    rw [this]
  intro q hq hqB
  obtain ⟨r1, r2⟩ := r q hq hqB
  constructor
  · by_cases e1 : q = Q (P x ^^^ 2 ^ j)
    · rw [e1, bs_up_eq, if_pos ((C' _).mpr (.inr rfl))]
    · rw [bs_up_ne _ _ e1]
      by_cases e2 : q = x
      · subst e2
        rw [bs_up_eq, if_neg, if_pos ((D' _).mpr (.inr (.inl rfl)))]
        intro z
        rcases (C' _).mp z with z | z
        · rw [hc] at z; cases z
        · exact hxz z
      · rw [bs_up_ne _ _ e2, r1]
        have q1 : lb (wy1 P Q (2 ^ j) x S).2.2 q = lb S.2.2 q := by rw [Bool.eq_iff_iff, C']; simp [e1]
        have q2 : lb (wy1 P Q (2 ^ j) x S).1 q = lb S.1 q := by rw [Bool.eq_iff_iff, D']; simp [e1, e2]
        rw [q1, q2]
  · by_cases e1 : q = P x ^^^ 2 ^ j
    · rw [e1, bs_up_eq]
      exact ⟨fun _ => (G' _).mpr (.inr rfl), fun _ => rfl⟩
    · rw [bs_up_ne _ _ e1, G']
      by_cases e2 : q = P x
      · rw [e2, bs_up_eq, hg]
        constructor
        · intro z; exact absurd z (by decide)
        · intro z
          rcases z with z | z
          · cases z
          · exact absurd (e2.trans z) e1
      · rw [bs_up_ne _ _ e2, r2]
        simp [e1]
section WR
variable {Φ : bs_R → bs_H → Prop} {h : bs_H} {Y w n kc L j B : Nat} {th : Int32} {W Lt Co Go : Nat → Int32} {Fi La : Nat → Int64} {P Q : Nat → Nat}
theorem qW.wn (p : qW Y th w n kc h W Lt Co Go Fi La) (g : Nat → Int32) : qW Y th w n kc (bs_set h (Y + 12) (bs_ia 64 g)) g Lt Co Go Fi La := ⟨by unfold rO; rw [bs_set_ne (by omega)]; exact p.1, bs_set_eq, by rw [bs_set_ne (by omega)]; exact p.2.2.1, by rw [bs_set_ne (by omega)]; exact p.2.2.2.1, by rw [bs_set_ne (by omega)]; exact p.2.2.2.2.1, by rw [bs_set_ne (by omega)]; exact p.2.2.2.2.2.1, by rw [bs_set_ne (by omega)]; exact p.2.2.2.2.2.2⟩
theorem qW.l (p : qW Y th w n kc h W Lt Co Go Fi La) (g : Nat → Int32) : qW Y th w n kc (bs_set h (Y + 13) (bs_ia 64 g)) W g Co Go Fi La := ⟨by unfold rO; rw [bs_set_ne (by omega)]; exact p.1, by rw [bs_set_ne (by omega)]; exact p.2.1, bs_set_eq, by rw [bs_set_ne (by omega)]; exact p.2.2.2.1, by rw [bs_set_ne (by omega)]; exact p.2.2.2.2.1, by rw [bs_set_ne (by omega)]; exact p.2.2.2.2.2.1, by rw [bs_set_ne (by omega)]; exact p.2.2.2.2.2.2⟩
theorem qW.c (p : qW Y th w n kc h W Lt Co Go Fi La) (g : Nat → Int32) : qW Y th w n kc (bs_set h (Y + 14) (bs_ia 64 g)) W Lt g Go Fi La := ⟨by unfold rO; rw [bs_set_ne (by omega)]; exact p.1, by rw [bs_set_ne (by omega)]; exact p.2.1, by rw [bs_set_ne (by omega)]; exact p.2.2.1, bs_set_eq, by rw [bs_set_ne (by omega)]; exact p.2.2.2.2.1, by rw [bs_set_ne (by omega)]; exact p.2.2.2.2.2.1, by rw [bs_set_ne (by omega)]; exact p.2.2.2.2.2.2⟩
theorem qW.g (p : qW Y th w n kc h W Lt Co Go Fi La) (g : Nat → Int32) : qW Y th w n kc (bs_set h (Y + 15) (bs_ia 64 g)) W Lt Co g Fi La := ⟨by unfold rO; rw [bs_set_ne (by omega)]; exact p.1, by rw [bs_set_ne (by omega)]; exact p.2.1, by rw [bs_set_ne (by omega)]; exact p.2.2.1, by rw [bs_set_ne (by omega)]; exact p.2.2.2.1, bs_set_eq, by rw [bs_set_ne (by omega)]; exact p.2.2.2.2.2.1, by rw [bs_set_ne (by omega)]; exact p.2.2.2.2.2.2⟩
theorem qW.f (p : qW Y th w n kc h W Lt Co Go Fi La) (g : Nat → Int64) : qW Y th w n kc (bs_set h (Y + 16) (bs_la 7 g)) W Lt Co Go g La := ⟨by unfold rO; rw [bs_set_ne (by omega)]; exact p.1, by rw [bs_set_ne (by omega)]; exact p.2.1, by rw [bs_set_ne (by omega)]; exact p.2.2.1, by rw [bs_set_ne (by omega)]; exact p.2.2.2.1, by rw [bs_set_ne (by omega)]; exact p.2.2.2.2.1, bs_set_eq, by rw [bs_set_ne (by omega)]; exact p.2.2.2.2.2.2⟩
theorem qW.s (p : qW Y th w n kc h W Lt Co Go Fi La) (g : Nat → Int64) : qW Y th w n kc (bs_set h (Y + 17) (bs_la 7 g)) W Lt Co Go Fi g := ⟨by unfold rO; rw [bs_set_ne (by omega)]; exact p.1, by rw [bs_set_ne (by omega)]; exact p.2.1, by rw [bs_set_ne (by omega)]; exact p.2.2.1, by rw [bs_set_ne (by omega)]; exact p.2.2.2.1, by rw [bs_set_ne (by omega)]; exact p.2.2.2.2.1, by rw [bs_set_ne (by omega)]; exact p.2.2.2.2.2.1, bs_set_eq⟩
theorem s_R_across {y : Nat} (hj : j < 6) (hy : y < 2 * 2 ^ j) (ko : Φ (.ok (some (.int (nI (acr j y))))) h) : w_R_across Φ Y (nI y) (nI (2 ^ j)) h := by
  have j64 := pow_lt64 hj
  unfold acr at ko
  refine bs_ife (nI_leI (a := 2 ^ j) (b := y) (by omega) (by omega)) (fun hh => ?_) (fun hh => ?_)
  · rw [if_neg (by omega)] at ko
    show Φ (.ok (some (.int (nI y - nI (2 ^ j))))) h
    rw [pk_sub hh]; exact ko
  · rw [if_pos (by omega)] at ko
    show Φ (.ok (some (.int (nI y + nI (2 ^ j))))) h
    rw [nI_add]; exact ko
theorem s_R_decide41 {nx33 : Nat → Int32 → Int32 → Int32 → bs_H → Prop} (hL : L < 7) (hj : j < L) (k : pq (2 ^ L) P Q) (b : blk (2 ^ L) (2 * 2 ^ j) P) (hB : (2 * 2 ^ j) * (B + 1) ≤ 2 ^ L) (hW : ∀ q, q < 2 ^ L → W q = nI (P q % (2 * 2 ^ j))) {a : Nat} (c : Nat) :
    ∀ (u y fu : Nat) (S : bs_W3) (Co Go : Nat → Int32) (h : bs_H), u < fu → y < 2 * 2 ^ j → stI L j P Q a ((2 * 2 ^ j) * B + y) S → 2 ^ L ≤ u + cnt (lb S.1) (2 ^ L) → qW Y th w n kc h W Lt Co Go Fi La → relW L j B S Co Go → (∀ h' Co' Go', qW Y th w n kc h' W Lt Co' Go' Fi La → relW L j B (wyN P Q (2 ^ j) u ((2 * 2 ^ j) * B + y) S) Co' Go' → offW Y h h' → nx33 Y (nI ((2 * 2 ^ j) * B)) (nI (2 ^ j)) (nI c + 1) h') → w_R_decide_41 Φ nx33 fu Y (nI ((2 * 2 ^ j) * B)) (nI (2 ^ j)) (nI c) (nI y) h := by
  have w64 := pow_le64 L hL
  have e0 : (2 * 2 ^ j) * (B + 1) = (2 * 2 ^ j) * B + 2 * 2 ^ j := by rw [Nat.mul_add, Nat.mul_one]
  have p0 : 0 < 2 * 2 ^ j := by have := Nat.two_pow_pos j; omega
  have dv : ∀ y, y < 2 * 2 ^ j → ((2 * 2 ^ j) * B + y) / (2 * 2 ^ j) = B := fun y hy => by rw [Nat.mul_add_div p0, Nat.div_eq_of_lt hy, Nat.add_zero]
  have bk : ∀ q, q / (2 * 2 ^ j) = B → q = (2 * 2 ^ j) * B + q % (2 * 2 ^ j) := fun q hq => by rw [← hq]; exact (Nat.div_add_mod q (2 * 2 ^ j)).symm
  intro u
  induction u with
  | zero =>
    intro y fu S Co Go h hfu hy i hc p r ko
    obtain ⟨fu, rfl⟩ : ∃ fu', fu = fu' + 1 := ⟨fu - 1, by omega⟩
    have hx : lb S.1 ((2 * 2 ^ j) * B + y) = true := cnt_full (by omega) i.1.2.1
    refine bs_fA_i p.1 rfl (bs_lI_i ((2 * 2 ^ j) * B + y) p.2.2.2.1 (nI_add _ _) (by omega) (by decide) ?_)
    rw [(r _ i.1.2.1 (dv y hy)).1]
    refine bs_iff ?_ (ko h Co Go p r (offW.refl Y h))
    rw [hx, if_pos rfl]
    split <;> decide
  | succ u ih =>
    intro y fu S Co Go h hfu hy i hc p r ko
    obtain ⟨fu, rfl⟩ : ∃ fu', fu = fu' + 1 := ⟨fu - 1, by omega⟩
    have hxw := i.1.2.1
    refine bs_fA_i p.1 rfl (bs_lI_i ((2 * 2 ^ j) * B + y) p.2.2.2.1 (nI_add _ _) (by omega) (by decide) ?_)
    rw [(r _ hxw (dv y hy)).1]
    cases hx : lb S.1 ((2 * 2 ^ j) * B + y) with
    | true =>
      have en : wyN P Q (2 ^ j) (u + 1) ((2 * 2 ^ j) * B + y) S = S := by rw [wyN, if_pos hx]
      rw [en] at ko
      refine bs_iff ?_ (ko h Co Go p r (offW.refl Y h))
      rw [if_pos rfl]
      split <;> decide
    | false =>
      have en : wyN P Q (2 ^ j) (u + 1) ((2 * 2 ^ j) * B + y) S = wyN P Q (2 ^ j) u (Q (P ((2 * 2 ^ j) * B + y) ^^^ 2 ^ j) ^^^ 2 ^ j) (wy1 P Q (2 ^ j) ((2 * 2 ^ j) * B + y) S) := by rw [wyN, if_neg (by rw [hx]; exact (fun q => by cases q))]
      rw [en] at ko
      have hcx : lb S.2.2 ((2 * 2 ^ j) * B + y) = false := by
        cases hq : lb S.2.2 ((2 * 2 ^ j) * B + y) with
        | false => rfl
        | true => have := i.1.2.2.2.1 _ hq; rw [hx] at this; cases this
      have rs := relW_step hL hj k i hx r
      have st := (stI_step hL hj k i hx).1
      have hdx := dv y hy
      have cm : 2 ^ L ≤ u + cnt (lb (wy1 P Q (2 ^ j) ((2 * 2 ^ j) * B + y) S).1) (2 ^ L) := by
        have hxx : lb (wy1 P Q (2 ^ j) ((2 * 2 ^ j) * B + y) S).1 ((2 * 2 ^ j) * B + y) = true := by
          show lb (S.1 ||| (bs_shl 1 (nI ((2 * 2 ^ j) * B + y)) ||| _)) ((2 * 2 ^ j) * B + y) = true
          rw [lb_or, lb_or, lb_pow (by omega) (by omega)]
          simp
        have := cnt_lt (p := lb S.1) (p' := lb (wy1 P Q (2 ^ j) ((2 * 2 ^ j) * B + y) S).1) (2 ^ L) (fun p _ hp => wy1_more P Q _ _ S p hp) ⟨_, hxw, hxx, hx⟩
        omega
      generalize hX : (2 * 2 ^ j) * B + y = x at *
      obtain ⟨a1, a2, a3, a4⟩ := k x hxw
      obtain ⟨b1, b2, b3, b4⟩ := xo_i L hL j hj _ a1
      obtain ⟨c1, c2, c3, c4⟩ := k _ b1
      obtain ⟨d1, d2, d3, d4⟩ := xo_i L hL j hj _ c2
      have f1 : P x / (2 * 2 ^ j) = B := by rw [b x hxw, hdx]
      have f2 : (P x ^^^ 2 ^ j) / (2 * 2 ^ j) = B := by rw [b4, f1]
      have f3 : Q (P x ^^^ 2 ^ j) / (2 * 2 ^ j) = B := by rw [blk_inv k b _ b1, f2]
      have g1 := bk _ f1
      have g2 := bk _ f2
      have g3 := bk _ f3
      have m1 := Nat.mod_lt (P x) p0
      have m3 := Nat.mod_lt (Q (P x ^^^ 2 ^ j)) p0
      have ac1 := acr_x hL hj hB m1
      rw [← g1] at ac1
      have ac3 := acr_x hL hj hB m3
      rw [← g3] at ac3
      have s2 : acr j (P x % (2 * 2 ^ j)) = (P x ^^^ 2 ^ j) % (2 * 2 ^ j) := by omega
      refine bs_ift (by rw [if_neg (by rw [hcx]; exact (fun q => by cases q)), if_neg (fun q => by cases q)]) (bs_fA_i p.1 rfl (bs_sI_i x p.2.2.2.1 (by rw [nI_add, hX]) (by omega) (by decide) ?_))
      have p1 := p.c (va_up Co x 1)
      refine bs_fA_i p1.1 rfl (bs_lI_i x p1.2.1 (by rw [nI_add, hX]) (by omega) (by decide) (bs_fA_i p1.1 rfl ?_))
      rw [hW x hxw]
      refine bs_sI_i (P x) p1.2.2.2.2.1 (by rw [nI_add, ← g1]) (by omega) (by decide) ?_
      have p2 := p1.g (va_up Go (P x) 1)
      refine ⟨⟨_, p2.1⟩, s_R_across (by omega) m1 (bs_kI_i ?_)⟩
      rw [s2]
      refine bs_fA_i p2.1 rfl (bs_sI_i (P x ^^^ 2 ^ j) p2.2.2.2.2.1 (by rw [nI_add, ← g2]) (by omega) (by decide) ?_)
      have p3 := p2.g (va_up (va_up Go (P x) 1) (P x ^^^ 2 ^ j) 2)
      have o3 : offW Y h (bs_set (bs_set (bs_set h (Y + 14) (bs_ia 64 (va_up Co x 1))) (Y + 15) (bs_ia 64 (va_up Go (P x) 1))) (Y + 15) (bs_ia 64 (va_up (va_up Go (P x) 1) (P x ^^^ 2 ^ j) 2))) := (((offW.refl Y h).set (by omega)).set (by omega)).set (by omega)
      show w_R_decide_106 Φ nx33 (w_R_decide_41 Φ nx33 fu) 1000 Y (nI ((2 * 2 ^ j) * B)) (nI (2 ^ j)) (nI c) (nI ((P x ^^^ 2 ^ j) % (2 * 2 ^ j))) (nI 0) (bs_set (bs_set (bs_set h (Y + 14) (bs_ia 64 (va_up Co x 1))) (Y + 15) (bs_ia 64 (va_up Go (P x) 1))) (Y + 15) (bs_ia 64 (va_up (va_up Go (P x) 1) (P x ^^^ 2 ^ j) 2)))
      generalize bs_set (bs_set (bs_set h (Y + 14) (bs_ia 64 (va_up Co x 1))) (Y + 15) (bs_ia 64 (va_up Go (P x) 1))) (Y + 15) (bs_ia 64 (va_up (va_up Go (P x) 1) (P x ^^^ 2 ^ j) 2)) = H at p3 o3 ⊢
      have x64 : (P x ^^^ 2 ^ j) % (2 * 2 ^ j) < 64 := by omega
      refine bs_for (σ := Unit) (fun v z _ => w_R_decide_106 Φ nx33 (w_R_decide_41 Φ nx33 fu) v Y (nI ((2 * 2 ^ j) * B)) (nI (2 ^ j)) (nI c) (nI ((P x ^^^ 2 ^ j) % (2 * 2 ^ j))) (nI z) H) (fun _ _ => True) (Q (P x ^^^ 2 ^ j) % (2 * 2 ^ j)) ?_ ?_ (Q (P x ^^^ 2 ^ j) % (2 * 2 ^ j)) 0 () 1000 (by omega) (by omega) trivial
      · intro v z _ hz _ nx
        refine bs_fA_i p3.1 rfl (bs_lI_i ((2 * 2 ^ j) * B + z) p3.2.1 (nI_add _ _) (by omega) (by decide) ?_)
        have hzw : (2 * 2 ^ j) * B + z < 2 ^ L := by omega
        rw [hW _ hzw]
        refine bs_iff ?_ ?_
        · rw [nI_eq (by have := (k _ hzw).1; have := Nat.mod_le (P ((2 * 2 ^ j) * B + z)) (2 * 2 ^ j); omega) (by omega)]
          intro e
          have q1 := bk _ (show P ((2 * 2 ^ j) * B + z) / (2 * 2 ^ j) = B by rw [b _ hzw, dv z (by omega)])
          rw [e, ← g2] at q1
          have q2 := (k _ hzw).2.2.1
          rw [q1] at q2
          omega
        · rw [← nI_succ]
          exact nx () trivial
      · intro v _ _
        refine bs_fA_i p3.1 rfl (bs_lI_i (Q (P x ^^^ 2 ^ j)) p3.2.1 (by rw [nI_add, ← g3]) (by omega) (by decide) ?_)
        rw [hW _ c2, c4]
        refine bs_ift rfl (bs_fA_i p3.1 rfl (bs_sI_i (Q (P x ^^^ 2 ^ j)) p3.2.2.2.1 (by rw [nI_add, ← g3]) (by omega) (by decide) ?_))
        have p4 := p3.c (va_up (va_up Co x 1) (Q (P x ^^^ 2 ^ j)) 2)
        refine ⟨⟨_, p4.1⟩, s_R_across (by omega) m3 (bs_kI_i ?_)⟩
        refine ih _ fu _ _ _ _ (by omega) ac3.2 (by rw [ac3.1]; exact st) cm p4 rs (fun h' Co' Go' q' r' o' => ko h' Co' Go' q' ?_ ((o3.set (by omega)).trans o'))
        rw [ac3.1] at r'
        exact r'
theorem s_R_decide (hL : L < 7) (hj : j < L) (k : pq (2 ^ L) P Q) (b : blk (2 ^ L) (2 * 2 ^ j) P) (hB : (2 * 2 ^ j) * (B + 1) ≤ 2 ^ L) (hW : ∀ q, q < 2 ^ L → W q = nI (P q % (2 * 2 ^ j))) (p : qW Y th w n kc h W Lt Co Go Fi La) (ko : ∀ h' Co' Go', qW Y th w n kc h' W Lt Co' Go' Fi La → relW L j B (dwN P Q (2 ^ j) (2 ^ L) (2 ^ L)) Co' Go' → offW Y h h' → Φ (.ok none) h') : w_R_decide Φ Y (nI ((2 * 2 ^ j) * B)) (nI (2 ^ j)) h := by
  have w64 := pow_le64 L hL
  have j64 := pow_lt64 (show j < 6 by omega)
  have e0 : (2 * 2 ^ j) * (B + 1) = (2 * 2 ^ j) * B + 2 * 2 ^ j := by rw [Nat.mul_add, Nat.mul_one]
  have p0 : 0 < 2 * 2 ^ j := by have := Nat.two_pow_pos j; omega
  have ei : nI ((2 * 2 ^ j) * B) + (2 : Int32) * nI (2 ^ j) = nI ((2 * 2 ^ j) * (B + 1)) := by rw [show (2 : Int32) = nI 2 from rfl, pk_mul, nI_add, e0]
  refine bs_for (σ := bs_H) (fun v z H => w_R_decide_2 Φ v Y (nI ((2 * 2 ^ j) * B)) (nI (2 ^ j)) (nI z) H) (fun z H => offW Y h H ∧ ∃ Co Go, qW Y th w n kc H W Lt Co Go Fi La ∧ ∀ q, (2 * 2 ^ j) * B ≤ q → q < z → Co q = 0 ∧ Go q = 0) ((2 * 2 ^ j) * (B + 1)) ?_ ?_ (2 * 2 ^ j) ((2 * 2 ^ j) * B) h 1000 (by omega) (by omega) ⟨offW.refl Y h, Co, Go, p, fun q h1 h2 => by omega⟩
  · rintro v z H hz ⟨oH, Co, Go, pH, hq⟩ nx
    refine bs_iff (by rw [ei]; exact nI_ge hz (by omega)) (bs_fA_i pH.1 rfl (bs_sI_i z pH.2.2.2.1 rfl (by omega) (by decide) ?_))
    have p1 := pH.c (va_up Co z 0)
    refine bs_fA_i p1.1 rfl (bs_sI_i z p1.2.2.2.2.1 rfl (by omega) (by decide) ?_)
    rw [← nI_succ]
    refine nx _ ⟨(oH.set (by omega)).set (by omega), _, _, p1.g (va_up Go z 0), fun q h1 h2 => ?_⟩
    by_cases e : q = z
    · subst e; rw [bs_up_eq, bs_up_eq]; exact ⟨rfl, rfl⟩
    · rw [bs_up_ne _ _ e, bs_up_ne _ _ e]; exact hq q h1 (by omega)
  · rintro v H ⟨oH, Co, Go, pH, hq⟩
    refine bs_ift (by rw [ei]; exact nI_le (by omega) (by omega)) ?_
    show w_R_decide_33 Φ 1000 Y (nI ((2 * 2 ^ j) * B)) (nI (2 ^ j)) (nI 0) H
    have r0 : relW L j B (dwN P Q (2 ^ j) (2 ^ L) ((2 * 2 ^ j) * B + 0)) Co Go := by
      intro q hqw hqB
      have f := dwN_fresh hL hj k b (B := B) (by omega) hqB
      have l1 : (2 * 2 ^ j) * B ≤ q := by rw [← hqB]; exact Nat.mul_div_le q _
      have l2 : q < (2 * 2 ^ j) * (B + 1) := by rw [← hqB]; exact Nat.lt_mul_div_succ q p0
      have z := hq q l1 l2
      rw [Nat.add_zero, f.1, f.2.1, f.2.2, z.1, z.2]
      exact ⟨rfl, fun q => absurd q (by decide), fun q => by cases q⟩
    refine bs_for (σ := bs_H) (fun v z K => w_R_decide_33 Φ v Y (nI ((2 * 2 ^ j) * B)) (nI (2 ^ j)) (nI z) K) (fun z K => offW Y h K ∧ ∃ Co Go, qW Y th w n kc K W Lt Co Go Fi La ∧ relW L j B (dwN P Q (2 ^ j) (2 ^ L) ((2 * 2 ^ j) * B + z)) Co Go) (2 ^ j) ?_ ?_ (2 ^ j) 0 H 1000 (by omega) (by omega) ⟨oH, Co, Go, pH, r0⟩
    · rintro v z K hz ⟨oK, Co, Go, pK, rK⟩ nx
      have dk := (dwN_ok hL hj k ((2 * 2 ^ j) * B + z) (by omega)).1
      refine bs_iff (nI_ge hz (by omega)) (s_R_decide41 (a := (2 * 2 ^ j) * B + z) hL hj k b hB hW z (2 ^ L) z 1000 _ Co Go K (by omega) (by omega) ⟨dk.1.start (by omega), dk.2⟩ (by omega) pK rK (fun h' Co' Go' p' r' o' => ?_))
      rw [← nI_succ]
      refine nx h' ⟨oK.trans o', Co', Go', p', ?_⟩
      show relW L j B (dwN P Q (2 ^ j) (2 ^ L) (((2 * 2 ^ j) * B + z) + 1)) Co' Go'
      have hz0 : ((2 * 2 ^ j) * B + z) &&& 2 ^ j = 0 := by
        rw [(xo_b j (by omega) ((2 * 2 ^ j) * B + z) (by omega)).1, Nat.mul_add_mod, Nat.mod_eq_of_lt (by omega)]
        exact hz
      rw [dwN, if_pos hz0]
      exact r'
    · rintro v K ⟨oK, Co, Go, pK, rK⟩
      refine bs_ift (nI_le (by omega) (by omega)) (ko K Co Go pK (fun q hqw hqB => ?_) oK)
      have hf := dwN_half (P := P) (Q := Q) hL hj hB (2 ^ j) (Nat.le_refl _)
      have dn := dwN_done hL hj k b hB hqB
      have e2 : (2 * 2 ^ j) * (B + 1) = (2 * 2 ^ j) * B + 2 ^ j + 2 ^ j := by omega
      rw [e2, hf] at dn
      have := rK q hqw hqB
      rw [dn.1, dn.2.1, dn.2.2]
      exact this
end WR
