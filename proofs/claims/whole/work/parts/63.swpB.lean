/-! make(2) of the class. -/
def offX (a : Nat) (h h' : bs_H) : Prop := (∀ b, b < a ∨ a + 3 < b → h'.1 b = h.1 b) ∧ h'.2 = h.2
theorem offX.refl (a : Nat) (h : bs_H) : offX a h h := ⟨fun _ _ => rfl, rfl⟩
theorem offX.trans {a : Nat} {h h' h'' : bs_H} (h1 : offX a h h') (h2 : offX a h' h'') : offX a h h'' := ⟨fun b hb => (h2.1 b hb).trans (h1.1 b hb), h2.2.trans h1.2⟩
theorem offX.set {a b : Nat} {h h' : bs_H} {x : bs_E} (h1 : offX a h h') (hb : a ≤ b ∧ b ≤ a + 3) : offX a h (bs_set h' b x) := ⟨fun c hc => by rw [bs_set_ne (by omega)]; exact h1.1 c hc, h1.2⟩
theorem nI_and0 {p j : Nat} (hp : p < 64) (hj : j < 6) : (nI p &&& nI (2 ^ j) = 0) ↔ p &&& 2 ^ j = 0 := by
  have h2 : 2 ^ j < 64 := by have := pow_le64 j (by omega); have := Nat.pow_lt_pow_right (a := 2) (by omega) (show j < 6 by omega); omega
  have e := nI_bit p hp (2 ^ j) h2
  rw [e.1]; exact nI_eq (a := p &&& 2 ^ j) (b := 0) (by omega) (by decide)
theorem pow_lt64 {j : Nat} (hj : j < 6) : 2 ^ j < 64 := by have := Nat.pow_lt_pow_right (a := 2) (by omega) (show j < 6 by omega); omega
section XC
variable {Φ : bs_R → bs_H → Prop} {h : bs_H} {a w L j : Nat} {wa we : Nat → Int32} {lm : Nat → Int64} {d g c : Int64} {P Q : Nat → Nat}
theorem pX.o (p : pX h a w wa we lm d g c) (d' g' c' : Int64) : pX (bs_set h a (bs_obj 5 [.ref (a + 1), .ref (a + 2), .ref (a + 3), .int (nI w), .long d', .long g', .long c'])) a w wa we lm d' g' c' := ⟨bs_set_eq, by rw [bs_set_ne (by omega)]; exact p.2.1, by rw [bs_set_ne (by omega)]; exact p.2.2.1, by rw [bs_set_ne (by omega)]; exact p.2.2.2⟩
theorem pX.swa (p : pX h a w wa we lm d g c) (G : Nat → Int32) : pX (bs_set h (a + 1) (bs_ia 64 G)) a w G we lm d g c := ⟨by rw [bs_set_ne (by omega)]; exact p.1, bs_set_eq, by rw [bs_set_ne (by omega)]; exact p.2.2.1, by rw [bs_set_ne (by omega)]; exact p.2.2.2⟩
theorem pX.swe (p : pX h a w wa we lm d g c) (G : Nat → Int32) : pX (bs_set h (a + 2) (bs_ia 64 G)) a w wa G lm d g c := ⟨by rw [bs_set_ne (by omega)]; exact p.1, by rw [bs_set_ne (by omega)]; exact p.2.1, bs_set_eq, by rw [bs_set_ne (by omega)]; exact p.2.2.2⟩
theorem pX.slm (p : pX h a w wa we lm d g c) (G : Nat → Int64) : pX (bs_set h (a + 3) (bs_la 6 G)) a w wa we G d g c := ⟨by rw [bs_set_ne (by omega)]; exact p.1, by rw [bs_set_ne (by omega)]; exact p.2.1, by rw [bs_set_ne (by omega)]; exact p.2.2.1, bs_set_eq⟩
theorem s_X_followWays (hL : L < 7) (hj : j < L) (k : pq (2 ^ L) P Q) (hwa : ∀ p, p < 2 ^ L → wa p = nI (P p)) (hwe : ∀ p, p < 2 ^ L → we p = nI (Q p)) {S : bs_W3} (p : pX h a (2 ^ L) wa we lm S.1 S.2.1 S.2.2) {x : Nat} (hx : x < 2 ^ L) (ko : ∀ h', pX h' a (2 ^ L) wa we lm (wyN P Q (2 ^ j) (2 ^ L) x S).1 (wyN P Q (2 ^ j) (2 ^ L) x S).2.1 (wyN P Q (2 ^ j) (2 ^ L) x S).2.2 → offX a h h' → Φ (.ok none) h') : w_X_followWays Φ a (nI x) (nI (2 ^ j)) h := by
  have w64 := pow_le64 L hL
  have j64 := pow_lt64 (show j < 6 by omega)
  have lp : ∀ (u t fu x : Nat) (S : bs_W3) (h : bs_H), t + u = 2 ^ L → u < fu → x < 2 ^ L → pX h a (2 ^ L) wa we lm S.1 S.2.1 S.2.2 → (∀ h', pX h' a (2 ^ L) wa we lm (wyN P Q (2 ^ j) u x S).1 (wyN P Q (2 ^ j) u x S).2.1 (wyN P Q (2 ^ j) u x S).2.2 → offX a h h' → Φ (.ok none) h') → w_X_followWays_5 Φ fu a (nI (2 ^ j)) (nI x) (nI t) h := by
    intro u
    induction u with
    | zero =>
      intro t fu x S h ht hfu hx p ko
      obtain ⟨fu, rfl⟩ : ∃ fu', fu = fu' + 1 := ⟨fu - 1, by omega⟩
      exact bs_fI_i p.1 rfl (bs_ift (nI_le (by omega) (by omega)) (ko h p (offX.refl a h)))
    | succ u ih =>
      intro t fu x S h ht hfu hx p ko
      obtain ⟨fu, rfl⟩ : ∃ fu', fu = fu' + 1 := ⟨fu - 1, by omega⟩
      refine bs_fI_i p.1 rfl (bs_iff (nI_ge (by omega) (by omega)) (bs_fL_i p.1 rfl (s_B_holds (by omega) (bs_kI_i (bs_ifz (fun hb => ?_) (fun hb => ?_))))))
      · have en : wyN P Q (2 ^ j) (u + 1) x S = wyN P Q (2 ^ j) u (Q (P x ^^^ 2 ^ j) ^^^ 2 ^ j) (wy1 P Q (2 ^ j) x S) := by rw [wyN, if_neg (by rw [hb]; exact (fun q => by cases q))]
        rw [en] at ko
        obtain ⟨a1, a2, a3, a4⟩ := k x hx
        obtain ⟨b1, b2, b3, b4⟩ := xo_i L hL j hj _ a1
        obtain ⟨c1, c2, c3, c4⟩ := k _ b1
        obtain ⟨d1, d2, d3, d4⟩ := xo_i L hL j hj _ c2
        have e1 := (nI_bit (P x) (by omega) (2 ^ j) j64).2.1
        have e2 := (nI_bit (Q (P x ^^^ 2 ^ j)) (by omega) (2 ^ j) j64).2.1
        refine bs_fA_i p.1 rfl (bs_lI_i x p.2.1 rfl (by omega) (by decide) (bs_fA_i p.1 rfl ?_))
        rw [hwa x hx, e1]
        refine bs_lI_i (P x ^^^ 2 ^ j) p.2.2.1 rfl (by omega) (by decide) ?_
        rw [hwe _ b1, e2]
        refine bs_fL_i p.1 rfl (bs_p_i p.1 (by simp) rfl ?_)
        have p1 := p.o S.1 (S.2.1 ||| bs_shl 1 (nI (P x ^^^ 2 ^ j))) S.2.2
        refine bs_fL_i p1.1 rfl (bs_p_i p1.1 (by simp) rfl ?_)
        have p2 := p1.o S.1 (S.2.1 ||| bs_shl 1 (nI (P x ^^^ 2 ^ j))) (S.2.2 ||| bs_shl 1 (nI (Q (P x ^^^ 2 ^ j))))
        refine bs_fL_i p2.1 rfl (bs_p_i p2.1 (by simp) rfl ?_)
        have p3 := p2.o (wy1 P Q (2 ^ j) x S).1 (wy1 P Q (2 ^ j) x S).2.1 (wy1 P Q (2 ^ j) x S).2.2
        rw [← nI_succ]
        exact ih (t + 1) fu _ (wy1 P Q (2 ^ j) x S) _ (by omega) (by omega) d1 p3 (fun h' p' o' => ko h' p' (((((offX.refl a h).set (by omega)).set (by omega)).set (by omega)).trans o'))
      · have en : wyN P Q (2 ^ j) (u + 1) x S = S := by rw [wyN, if_pos hb]
        rw [en] at ko
        exact ko h p (offX.refl a h)
  exact lp (2 ^ L) 0 1000 x S h (by omega) (by omega) hx p ko
theorem s_X_decideWays (hL : L < 7) (hj : j < L) (k : pq (2 ^ L) P (idxN P (2 ^ L))) (hwa : ∀ p, p < 2 ^ L → wa p = nI (P p)) (p : pX h a (2 ^ L) wa we lm d g c) (ko : ∀ h' we', pX h' a (2 ^ L) wa we' lm (dwN P (idxN P (2 ^ L)) (2 ^ j) (2 ^ L) (2 ^ L)).1 (dwN P (idxN P (2 ^ L)) (2 ^ j) (2 ^ L) (2 ^ L)).2.1 (dwN P (idxN P (2 ^ L)) (2 ^ j) (2 ^ L) (2 ^ L)).2.2 → offX a h h' → Φ (.ok none) h') : w_X_decideWays Φ a (nI (2 ^ j)) h := by
  have w64 := pow_le64 L hL
  refine bs_p_i p.1 (by simp) rfl ?_
  have p1 := p.o 0 g c
  refine bs_p_i p1.1 (by simp) rfl ?_
  have p2 := p1.o 0 0 c
  refine bs_p_i p2.1 (by simp) rfl ?_
  have p3 := p2.o 0 0 0
  have o3 : offX a h (bs_set (bs_set (bs_set h a (bs_obj 5 [.ref (a + 1), .ref (a + 2), .ref (a + 3), .int (nI (2 ^ L)), .long 0, .long g, .long c])) a (bs_obj 5 [.ref (a + 1), .ref (a + 2), .ref (a + 3), .int (nI (2 ^ L)), .long 0, .long 0, .long c])) a (bs_obj 5 [.ref (a + 1), .ref (a + 2), .ref (a + 3), .int (nI (2 ^ L)), .long 0, .long 0, .long 0])) := (((offX.refl a h).set (by omega)).set (by omega)).set (by omega)
  show w_X_decideWays_17 Φ 1000 a (nI (2 ^ j)) (nI 0) (bs_set (bs_set (bs_set h a (bs_obj 5 [.ref (a + 1), .ref (a + 2), .ref (a + 3), .int (nI (2 ^ L)), .long 0, .long g, .long c])) a (bs_obj 5 [.ref (a + 1), .ref (a + 2), .ref (a + 3), .int (nI (2 ^ L)), .long 0, .long 0, .long c])) a (bs_obj 5 [.ref (a + 1), .ref (a + 2), .ref (a + 3), .int (nI (2 ^ L)), .long 0, .long 0, .long 0]))
  generalize bs_set (bs_set (bs_set h a (bs_obj 5 [.ref (a + 1), .ref (a + 2), .ref (a + 3), .int (nI (2 ^ L)), .long 0, .long g, .long c])) a (bs_obj 5 [.ref (a + 1), .ref (a + 2), .ref (a + 3), .int (nI (2 ^ L)), .long 0, .long 0, .long c])) a (bs_obj 5 [.ref (a + 1), .ref (a + 2), .ref (a + 3), .int (nI (2 ^ L)), .long 0, .long 0, .long 0]) = h3 at p3 o3 ⊢
  refine bs_for (σ := bs_H) (fun u z H => w_X_decideWays_17 Φ u a (nI (2 ^ j)) (nI z) H) (fun z H => offX a h H ∧ ∃ G, pX H a (2 ^ L) wa G lm 0 0 0 ∧ ∀ i, i < 2 ^ L → (∃ y, y < z ∧ P y = i) → G i = nI (idxN P z i)) (2 ^ L) ?_ ?_ (2 ^ L) 0 h3 1000 (by omega) (by omega) ⟨o3, we, p3, fun i _ hy => by obtain ⟨y, hy, _⟩ := hy; omega⟩
  · rintro u z H hz ⟨oH, G, pH, hG⟩ nx
    have hP := (k z hz).1
    refine bs_fI_i pH.1 rfl (bs_iff (nI_ge hz (by omega)) (bs_fA_i pH.1 rfl (bs_fA_i pH.1 rfl (bs_lI_i z pH.2.1 rfl (by omega) (by decide) ?_))))
    rw [hwa z hz]
    refine bs_sI_i (P z) pH.2.2.1 rfl (by omega) (by decide) ?_
    rw [← nI_succ]
    refine nx _ ⟨oH.set (by omega), _, pH.swe (va_up G (P z) (nI z)), fun i hi hy => ?_⟩
    rw [idxN]
    by_cases e : P z = i
    · subst e; rw [if_pos rfl, bs_up_eq]
    · rw [if_neg e, bs_up_ne _ _ (fun q => e q.symm)]
      obtain ⟨y, hy, hyi⟩ := hy
      exact hG i hi ⟨y, by rcases Nat.lt_or_ge y z with q | q; exact q; exact absurd (by rw [show z = y by omega]; exact hyi) e, hyi⟩
  · rintro u H ⟨oH, G, pH, hG⟩
    have hwe : ∀ p, p < 2 ^ L → G p = nI (idxN P (2 ^ L) p) := fun q hq => hG q hq ⟨_, (k q hq).2.1, (k q hq).2.2.2⟩
    refine bs_fI_i pH.1 rfl (bs_ift (nI_le (by omega) (by omega)) ?_)
    show w_X_decideWays_45 Φ 1000 a (nI (2 ^ j)) (nI 0) H
    refine bs_for (σ := bs_H) (fun u z K => w_X_decideWays_45 Φ u a (nI (2 ^ j)) (nI z) K) (fun z K => offX a h K ∧ pX K a (2 ^ L) wa G lm (dwN P (idxN P (2 ^ L)) (2 ^ j) (2 ^ L) z).1 (dwN P (idxN P (2 ^ L)) (2 ^ j) (2 ^ L) z).2.1 (dwN P (idxN P (2 ^ L)) (2 ^ j) (2 ^ L) z).2.2) (2 ^ L) ?_ ?_ (2 ^ L) 0 H 1000 (by omega) (by omega) ⟨oH, pH⟩
    · rintro u z K hz ⟨oK, pK⟩ nx
      refine bs_fI_i pK.1 rfl (bs_iff (nI_ge hz (by omega)) (bs_ife (nI_and0 (by omega) (by omega)) (fun hb => ⟨⟨_, pK.1⟩, s_X_followWays hL hj k hwa hwe pK hz (fun h' p' o' => bs_kV_i ?_)⟩) (fun hb => ?_)))
      · show w_X_decideWays_45 Φ u a (nI (2 ^ j)) (nI z + 1) h'
        rw [← nI_succ]
        refine nx h' ⟨oK.trans o', ?_⟩
        rw [dwN, if_pos hb]; exact p'
      · show w_X_decideWays_45 Φ u a (nI (2 ^ j)) (nI z + 1) K
        rw [← nI_succ]
        refine nx K ⟨oK, ?_⟩
        rw [dwN, if_neg hb]; exact pK
    · rintro u K ⟨oK, pK⟩
      exact bs_fI_i pK.1 rfl (bs_ift (nI_le (by omega) (by omega)) (ko K G pK oK))
/-- the lower place of a pair -/
def lwN (hh q : Nat) : Nat := if q &&& hh = 0 then q else q ^^^ hh
theorem s_X_divideBlocks (hL : L < 7) (hj : j < L) (k : pq (2 ^ L) P Q) (hwa : ∀ p, p < 2 ^ L → wa p = nI (P p)) (p : pX h a (2 ^ L) wa we lm d g c) (ko : ∀ h' wa', (∀ p, p < 2 ^ L → wa' p = nI (dvP P c (2 ^ j) p)) → pX h' a (2 ^ L) wa' we lm d g c → offX a h h' → Φ (.ok none) h') : w_X_divideBlocks Φ a (nI (2 ^ j)) h := by
  have w64 := pow_le64 L hL
  have j64 := pow_lt64 (show j < 6 by omega)
  show w_X_divideBlocks_2 Φ 1000 a (nI (2 ^ j)) (nI 0) h
  refine bs_for (σ := bs_H) (fun u z H => w_X_divideBlocks_2 Φ u a (nI (2 ^ j)) (nI z) H) (fun z H => offX a h H ∧ ∃ G, pX H a (2 ^ L) G we lm d g c ∧ ∀ q, q < 2 ^ L → G q = nI (if lwN (2 ^ j) q < z then dvP P c (2 ^ j) q else P q)) (2 ^ L) ?_ ?_ (2 ^ L) 0 h 1000 (by omega) (by omega) ⟨offX.refl a h, wa, p, fun q hq => by rw [if_neg (Nat.not_lt_zero _)]; exact hwa q hq⟩
  · rintro u z H hz ⟨oH, G, pH, hG⟩ nx
    obtain ⟨x1, x2, x3, x4⟩ := xo_i L hL j hj z hz
    have xb := (xo_b j (by omega) z (by omega))
    refine bs_fI_i pH.1 rfl (bs_iff (nI_ge hz (by omega)) (bs_ife (nI_and0 (by omega) (by omega)) (fun hb => ?_) (fun hb => ?_)))
    · have ex := (nI_bit z (by omega) (2 ^ j) j64).2.1
      have lz : lwN (2 ^ j) z = z := if_pos hb
      have lx : lwN (2 ^ j) (z ^^^ 2 ^ j) = z := by unfold lwN; rw [if_neg (fun q => (xb.2.2.mp q) hb), x2]
      have gz := hG z hz
      have gx := hG _ x1
      rw [lz, if_neg (Nat.lt_irrefl z)] at gz
      rw [lx, if_neg (Nat.lt_irrefl z)] at gx
      have hnb : ¬ (z ^^^ 2 ^ j) &&& 2 ^ j = 0 := fun q => (xb.2.2.mp q) hb
      -- the last part, for both ways
      have fin : ∀ r s : Nat, r = selN c (2 ^ j) z → s = selN c (2 ^ j) (z ^^^ 2 ^ j) → r < 2 ^ L → s < 2 ^ L → G r = nI (P r) → G s = nI (P s) → w_X_divideBlocks_58 Φ (w_X_divideBlocks_2 Φ u) a (nI (2 ^ j)) (nI z) (G r) (a + 1) (nI s) H := by
        intro r s hr hs hr2 hs2 er es
        have q1 := xo_I j (by omega) (P r) (by have := (k r hr2).1; omega)
        have q2 := xo_I j (by omega) (P s) (by have := (k s hs2).1; omega)
        refine bs_lI_i s pH.2.1 rfl (by omega) (by decide) (bs_fA_i pH.1 rfl (bs_sI_i z pH.2.1 rfl (by omega) (by decide) ?_))
        have p1 := pH.swa (va_up G z (G r &&& (nI (2 ^ j) ^^^ (-1))))
        refine bs_fA_i p1.1 rfl (bs_sI_i (z ^^^ 2 ^ j) p1.2.1 ex (by omega) (by decide) ?_)
        have p2 := p1.swa (va_up (va_up G z (G r &&& (nI (2 ^ j) ^^^ (-1)))) (z ^^^ 2 ^ j) (G s ||| nI (2 ^ j)))
        show w_X_divideBlocks_2 Φ u a (nI (2 ^ j)) (nI z + 1) _
        rw [← nI_succ]
        refine nx _ ⟨(oH.set (by omega)).set (by omega), _, p2, fun q hq => ?_⟩
        by_cases e1 : q = z ^^^ 2 ^ j
        · subst e1
          rw [bs_up_eq, es, q2.2, lx, if_pos (by omega), hs]
          unfold dvP
          rw [if_neg hnb]
        · rw [bs_up_ne _ _ e1]
          by_cases e2 : q = z
          · subst e2
            rw [bs_up_eq, er, q1.1, lz, if_pos (by omega), hr]
            unfold dvP
            rw [if_pos hb]
          · rw [bs_up_ne _ _ e2, hG q hq]
            have : lwN (2 ^ j) q ≠ z := by
              unfold lwN
              by_cases e3 : q &&& 2 ^ j = 0
              · rw [if_pos e3]; exact e2
              · rw [if_neg e3]
                intro q3
                apply e1
                rw [← q3, (xo_i L hL j hj q hq).2.1]
            have e4 : (lwN (2 ^ j) q < z + 1) ↔ (lwN (2 ^ j) q < z) := by omega
            simp only [e4]
      have f1 : lb c z = true → selN c (2 ^ j) z = z ^^^ 2 ^ j ∧ selN c (2 ^ j) (z ^^^ 2 ^ j) = z := by
        intro hc
        unfold selN
        rw [if_pos hb, if_pos hc, if_neg hnb, x2, if_pos hc]
        exact ⟨rfl, rfl⟩
      have f2 : lb c z = false → selN c (2 ^ j) z = z ∧ selN c (2 ^ j) (z ^^^ 2 ^ j) = z ^^^ 2 ^ j := by
        intro hc
        have hc' : ¬ lb c z = true := by rw [hc]; exact (fun q => by cases q)
        unfold selN
        rw [if_pos hb, if_neg hc', if_neg hnb, x2, if_neg hc']
        exact ⟨rfl, rfl⟩
      refine bs_fL_i pH.1 rfl (s_B_holds (by omega) (bs_kI_i (bs_fA_i pH.1 rfl (bs_ifz (fun hc => ?_) (fun hc => ?_)))))
      · refine bs_lI_i z pH.2.1 rfl (by omega) (by decide) (bs_fA_i pH.1 rfl ?_)
        rw [hc]
        refine bs_ift rfl ?_
        rw [ex]
        exact fin z (z ^^^ 2 ^ j) (f2 hc).1.symm (f2 hc).2.symm hz x1 gz gx
      · refine bs_lI_i (z ^^^ 2 ^ j) pH.2.1 ex (by omega) (by decide) (bs_fA_i pH.1 rfl ?_)
        rw [hc]
        refine bs_iff (by decide) ?_
        exact fin (z ^^^ 2 ^ j) z (f1 hc).1.symm (f1 hc).2.symm x1 hz gx gz
    · show w_X_divideBlocks_2 Φ u a (nI (2 ^ j)) (nI z + 1) H
      rw [← nI_succ]
      refine nx H ⟨oH, G, pH, fun q hq => ?_⟩
      rw [hG q hq]
      have : lwN (2 ^ j) q ≠ z := by
        unfold lwN
        by_cases e3 : q &&& 2 ^ j = 0
        · rw [if_pos e3]; intro e; rw [e] at e3; exact hb e3
        · rw [if_neg e3]
          intro e
          have := (xo_b j (by omega) q (by omega)).2.2.mpr e3
          rw [e] at this
          exact hb this
      have e4 : (lwN (2 ^ j) q < z + 1) ↔ (lwN (2 ^ j) q < z) := by omega
      simp only [e4]
  · rintro u H ⟨oH, G, pH, hG⟩
    refine bs_fI_i pH.1 rfl (bs_ift (nI_le (by omega) (by omega)) (ko H G (fun q hq => ?_) pH oH))
    rw [hG q hq, if_pos]
    unfold lwN
    split
    · exact hq
    · exact (xo_i L hL j hj q hq).1
end XC
