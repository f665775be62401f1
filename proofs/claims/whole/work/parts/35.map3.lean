/-! The class's map: copy, join, inverse. -/
theorem inj_surj : ∀ (w : Nat) (f : Nat → Nat), (∀ k, k < w → f k < w) → (∀ i j, i < w → j < w → f i = f j → i = j) → ∀ y, y < w → ∃ k, k < w ∧ f k = y := by
  intro w
  induction w with
  | zero => intro f _ _ y hy; omega
  | succ w ih =>
    intro f hlt hinj y hy
    have hw := hlt w (by omega)
    have hlt' : ∀ k, k < w → (if f k = w then f w else f k) < w := by
      intro k hk
      by_cases h : f k = w
      · rw [if_pos h]
        have : f w ≠ w := fun e => by have := hinj k w (by omega) (by omega) (h.trans e.symm); omega
        omega
      · rw [if_neg h]
        have := hlt k (by omega)
        omega
    have hinj' : ∀ i j, i < w → j < w → (if f i = w then f w else f i) = (if f j = w then f w else f j) → i = j := by
      intro i j hi hj h
      by_cases h1 : f i = w <;> by_cases h2 : f j = w
      · exact hinj i j (by omega) (by omega) (h1.trans h2.symm)
      · rw [if_pos h1, if_neg h2] at h
        have := hinj w j (by omega) (by omega) h
        omega
      · rw [if_neg h1, if_pos h2] at h
        have := hinj i w (by omega) (by omega) h
        omega
      · rw [if_neg h1, if_neg h2] at h
        exact hinj i j (by omega) (by omega) h
    have hs := ih (fun k => if f k = w then f w else f k) hlt' hinj'
    by_cases hyc : f w = y
    · exact ⟨w, by omega, hyc⟩
    · by_cases hyw : y = w
      · obtain ⟨k, hk, he⟩ := hs (f w) (by omega)
        by_cases h1 : f k = w
        · exact ⟨k, by omega, by rw [hyw]; exact h1⟩
        · simp only [if_neg h1] at he
          have := hinj k w (by omega) (by omega) he
          omega
      · obtain ⟨k, hk, he⟩ := hs y (by omega)
        by_cases h1 : f k = w
        · simp only [if_pos h1] at he
          exact absurd he hyc
        · simp only [if_neg h1] at he
          exact ⟨k, by omega, he⟩
/-- the last place below w at which f is y -/
def idxN (f : Nat → Nat) : Nat → Nat → Nat
  | 0, _ => 0
  | k + 1, y => if f k = y then k else idxN f k y
theorem idxN_lt (f : Nat → Nat) (w y : Nat) (hw : 0 < w) : idxN f w y < w := by
  induction w with
  | zero => omega
  | succ w ih =>
    unfold idxN
    by_cases h : f w = y
    · rw [if_pos h]; omega
    · rw [if_neg h]
      by_cases hw0 : w = 0
      · subst hw0; simp [idxN]
      · have := ih (by omega); omega
theorem idxN_at {f : Nat → Nat} {w y k : Nat} (hk : k < w) (he : f k = y) : f (idxN f w y) = y := by
  induction w with
  | zero => omega
  | succ w ih =>
    unfold idxN
    by_cases h : f w = y
    · rw [if_pos h]; exact h
    · rw [if_neg h]
      refine ih ?_
      by_cases hkw : k = w
      · subst hkw; exact absurd he h
      · omega
/-- from the word below w, and no two alike: hit by every place -/
theorem perm_all {f : Nat → Nat} {w : Nat} (hf : ∀ k, k < w → f k < w ∨ f k = 64 ∨ f k = 65) (h : permB f w = true) : (∀ k, k < w → f k < w) ∧ (∀ i j, i < w → j < w → f i = f j → i = j) ∧ ∀ y, y < w → ∃ k, k < w ∧ f k = y := by
  have h1 := (permB_iff f w).mp h
  have a : ∀ k, k < w → f k < w := by
    intro k hk
    have := (h1 k hk).1
    rcases hf k hk with h2 | h2 | h2 <;> omega
  have b : ∀ i j, i < w → j < w → f i = f j → i = j := by
    intro i j hi hj he
    rcases Nat.lt_trichotomy i j with h2 | h2 | h2
    · exact absurd he ((h1 j hj).2 i h2)
    · exact h2
    · exact absurd he.symm ((h1 i hi).2 j h2)
  exact ⟨a, b, inj_surj w f a b⟩
section SM3
variable {Φ : bs_R → bs_H → Prop} {h : bs_H} {a b c w : Nat} {f f1 f2 : Nat → Nat} {g g1 g2 : Nat → Int32}
theorem s_M_becomeCopy {v v' : Int32} (p : pM h a v g) (q : pM h c v' g1) (hap : a + 1 < c ∨ c + 1 < a) (k : ∀ G : Nat → Int32, (∀ i, i < 64 → G i = g1 i) → Φ (.ok none) (bs_set (bs_set h a (bs_obj 1 [.ref (a + 1), .int v'])) (a + 1) (bs_ia 64 G))) : w_M_becomeCopy Φ a c h := by
  refine bs_fI_i q.1 rfl (bs_p_i p.1 (by simp) rfl ?_)
  refine bs_fA_i (by rw [bs_set_ne (by omega)]; exact q.1) rfl (bs_fA_i bs_set_eq rfl ?_)
  refine ⟨64, g1, 64, g, by rw [bs_set_ne (by omega)]; exact q.2, by rw [bs_set_ne (by omega)]; exact p.2, by omega, by decide, by decide, by decide, by decide, by decide, ?_⟩
  refine k _ (fun i hi => ?_)
  rw [pk_cpy_in (by show 0 ≤ i; omega) (by show i < 0 + 64; omega)]
  show g1 (0 + (i - 0)) = g1 i
  rw [Nat.zero_add, Nat.sub_zero]
theorem s_M_becomeJoined {v v1 : Int32} (hw : w ≤ 64) (p : pM h a v g) (q : pM h b v1 g1) (r : pM h c (nI w) g2) (hab : a + 1 < b ∨ b + 1 < a) (hac : a + 1 < c ∨ c + 1 < a) (hg2 : gM w f2 g2) (hg1 : ∀ i, i < w → f2 i < 64 → g1 (f2 i) = nI (f1 (f2 i)))
    (k : ∀ G : Nat → Int32, (∀ i, i < w → G i = nI (if f2 i < 64 then f1 (f2 i) else f2 i)) → Φ (.ok none) (bs_set (bs_set h a (bs_obj 1 [.ref (a + 1), .int (nI w)])) (a + 1) (bs_ia 64 G))) : w_M_becomeJoined Φ a b c h := by
  refine bs_fI_i r.1 rfl (bs_p_i p.1 (by simp) rfl ?_)
  have e : bs_set (bs_set h a (bs_obj 1 [.ref (a + 1), .int (nI w)])) (a + 1) (bs_ia 64 g) = bs_set h a (bs_obj 1 [.ref (a + 1), .int (nI w)]) := bs_set_get (by rw [bs_set_ne (by omega)]; exact p.2)
  show w_M_becomeJoined_10 Φ 1000 a b c (nI 0) (bs_set h a (bs_obj 1 [.ref (a + 1), .int (nI w)]))
  rw [← e]
  refine bs_for (σ := Nat → Int32) (fun n j G => w_M_becomeJoined_10 Φ n a b c (nI j) (bs_set (bs_set h a (bs_obj 1 [.ref (a + 1), .int (nI w)])) (a + 1) (bs_ia 64 G))) (fun j G => ∀ i, i < j → G i = nI (if f2 i < 64 then f1 (f2 i) else f2 i)) w ?_ ?_ w 0 g 1000 (by omega) (by omega) (fun i hi => by omega)
  · intro n j G hj hG nx
    have hgj := hg2 j hj
    have p1 : pM (bs_set (bs_set h a (bs_obj 1 [.ref (a + 1), .int (nI w)])) (a + 1) (bs_ia 64 G)) a (nI w) G := p.set _ _
    have q1 : pM (bs_set (bs_set h a (bs_obj 1 [.ref (a + 1), .int (nI w)])) (a + 1) (bs_ia 64 G)) b v1 g1 := (q.off (by omega) (by omega)).off (by omega) (by omega)
    have r1 : pM (bs_set (bs_set h a (bs_obj 1 [.ref (a + 1), .int (nI w)])) (a + 1) (bs_ia 64 G)) c (nI w) g2 := (r.off (by omega) (by omega)).off (by omega) (by omega)
    have fin : ∀ x : Int32, x = nI (if f2 j < 64 then f1 (f2 j) else f2 j) → w_M_becomeJoined_51 Φ (w_M_becomeJoined_10 Φ n) a b c (nI j) (a + 1) (nI j) x (bs_set (bs_set h a (bs_obj 1 [.ref (a + 1), .int (nI w)])) (a + 1) (bs_ia 64 G)) := by
      intro x hx
      refine bs_sI_i j p1.2 rfl (by omega) (by decide) ?_
      rw [bs_set_set, ← nI_succ]
      refine nx _ (fun i hi => ?_)
      by_cases hij : i = j
      · subst hij; rw [bs_up_eq]; exact hx
      · rw [bs_up_ne _ _ hij]; exact hG i (by omega)
    refine bs_fI_i p1.1 rfl (bs_iff (nI_ge (by omega) (by omega)) (bs_fA_i p1.1 rfl ⟨⟨_, r1.1⟩, s_M_cfw r1 (by omega) hgj.1 hgj.2 (bs_kI_i (bs_ifz (fun hc => ?_) (fun hc => ?_)))⟩))
    · have hc := of_decide_eq_false hc
      refine bs_fA_i r1.1 rfl (bs_lI_i j r1.2 rfl (by omega) (by decide) (fin _ ?_))
      rw [if_neg hc]; exact hgj.1
    · have hc := of_decide_eq_true hc
      refine bs_fA_i q1.1 rfl (bs_fA_i r1.1 rfl (bs_lI_i j r1.2 rfl (by omega) (by decide) (bs_lI_i (f2 j) q1.2 hgj.1 hc (by decide) (fin _ ?_))))
      rw [if_pos hc]; exact hg1 j hj hc
  · intro n G hG
    refine bs_fI_i (p.set (nI w) G).1 rfl (bs_ift (nI_le (by omega) (by omega)) (k G hG))
theorem s_M_becomeInverse {v : Int32} (hw : w ≤ 64) (p : pM h a v g) (r : pM h c (nI w) g2) (hac : a + 1 < c ∨ c + 1 < a) (hg2 : gM w f g2) (hlt : ∀ i, i < w → f i < w)
    (k : ∀ G : Nat → Int32, (∀ i, i < w → (∃ j, j < w ∧ f j = i) → G i = nI (idxN f w i)) → Φ (.ok none) (bs_set (bs_set h a (bs_obj 1 [.ref (a + 1), .int (nI w)])) (a + 1) (bs_ia 64 G))) : w_M_becomeInverse Φ a c h := by
  refine bs_fI_i r.1 rfl (bs_p_i p.1 (by simp) rfl ?_)
  have e : bs_set (bs_set h a (bs_obj 1 [.ref (a + 1), .int (nI w)])) (a + 1) (bs_ia 64 g) = bs_set h a (bs_obj 1 [.ref (a + 1), .int (nI w)]) := bs_set_get (by rw [bs_set_ne (by omega)]; exact p.2)
  show w_M_becomeInverse_10 Φ 1000 a c (nI 0) (bs_set h a (bs_obj 1 [.ref (a + 1), .int (nI w)]))
  rw [← e]
  refine bs_for (σ := Nat → Int32) (fun n j G => w_M_becomeInverse_10 Φ n a c (nI j) (bs_set (bs_set h a (bs_obj 1 [.ref (a + 1), .int (nI w)])) (a + 1) (bs_ia 64 G))) (fun j G => ∀ i, i < w → (∃ z, z < j ∧ f z = i) → G i = nI (idxN f j i)) w ?_ ?_ w 0 g 1000 (by omega) (by omega) (fun i hi hz => by obtain ⟨z, hz, -⟩ := hz; omega)
  · intro n j G hj hG nx
    have hgj := hg2 j hj
    have hfj := hlt j hj
    have p1 : pM (bs_set (bs_set h a (bs_obj 1 [.ref (a + 1), .int (nI w)])) (a + 1) (bs_ia 64 G)) a (nI w) G := p.set _ _
    have r1 : pM (bs_set (bs_set h a (bs_obj 1 [.ref (a + 1), .int (nI w)])) (a + 1) (bs_ia 64 G)) c (nI w) g2 := (r.off (by omega) (by omega)).off (by omega) (by omega)
    refine bs_fI_i p1.1 rfl (bs_iff (nI_ge (by omega) (by omega)) ⟨⟨_, r1.1⟩, s_M_cfw r1 (by omega) hgj.1 hgj.2 (bs_kI_i (bs_ifz (fun hc => ?_) (fun hc => ?_)))⟩)
    · have hc := of_decide_eq_false hc
      omega
    · refine bs_fA_i p1.1 rfl (bs_fA_i r1.1 rfl (bs_lI_i j r1.2 rfl (by omega) (by decide) (bs_sI_i (f j) p1.2 hgj.1 (by omega) (by decide) ?_)))
      rw [bs_set_set]
      show w_M_becomeInverse_10 Φ n a c (nI j + 1) _
      rw [← nI_succ]
      refine nx _ (fun i hi hz => ?_)
      unfold idxN
      by_cases hij : f j = i
      · rw [if_pos hij, ← hij, bs_up_eq]
      · rw [if_neg hij, bs_up_ne _ _ (fun e => hij e.symm)]
        obtain ⟨z, hz, he⟩ := hz
        refine hG i hi ⟨z, ?_, he⟩
        by_cases hzj : z = j
        · subst hzj; exact absurd he hij
        · omega
  · intro n G hG
    refine bs_fI_i (p.set (nI w) G).1 rfl (bs_ift (nI_le (by omega) (by omega)) (k G hG))
end SM3
