/-! make(2): the program. -/
def spF (L : Nat) (f : Nat → Nat) (i : Nat) : Int64 := loP (2 ^ L) (2 ^ (L - 1 - i)) (spS L f i).2.1
def spL (L : Nat) (f : Nat → Nat) (i : Nat) : Int64 := loP (2 ^ L) (2 ^ (L - 1 - i)) (spS L f i).2.2
def m2a (L : Nat) (f : Nat → Nat) (st : bs_St) : Nat → bs_Pr
  | 0 => (0, st)
  | k + 1 => puSwap (m2a L f st k) (nI (2 ^ (L - 1 - k))) (spF L f k)
def m2b (L : Nat) (f : Nat → Nat) (st : bs_St) : Nat → bs_Pr
  | 0 => m2a L f st L
  | k + 1 => puSwap (m2b L f st k) (nI (2 ^ k)) (spL L f (L - 1 - k))
def lgN (w : Nat) : Nat := if w = 1 then 0 else if w = 2 then 1 else if w = 4 then 2 else if w = 8 then 3 else if w = 16 then 4 else if w = 32 then 5 else 6
theorem lgN_is : ∀ w, w < 65 → pw2 w = true → 2 ^ lgN w = w ∧ lgN w < 7 := by decide +kernel
def mk2 (w : Nat) (f : Nat → Nat) (st : bs_St) : bs_Pr := pu (m2b (lgN w) f st (lgN w)) (6, 0, 0)
theorem loP_at {w hh : Nat} {x : Int64} (hw : w ≤ 64) {k : Nat} (hk : k < 64) : lb (loP w hh x) k = (decide (k < w) && (decide (k &&& hh = 0) && lb x k)) := lb_of_at _ hk w hw
theorem pw_I : ∀ j, j < 6 → (nI (2 ^ j)).toInt = 2 ^ j ∧ (nI (2 ^ j)).toNatClampNeg = 2 ^ j := by decide +kernel
theorem fit_lo {L j : Nat} (hL : L < 7) (hj : j < L) (x : Int64) : fitsB (2 ^ L) 5 (nI (2 ^ j)) (loP (2 ^ L) (2 ^ j) x) = true := by
  have w64 := pow_le64 L hL
  have e := pw_I j (by omega)
  have lt : 2 ^ j < 2 ^ L := Nat.pow_lt_pow_right (by omega) hj
  have p0 : 0 < 2 ^ j := Nat.two_pow_pos j
  show swB (2 ^ L) (nI (2 ^ j)) (loP (2 ^ L) (2 ^ j) x) = true
  unfold swB
  rw [e.1, e.2, Bool.and_eq_true, Bool.and_eq_true, Bool.and_eq_true, inW_iff, swP_iff]
  refine ⟨⟨⟨?_, ?_⟩, fun k hk hw => ?_⟩, fun k hk hl => ?_⟩
  · rw [decide_eq_true_eq]
    have : (0 : Int) < ((2 ^ j : Nat) : Int) := by omega
    simpa using this
  · rw [decide_eq_true_eq]
    have : ((2 ^ j : Nat) : Int) < ((2 ^ L : Nat) : Int) := by omega
    simpa using this
  · rw [loP_at w64.2 hk]
    have : ¬ k < 2 ^ L := by omega
    simp [this]
  · rw [loP_at w64.2 (by omega)] at hl
    have hb : k &&& 2 ^ j = 0 := by
      simp only [Bool.and_eq_true, decide_eq_true_eq] at hl
      exact hl.2.1
    have b := xo_b j (by omega) k (by omega)
    have i := xo_i L hL j hj k hk
    have ex : k ^^^ 2 ^ j = k + 2 ^ j := by rw [b.2.1, if_pos (b.1.mp hb)]
    rw [ex] at b i
    refine ⟨i.1, ?_⟩
    rw [loP_at w64.2 (by omega)]
    have : ¬ (k + 2 ^ j) &&& 2 ^ j = 0 := fun z => (b.2.2.mp z) hb
    simp [this]
theorem okP.swap {w : Nat} {P : bs_Pr} {d : Int32} {z : Int64} (o : okP w P) (hf : fitsB w 5 d z = true) : okP w (puSwap P d z) := by
  unfold puSwap
  by_cases h : z = 0
  · rw [if_pos h]; exact o
  · rw [if_neg h]; exact o.pu hf (opL_n (j := 5) (by omega))
theorem puSwap_n (P : bs_Pr) (d : Int32) (z : Int64) : (puSwap P d z).1 ≤ P.1 + 1 := by
  unfold puSwap
  split
  · omega
  · exact Nat.le_refl _
theorem m2a_ok {L : Nat} (hL : L < 7) (f : Nat → Nat) (st : bs_St) : ∀ k, k ≤ L → okP (2 ^ L) (m2a L f st k) ∧ (m2a L f st k).1 ≤ k := by
  intro k
  induction k with
  | zero => intro _; exact ⟨fun i hi => absurd hi (Nat.not_lt_zero i), Nat.le_refl _⟩
  | succ k ih =>
    intro hk
    obtain ⟨a, b⟩ := ih (by omega)
    exact ⟨a.swap (fit_lo hL (by omega) _), Nat.le_trans (puSwap_n _ _ _) (by omega)⟩
theorem m2b_ok {L : Nat} (hL : L < 7) (f : Nat → Nat) (st : bs_St) : ∀ k, k ≤ L → okP (2 ^ L) (m2b L f st k) ∧ (m2b L f st k).1 ≤ L + k := by
  intro k
  induction k with
  | zero => intro _; exact m2a_ok hL f st L (Nat.le_refl _)
  | succ k ih =>
    intro hk
    obtain ⟨a, b⟩ := ih (by omega)
    refine ⟨a.swap ?_, Nat.le_trans (puSwap_n _ _ _) (by omega)⟩
    have e : L - 1 - (L - 1 - k) = k := by omega
    have := fit_lo hL (show k < L by omega) (spS L f (L - 1 - k)).2.2
    unfold spL
    rw [e]; exact this
theorem mk2_ok {w : Nat} (hw : w ≤ 64) (hp : pw2 w = true) (f : Nat → Nat) (st : bs_St) : okP w (mk2 w f st) ∧ (mk2 w f st).1 ≤ 13 := by
  have e := lgN_is w (by omega) hp
  have q := m2b_ok e.2 f st (lgN w) (Nat.le_refl _)
  rw [e.1] at q
  refine ⟨q.1.pu ?_ (opL_n (j := 6) (by omega)), ?_⟩
  · show fitsB w 6 0 0 = true
    simp [fitsB]
  · show (m2b (lgN w) f st (lgN w)).1 + 1 ≤ 13
    omega
/-! a block is fresh before its turn, and stays as it is behind it -/
section FR
variable {L j : Nat} {P Q : Nat → Nat}
theorem pow_div (hj : j < L) : ∃ m, 2 ^ L = (2 * 2 ^ j) * m := ⟨2 ^ (L - (j + 1)), by rw [Nat.mul_comm 2, ← Nat.pow_succ, ← Nat.pow_add]; congr 1; omega⟩
theorem dwN_fresh (hL : L < 7) (hj : j < L) (h : pq (2 ^ L) P Q) (b : blk (2 ^ L) (2 * 2 ^ j) P) {q B : Nat} (hB : (2 * 2 ^ j) * B ≤ 2 ^ L) (hq : q / (2 * 2 ^ j) = B) : lb (dwN P Q (2 ^ j) (2 ^ L) ((2 * 2 ^ j) * B)).1 q = false ∧ lb (dwN P Q (2 ^ j) (2 ^ L) ((2 * 2 ^ j) * B)).2.1 q = false ∧ lb (dwN P Q (2 ^ j) (2 ^ L) ((2 * 2 ^ j) * B)).2.2 q = false := by
  have s := dwN_same (q := q) (p := 0) hL hj h b ((2 * 2 ^ j) * B) (by omega) (fun r _ h2 e => ?_)
  · rw [Nat.zero_add] at s
    obtain ⟨s1, s2, s3⟩ := s
    exact ⟨s1.trans (lb_0 q), s2.trans (lb_0 q), s3.trans (lb_0 q)⟩
  · have p0 : 0 < 2 * 2 ^ j := by have := Nat.two_pow_pos j; omega
    have h3 : r / (2 * 2 ^ j) < B := (Nat.div_lt_iff_lt_mul p0).mpr (by rw [Nat.mul_comm]; omega)
    omega
theorem dwN_done (hL : L < 7) (hj : j < L) (h : pq (2 ^ L) P Q) (b : blk (2 ^ L) (2 * 2 ^ j) P) {q B : Nat} (hB : (2 * 2 ^ j) * (B + 1) ≤ 2 ^ L) (hq : q / (2 * 2 ^ j) = B) : sam3 (dwN P Q (2 ^ j) (2 ^ L) ((2 * 2 ^ j) * (B + 1))) (dwN P Q (2 ^ j) (2 ^ L) (2 ^ L)) q := by
  have s := dwN_same (q := q) (p := (2 * 2 ^ j) * (B + 1)) hL hj h b (2 ^ L - (2 * 2 ^ j) * (B + 1)) (by omega) (fun r h1 _ e => ?_)
  · rw [show (2 * 2 ^ j) * (B + 1) + (2 ^ L - (2 * 2 ^ j) * (B + 1)) = 2 ^ L by omega] at s
    exact s
  · have p0 : 0 < 2 * 2 ^ j := by have := Nat.two_pow_pos j; omega
    have h3 : B + 1 ≤ r / (2 * 2 ^ j) := (Nat.le_div_iff_mul_le p0).mpr (by rw [Nat.mul_comm]; omega)
    omega
/-- from the middle of a block to its end nothing is followed -/
theorem dwN_half (hL : L < 7) (hj : j < L) {B : Nat} (hB : (2 * 2 ^ j) * (B + 1) ≤ 2 ^ L) : ∀ m, m ≤ 2 ^ j → dwN P Q (2 ^ j) (2 ^ L) ((2 * 2 ^ j) * B + 2 ^ j + m) = dwN P Q (2 ^ j) (2 ^ L) ((2 * 2 ^ j) * B + 2 ^ j) := by
  have w64 := pow_le64 L hL
  have p0 : 0 < 2 ^ j := Nat.two_pow_pos j
  have e0 : (2 * 2 ^ j) * (B + 1) = (2 * 2 ^ j) * B + 2 * 2 ^ j := by rw [Nat.mul_add, Nat.mul_one]
  intro m
  induction m with
  | zero => intro _; rfl
  | succ m ih =>
    intro hm
    show dwN P Q (2 ^ j) (2 ^ L) (((2 * 2 ^ j) * B + 2 ^ j + m) + 1) = _
    rw [dwN, if_neg, ih (by omega)]
    intro z
    have x := (xo_b j (by omega) ((2 * 2 ^ j) * B + 2 ^ j + m) (by omega)).1.mp z
    rw [Nat.add_assoc, Nat.mul_add_mod, Nat.mod_eq_of_lt (by omega)] at x
    omega
/-- the last size -/
theorem last_c (hL : L < 7) (h0 : 0 < L) (h : pq (2 ^ L) P Q) (b : blk (2 ^ L) 2 P) {B : Nat} (hB : 2 * B < 2 ^ L) : lb (dwN P Q 1 (2 ^ L) (2 ^ L)).2.2 (2 * B) = false := by
  obtain ⟨m, hm⟩ := pow_div (j := 0) h0
  have hB2 : 2 * (B + 1) ≤ 2 ^ L := by omega
  have f := dwN_fresh (j := 0) hL h0 h b (B := B) (q := 2 * B) (by omega) (by omega)
  have d := dwN_done (j := 0) hL h0 h b (B := B) (q := 2 * B) (by omega) (by omega)
  have hf := dwN_half (P := P) (Q := Q) (j := 0) hL h0 (B := B) (by omega) 1 (by omega)
  have e1 : dwN P Q 1 (2 ^ L) (2 * (B + 1)) = dwN P Q 1 (2 ^ L) (2 * B + 1) := hf
  have hz : 2 * B &&& 1 = 0 := by rw [Nat.and_one_is_mod]; omega
  have e2 : dwN P Q 1 (2 ^ L) (2 * B + 1) = wyN P Q 1 (2 ^ L) (2 * B) (dwN P Q 1 (2 ^ L) (2 * B)) := by rw [dwN, if_pos hz]
  have k := (dwN_ok (j := 0) hL h0 h (2 * B) (by omega)).1
  have r := wyN_ok (j := 0) hL h0 h (2 ^ L) (2 * B) (2 * B) _ ⟨k.1.start (by omega), k.2⟩ (by omega)
  have r4 : lb (wyN P Q 1 (2 ^ L) (2 * B) (dwN P Q 1 (2 ^ L) (2 * B))).2.2 (2 * B) = false := r.2.2.2 (.inl f.1)
  have d3 : lb (dwN P Q 1 (2 ^ L) (2 ^ L)).2.2 (2 * B) = lb (dwN P Q 1 (2 ^ L) (2 * (B + 1))).2.2 (2 * B) := d.2.2
  rw [d3, e1, e2, r4]
theorem last_g (hL : L < 7) (h0 : 0 < L) (h : pq (2 ^ L) P Q) (b : blk (2 ^ L) 2 P) {B : Nat} (hB : 2 * B < 2 ^ L) : lb (dwN P Q 1 (2 ^ L) (2 ^ L)).2.1 (2 * B) = decide (P (2 * B) % 2 = 1) := by
  have c := last_c hL h0 h b hB
  have y := dwN_ways (j := 0) hL h0 h
  obtain ⟨a1, a2, a3, a4⟩ := h (2 * B) hB
  have y1 := (y (Q (2 * B)) a2).2.2.2
  rw [a4] at y1
  have y1 : lb (dwN P Q 1 (2 ^ L) (2 ^ L)).2.1 (2 * B) = lb (dwN P Q 1 (2 ^ L) (2 ^ L)).2.2 (Q (2 * B)) := y1
  have y2 := (y (2 * B) hB).2.1
  have y2 : lb (dwN P Q 1 (2 ^ L) (2 ^ L)).2.2 (2 * B ^^^ 1) = !lb (dwN P Q 1 (2 ^ L) (2 ^ L)).2.2 (2 * B) := y2
  have w64 := pow_le64 L hL
  have x := (xo_b 0 (by omega) (2 * B) (by omega)).2.1
  have x : 2 * B ^^^ 1 = if 2 * B % 2 < 1 then 2 * B + 1 else 2 * B - 1 := x
  rw [if_pos (by omega)] at x
  rw [x, c] at y2
  have bp := b _ hB
  have bq := blk_inv h b _ hB
  have bp : P (2 * B) / 2 = 2 * B / 2 := bp
  have bq : Q (2 * B) / 2 = 2 * B / 2 := bq
  rw [y1]
  by_cases e : P (2 * B) % 2 = 1
  · have : Q (2 * B) ≠ 2 * B := by
      intro z
      rw [z] at a4
      omega
    have q : Q (2 * B) = 2 * B + 1 := by omega
    rw [q, y2, decide_eq_true e]; rfl
  · have p : P (2 * B) = 2 * B := by omega
    have q : Q (2 * B) = 2 * B := by
      rw [p] at a3; exact a3
    rw [q, c, decide_eq_false e]
end FR
theorem spL_last {L : Nat} {f : Nat → Nat} (hL : L < 7) (h0 : 0 < L) (a : ∀ k, k < 2 ^ L → f k < 2 ^ L) (b : ∀ i j, i < 2 ^ L → j < 2 ^ L → f i = f j → i = j) : spL L f (L - 1) = 0 := by
  have w64 := pow_le64 L hL
  have k := sp_ok hL a b (L - 1) (by omega)
  unfold spL
  have e : L - 1 - (L - 1) = 0 := by omega
  have e1 : 2 ^ (L - (L - 1)) = 2 := by rw [show L - (L - 1) = 1 by omega]
  rw [lb_ne0]
  intro i hi
  rw [loP_at w64.2 hi]
  cases hc : (decide (i < 2 ^ L) && (decide (i &&& 2 ^ (L - 1 - (L - 1)) = 0) && lb (spS L f (L - 1)).2.2 i)) with
  | false => rfl
  | true =>
    simp only [Bool.and_eq_true, decide_eq_true_eq] at hc
    obtain ⟨h1, h2, h3⟩ := hc
    rw [e] at h2
    have h2 : i % 2 = 0 := by rw [← Nat.and_one_is_mod]; exact h2
    have kb := k.2
    rw [e1] at kb
    have q := last_c hL h0 k.1 kb (B := i / 2) (by omega)
    rw [show 2 * (i / 2) = i by omega] at q
    unfold spS at h3
    rw [e] at h3
    have h3 : lb (dwN (spP L f (L - 1)) (spQ L f (L - 1)) 1 (2 ^ L) (2 ^ L)).2.2 i = true := h3
    rw [q] at h3; exact h3.symm
