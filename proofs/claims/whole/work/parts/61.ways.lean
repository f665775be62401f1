/-! make(2), the pure part: the ways through the halves. -/
/-- an exchange of places below w -/
def ivo (w : Nat) (s : Nat → Nat) : Prop := ∀ p, p < w → s p < w ∧ s (s p) = p ∧ s p ≠ p
/-- what holds while a way is followed from a to x; D: decided, C: through the upper half -/
def wyI (w : Nat) (s t : Nat → Nat) (a x : Nat) (D C : Nat → Bool) : Prop :=
  a < w ∧ x < w ∧ (∀ p, D p = true → p < w) ∧ (∀ p, C p = true → D p = true) ∧ (∀ p, D p = true → D (t p) = true ∧ C (t p) = !C p) ∧ (∀ p, D p = true → p ≠ a → p ≠ s x → D (s p) = true) ∧ (∀ p, D p = true → D (s p) = true → C (s p) = !C p) ∧ (D x = true → x = a) ∧
  ((x = a ∧ ∀ p, D p = true → D (s p) = true) ∨ (D a = true ∧ C a = false ∧ D (s x) = true ∧ C (s x) = true))
/-- what holds between two ways -/
def wyC (w : Nat) (s t : Nat → Nat) (D C : Nat → Bool) : Prop :=
  (∀ p, D p = true → p < w) ∧ (∀ p, C p = true → D p = true) ∧ (∀ p, D p = true → D (t p) = true ∧ C (t p) = !C p) ∧ (∀ p, D p = true → D (s p) = true ∧ C (s p) = !C p)
theorem wyC.start {w : Nat} {s t : Nat → Nat} {D C : Nat → Bool} (c : wyC w s t D C) {a : Nat} (ha : a < w) : wyI w s t a a D C :=
  ⟨ha, ha, c.1, c.2.1, c.2.2.1, fun p hp _ _ => (c.2.2.2 p hp).1, fun p hp _ => (c.2.2.2 p hp).2, fun _ => rfl, .inl ⟨rfl, fun p hp => (c.2.2.2 p hp).1⟩⟩
theorem wyI.stop {w : Nat} {s t : Nat → Nat} (hs : ivo w s) {D C : Nat → Bool} {a x : Nat} (i : wyI w s t a x D C) (hx : D x = true) : wyC w s t D C ∧ D a = true := by
  obtain ⟨i1, i2, i3, i4, i5, i6, i7, i8, i9⟩ := i
  have e := i8 hx
  subst e
  have cl : ∀ p, D p = true → D (s p) = true := by
    rcases i9 with ⟨_, q⟩ | ⟨q1, q2, q3, q4⟩
    · exact q
    · intro p hp
      by_cases h1 : p = x
      · rw [h1]; exact q3
      · by_cases h2 : p = s x
        · rw [h2, (hs x i1).2.1]; exact q1
        · exact i6 p hp h1 h2
  exact ⟨⟨i3, i4, i5, fun p hp => ⟨cl p hp, i7 p hp (cl p hp)⟩⟩, hx⟩
theorem wyI.step {w : Nat} {s t : Nat → Nat} (hs : ivo w s) (ht : ivo w t) {D C D' C' : Nat → Bool} {a x : Nat} (i : wyI w s t a x D C) (hx : D x = false) (hD : ∀ p, D' p = true ↔ D p = true ∨ p = x ∨ p = t x) (hC : ∀ p, C' p = true ↔ C p = true ∨ p = t x) : wyI w s t a (s (t x)) D' C' ∧ C' a = false := by
  obtain ⟨i1, i2, i3, i4, i5, i6, i7, i8, i9⟩ := i
  obtain ⟨t1, t2, t3⟩ := ht x i2
  obtain ⟨s1, s2, s3⟩ := hs (t x) t1
  obtain ⟨u1, u2, u3⟩ := hs x i2
  have hy : D (t x) = false := by
    cases h : D (t x) with
    | false => rfl
    | true => have := (i5 _ h).1; rw [t2, hx] at this; cases this
  have Cy : C' (t x) = true := (hC _).mpr (.inr rfl)
  have Cx : C' x = false := by
    cases h : C' x with
    | false => rfl
    | true =>
      rcases (hC _).mp h with h1 | h1
      · have := i4 _ h1; rw [hx] at this; cases this
      · exact absurd h1.symm t3
  have Dy : D' (t x) = true := (hD _).mpr (.inr (.inr rfl))
  have Dx : D' x = true := (hD _).mpr (.inr (.inl rfl))
  have Cold : ∀ p, D p = true → C' p = C p := by
    intro p hp
    have hn : p ≠ t x := fun e => by rw [e, hy] at hp; cases hp
    cases h : C p with
    | true => exact (hC _).mpr (.inl h)
    | false =>
      cases h' : C' p with
      | false => rfl
      | true =>
        rcases (hC _).mp h' with h1 | h1
        · rw [h] at h1; cases h1
        · exact absurd h1 hn
  have Dold : ∀ p, D p = true → D' p = true := fun p hp => (hD _).mpr (.inl hp)
  have lt : ∀ p, D' p = true → p < w := by
    intro p hp
    rcases (hD p).mp hp with h | h | h
    · exact i3 p h
    · omega
    · omega
  -- the next place, if decided, is the first
  have nxt : D' (s (t x)) = true → s (t x) = a := by
    intro h
    rcases (hD _).mp h with h | h | h
    · by_cases h1 : s (t x) = a
      · exact h1
      · by_cases h2 : s (t x) = s x
        · exact absurd (by rw [← s2, h2, u2]) t3
        · have := i6 _ h h1 h2
          rw [s2, hy] at this; cases this
    · rcases i9 with ⟨q, _⟩ | ⟨_, _, q3, _⟩
      · rw [h, q]
      · rw [← h, s2, hy] at q3; cases q3
    · exact absurd h s3
  have Ca : C' a = false ∧ D' a = true := by
    rcases i9 with ⟨q, _⟩ | ⟨q1, q2, _, _⟩
    · rw [← q]; exact ⟨Cx, Dx⟩
    · exact ⟨by rw [Cold a q1]; exact q2, Dold a q1⟩
  have Csx : D' (s x) = true → C' (s x) = true := by
    intro h
    rcases (hD _).mp h with h | h | h
    · rcases i9 with ⟨_, q⟩ | ⟨_, _, q3, q4⟩
      · have := q _ h; rw [u2, hx] at this; cases this
      · rw [Cold _ q3]; exact q4
    · exact absurd h u3
    · rw [h]; exact Cy
  have Csy : D' (s (t x)) = true → C' (s (t x)) = false := fun h => by rw [nxt h]; exact Ca.1
  refine ⟨⟨i1, s1, lt, ?_, ?_, ?_, ?_, nxt, .inr ⟨Ca.2, Ca.1, by rw [s2]; exact Dy, by rw [s2]; exact Cy⟩⟩, Ca.1⟩
  · intro p hp
    rcases (hC p).mp hp with h | h
    · exact Dold p (i4 p h)
    · rw [h]; exact Dy
  · intro p hp
    rcases (hD p).mp hp with h | h | h
    · have q := i5 p h
      exact ⟨Dold _ q.1, by rw [Cold _ q.1, Cold _ h]; exact q.2⟩
    · rw [h]; exact ⟨Dy, by rw [Cx, Cy]; rfl⟩
    · rw [h, t2]; exact ⟨Dx, by rw [Cx, Cy]; rfl⟩
  · intro p hp h1 h2
    rw [s2] at h2
    rcases (hD p).mp hp with h | h | h
    · by_cases h3 : p = s x
      · rw [h3, u2]; exact Dx
      · exact Dold _ (i6 p h h1 h3)
    · rcases i9 with ⟨q, _⟩ | ⟨_, _, q3, _⟩
      · exact absurd (h.trans q) h1
      · rw [h]; exact Dold _ q3
    · exact absurd h h2
  · intro p hp hq
    have back := (hs p (lt p hp)).2.1
    rcases (hD p).mp hp with h | h | h
    · rcases (hD _).mp hq with h' | h' | h'
      · rw [Cold _ h, Cold _ h']; exact i7 p h h'
      · have e : p = s x := by rw [← h', back]
        rw [h', Cx, e, Csx (by rw [← e]; exact hp)]; rfl
      · have e : p = s (t x) := by rw [← h', back]
        rw [h', Cy, e, Csy (by rw [← e]; exact hp)]; rfl
    · rw [h] at hq ⊢; rw [Cx, Csx hq]; rfl
    · rw [h] at hq ⊢; rw [Cy, Csy hq]; rfl
theorem lb_put {x p : Nat} (hx : x < 64) (S : Int64) : lb (S ||| bs_shl 1 (nI x)) p = true ↔ lb S p = true ∨ p = x := by
  by_cases hp : p < 64
  · rw [lb_or, lb_pow hx hp, Bool.or_eq_true, decide_eq_true_eq]
  · rw [lb_big (by omega), lb_big (by omega)]
    constructor
    · intro h; cases h
    · intro h; rcases h with h | h
      · cases h
      · omega
/-- the state of the ways: decided, going through the upper half, coming through it -/
abbrev bs_W3 : Type := Int64 × Int64 × Int64
def wy1 (P Q : Nat → Nat) (hh x : Nat) (S : bs_W3) : bs_W3 := (S.1 ||| (bs_shl 1 (nI x) ||| bs_shl 1 (nI (Q (P x ^^^ hh)))), S.2.1 ||| bs_shl 1 (nI (P x ^^^ hh)), S.2.2 ||| bs_shl 1 (nI (Q (P x ^^^ hh))))
def wyN (P Q : Nat → Nat) (hh : Nat) : Nat → Nat → bs_W3 → bs_W3
  | 0, _, S => S
  | u + 1, x, S => if lb S.1 x = true then S else wyN P Q hh u (Q (P x ^^^ hh) ^^^ hh) (wy1 P Q hh x S)
def dwN (P Q : Nat → Nat) (hh w : Nat) : Nat → bs_W3
  | 0 => (0, 0, 0)
  | p + 1 => if p &&& hh = 0 then wyN P Q hh w p (dwN P Q hh w p) else dwN P Q hh w p
/-- P is a permutation of the places below w, Q its inverse -/
def pq (w : Nat) (P Q : Nat → Nat) : Prop := ∀ p, p < w → P p < w ∧ Q p < w ∧ Q (P p) = p ∧ P (Q p) = p
theorem xo_i : ∀ L, L < 7 → ∀ i, i < L → ∀ p, p < 2 ^ L → p ^^^ 2 ^ i < 2 ^ L ∧ (p ^^^ 2 ^ i) ^^^ 2 ^ i = p ∧ p ^^^ 2 ^ i ≠ p ∧ (p ^^^ 2 ^ i) / (2 * 2 ^ i) = p / (2 * 2 ^ i) := by decide +kernel
theorem xo_b : ∀ i, i < 6 → ∀ p, p < 64 → (p &&& 2 ^ i = 0 ↔ p % (2 * 2 ^ i) < 2 ^ i) ∧ (p ^^^ 2 ^ i = if p % (2 * 2 ^ i) < 2 ^ i then p + 2 ^ i else p - 2 ^ i) ∧ ((p ^^^ 2 ^ i) &&& 2 ^ i = 0 ↔ ¬ p &&& 2 ^ i = 0) := by decide +kernel
theorem pow_le64 : ∀ L, L < 7 → 1 ≤ 2 ^ L ∧ 2 ^ L ≤ 64 := by decide
section WY
variable {L j : Nat} {P Q : Nat → Nat}
theorem ivo_s (hL : L < 7) (hj : j < L) : ivo (2 ^ L) (fun p => p ^^^ 2 ^ j) := fun p hp => ⟨(xo_i L hL j hj p hp).1, (xo_i L hL j hj p hp).2.1, (xo_i L hL j hj p hp).2.2.1⟩
theorem ivo_t (hL : L < 7) (hj : j < L) (h : pq (2 ^ L) P Q) : ivo (2 ^ L) (fun p => Q (P p ^^^ 2 ^ j)) := by
  intro p hp
  obtain ⟨a1, a2, a3, a4⟩ := h p hp
  obtain ⟨b1, b2, b3, b4⟩ := xo_i L hL j hj _ a1
  obtain ⟨c1, c2, c3, c4⟩ := h _ b1
  refine ⟨c2, ?_, ?_⟩
  · show Q (P (Q (P p ^^^ 2 ^ j)) ^^^ 2 ^ j) = p
    rw [c4, b2, a3]
  · intro e
    have e : Q (P p ^^^ 2 ^ j) = p := e
    apply b3
    rw [← c4, e]
/-- what holds of the three sets while a way is followed -/
def stI (L j : Nat) (P Q : Nat → Nat) (a x : Nat) (S : bs_W3) : Prop := wyI (2 ^ L) (fun p => p ^^^ 2 ^ j) (fun p => Q (P p ^^^ 2 ^ j)) a x (lb S.1) (lb S.2.2) ∧ ∀ p, p < 2 ^ L → lb S.2.1 (P p) = lb S.2.2 p
def stC (L j : Nat) (P Q : Nat → Nat) (S : bs_W3) : Prop := wyC (2 ^ L) (fun p => p ^^^ 2 ^ j) (fun p => Q (P p ^^^ 2 ^ j)) (lb S.1) (lb S.2.2) ∧ ∀ p, p < 2 ^ L → lb S.2.1 (P p) = lb S.2.2 p
theorem stI_step (hL : L < 7) (hj : j < L) (h : pq (2 ^ L) P Q) {a x : Nat} {S : bs_W3} (i : stI L j P Q a x S) (hx : lb S.1 x = false) : stI L j P Q a (Q (P x ^^^ 2 ^ j) ^^^ 2 ^ j) (wy1 P Q (2 ^ j) x S) ∧ lb (wy1 P Q (2 ^ j) x S).2.2 a = false := by
  have w64 := pow_le64 L hL
  have hxw := i.1.2.1
  obtain ⟨a1, a2, a3, a4⟩ := h x hxw
  obtain ⟨b1, b2, b3, b4⟩ := xo_i L hL j hj _ a1
  obtain ⟨c1, c2, c3, c4⟩ := h _ b1
  have q := wyI.step (ivo_s hL hj) (ivo_t hL hj h) i.1 hx (D' := lb (wy1 P Q (2 ^ j) x S).1) (C' := lb (wy1 P Q (2 ^ j) x S).2.2) (fun p => ?_) (fun p => ?_)
  · refine ⟨⟨q.1, fun p hp => ?_⟩, q.2⟩
    have e := i.2 p hp
    obtain ⟨d1, d2, d3, d4⟩ := h p hp
    have g1 : lb (wy1 P Q (2 ^ j) x S).2.1 (P p) = true ↔ lb S.2.1 (P p) = true ∨ P p = P x ^^^ 2 ^ j := lb_put (by omega) _
    have g2 : lb (wy1 P Q (2 ^ j) x S).2.2 p = true ↔ lb S.2.2 p = true ∨ p = Q (P x ^^^ 2 ^ j) := lb_put (by omega) _
    have g3 : P p = P x ^^^ 2 ^ j ↔ p = Q (P x ^^^ 2 ^ j) := ⟨fun z => by rw [← z, d3], fun z => by rw [z, c4]⟩
    rw [Bool.eq_iff_iff, g1, g2, g3, e]
  · show lb (S.1 ||| (bs_shl 1 (nI x) ||| bs_shl 1 (nI (Q (P x ^^^ 2 ^ j))))) p = true ↔ _
    rw [lb_or, Bool.or_eq_true, lb_put (by omega)]
    have : lb (bs_shl 1 (nI x)) p = true ↔ p = x := by
      have := lb_put (x := x) (p := p) (by omega) 0
      rw [lb_or, lb_0, Bool.false_or] at this
      rw [this]; simp
    rw [this]
  · exact lb_put (by omega) _
theorem cnt_full {p : Nat → Bool} {w : Nat} (h : w ≤ cnt p w) {i : Nat} (hi : i < w) : p i = true := by
  cases hp : p i with
  | true => rfl
  | false =>
    have h1 := cnt_lt (p := p) (p' := fun _ => true) w (fun _ _ _ => rfl) ⟨i, hi, rfl, hp⟩
    have h2 := cnt_le (fun _ => true) w
    omega
theorem wy1_more (P Q : Nat → Nat) (hh x : Nat) (S : bs_W3) (p : Nat) (hp : lb S.1 p = true) : lb (wy1 P Q hh x S).1 p = true := by
  show lb (S.1 ||| _) p = true
  rw [lb_or, hp]; rfl
theorem wyN_ok (hL : L < 7) (hj : j < L) (h : pq (2 ^ L) P Q) : ∀ (u a x : Nat) (S : bs_W3), stI L j P Q a x S → 2 ^ L ≤ u + cnt (lb S.1) (2 ^ L) → stC L j P Q (wyN P Q (2 ^ j) u x S) ∧ lb (wyN P Q (2 ^ j) u x S).1 a = true ∧ (∀ p, lb S.1 p = true → lb (wyN P Q (2 ^ j) u x S).1 p = true) ∧ (lb S.1 x = false ∨ lb S.2.2 a = false → lb (wyN P Q (2 ^ j) u x S).2.2 a = false) := by
  intro u
  induction u with
  | zero =>
    intro a x S i hu
    have hx : lb S.1 x = true := cnt_full (by omega) i.1.2.1
    have q := i.1.stop (ivo_s hL hj) hx
    exact ⟨⟨q.1, i.2⟩, q.2, fun p hp => hp, fun z => z.elim (fun z => by rw [hx] at z; cases z) id⟩
  | succ u ih =>
    intro a x S i hu
    unfold wyN
    by_cases hx : lb S.1 x = true
    · rw [if_pos hx]
      have q := i.1.stop (ivo_s hL hj) hx
      exact ⟨⟨q.1, i.2⟩, q.2, fun p hp => hp, fun z => z.elim (fun z => by rw [hx] at z; cases z) id⟩
    · rw [if_neg hx]
      have hx : lb S.1 x = false := by simpa using hx
      have q := stI_step hL hj h i hx
      have w64 := pow_le64 L hL
      have hxw := i.1.2.1
      have hxx : lb (wy1 P Q (2 ^ j) x S).1 x = true := by
        show lb (S.1 ||| (bs_shl 1 (nI x) ||| _)) x = true
        rw [lb_or, lb_or, lb_pow (by omega) (by omega)]
        simp
      have c := cnt_lt (p := lb S.1) (p' := lb (wy1 P Q (2 ^ j) x S).1) (2 ^ L) (fun p _ hp => wy1_more P Q _ x S p hp) ⟨x, hxw, hxx, hx⟩
      obtain ⟨r1, r2, r3, r4⟩ := ih a _ _ q.1 (by omega)
      exact ⟨r1, r2, fun p hp => r3 p (wy1_more P Q _ x S p hp), fun _ => r4 (.inr q.2)⟩
/-- P keeps to blocks of n -/
def blk (w n : Nat) (P : Nat → Nat) : Prop := ∀ p, p < w → P p / n = p / n
theorem blk_inv {w n : Nat} (h : pq w P Q) (b : blk w n P) : blk w n Q := fun p hp => by rw [← b _ (h p hp).2.1, (h p hp).2.2.2]
def sam3 (S T : bs_W3) (q : Nat) : Prop := lb T.1 q = lb S.1 q ∧ lb T.2.1 q = lb S.2.1 q ∧ lb T.2.2 q = lb S.2.2 q
theorem sam3.trans {S T U : bs_W3} {q : Nat} (h : sam3 S T q) (k : sam3 T U q) : sam3 S U q := ⟨k.1.trans h.1, k.2.1.trans h.2.1, k.2.2.trans h.2.2⟩
theorem lb_putn {x p : Nat} (hx : x < 64) (S : Int64) (hn : p ≠ x) : lb (S ||| bs_shl 1 (nI x)) p = lb S p := by
  rw [Bool.eq_iff_iff, lb_put hx]
  exact ⟨fun z => z.elim id (fun z => absurd z hn), .inl⟩
theorem wyN_off (hL : L < 7) (hj : j < L) (h : pq (2 ^ L) P Q) (b : blk (2 ^ L) (2 * 2 ^ j) P) {q : Nat} : ∀ (u x : Nat) (S : bs_W3), x < 2 ^ L → q / (2 * 2 ^ j) ≠ x / (2 * 2 ^ j) → sam3 S (wyN P Q (2 ^ j) u x S) q := by
  intro u
  induction u with
  | zero => intro x S _ _; exact ⟨rfl, rfl, rfl⟩
  | succ u ih =>
    intro x S hxw hq
    unfold wyN
    by_cases hx : lb S.1 x = true
    · rw [if_pos hx]; exact ⟨rfl, rfl, rfl⟩
    · rw [if_neg hx]
      have w64 := pow_le64 L hL
      obtain ⟨a1, a2, a3, a4⟩ := h x hxw
      obtain ⟨b1, b2, b3, b4⟩ := xo_i L hL j hj _ a1
      obtain ⟨c1, c2, c3, c4⟩ := h _ b1
      obtain ⟨d1, d2, d3, d4⟩ := xo_i L hL j hj _ c2
      have e1 : (P x ^^^ 2 ^ j) / (2 * 2 ^ j) = x / (2 * 2 ^ j) := by rw [b4, b x hxw]
      have e2 : Q (P x ^^^ 2 ^ j) / (2 * 2 ^ j) = x / (2 * 2 ^ j) := by rw [blk_inv h b _ b1, e1]
      refine sam3.trans ?_ (ih _ _ d1 (by rw [d4, e2]; exact hq))
      have n1 : q ≠ x := fun z => hq (by rw [z])
      have n2 : q ≠ P x ^^^ 2 ^ j := fun z => hq (by rw [z, e1])
      have n3 : q ≠ Q (P x ^^^ 2 ^ j) := fun z => hq (by rw [z, e2])
      refine ⟨?_, lb_putn (by omega) _ n2, lb_putn (by omega) _ n3⟩
      show lb (S.1 ||| (bs_shl 1 (nI x) ||| bs_shl 1 (nI (Q (P x ^^^ 2 ^ j))))) q = _
      rw [lb_or, lb_putn (by omega) _ n3]
      have := lb_putn (x := x) (p := q) (by omega) S.1 n1
      rw [lb_or] at this
      exact this
theorem stC_0 : stC L j P Q (0, 0, 0) := by
  have z : ∀ p, lb (0 : Int64) p = true → False := fun p hp => by rw [lb_0] at hp; cases hp
  exact ⟨⟨fun p hp => (z p hp).elim, fun p hp => (z p hp).elim, fun p hp => (z p hp).elim, fun p hp => (z p hp).elim⟩, fun p _ => by rw [lb_0, lb_0]⟩
theorem dwN_ok (hL : L < 7) (hj : j < L) (h : pq (2 ^ L) P Q) : ∀ p, p ≤ 2 ^ L → stC L j P Q (dwN P Q (2 ^ j) (2 ^ L) p) ∧ ∀ q, q < p → q &&& 2 ^ j = 0 → lb (dwN P Q (2 ^ j) (2 ^ L) p).1 q = true := by
  intro p
  induction p with
  | zero => intro _; exact ⟨stC_0, fun q hq => by omega⟩
  | succ p ih =>
    intro hp
    obtain ⟨i1, i2⟩ := ih (by omega)
    unfold dwN
    by_cases hb : p &&& 2 ^ j = 0
    · rw [if_pos hb]
      obtain ⟨r1, r2, r3, r4⟩ := wyN_ok hL hj h (2 ^ L) p p _ ⟨i1.1.start (by omega), i1.2⟩ (by omega)
      refine ⟨r1, fun q hq h0 => ?_⟩
      by_cases e : q = p
      · rw [e]; exact r2
      · exact r3 q (i2 q (by omega) h0)
    · rw [if_neg hb]
      refine ⟨i1, fun q hq h0 => ?_⟩
      by_cases e : q = p
      · rw [e] at h0; exact absurd h0 hb
      · exact i2 q (by omega) h0
theorem dwN_same (hL : L < 7) (hj : j < L) (h : pq (2 ^ L) P Q) (b : blk (2 ^ L) (2 * 2 ^ j) P) {q p : Nat} : ∀ m, p + m ≤ 2 ^ L → (∀ r, p ≤ r → r < p + m → q / (2 * 2 ^ j) ≠ r / (2 * 2 ^ j)) → sam3 (dwN P Q (2 ^ j) (2 ^ L) p) (dwN P Q (2 ^ j) (2 ^ L) (p + m)) q := by
  intro m
  induction m with
  | zero => intro _ _; exact ⟨rfl, rfl, rfl⟩
  | succ m ih =>
    intro hm hr
    refine (ih (by omega) (fun r h1 h2 => hr r h1 (by omega))).trans ?_
    show sam3 _ (dwN P Q (2 ^ j) (2 ^ L) (p + m + 1)) q
    rw [dwN]
    split
    · exact wyN_off hL hj h b _ _ _ (by omega) (hr (p + m) (by omega) (by omega))
    · exact ⟨rfl, rfl, rfl⟩
end WY
/-- a source without, and with, the bit of the half -/
def loN (hh s : Nat) : Nat := s / (2 * hh) * (2 * hh) + s % hh
def hiN (hh s : Nat) : Nat := s / (2 * hh) * (2 * hh) + hh + s % hh
theorem xo_l1 : ∀ L, L < 7 → ∀ i, i < L → ∀ s, s < 2 ^ L → loN (2 ^ i) s < 2 ^ L ∧ hiN (2 ^ i) s < 2 ^ L := by decide +kernel
theorem xo_l2 : ∀ i, i < 6 → ∀ s, s < 64 → (s = loN (2 ^ i) s ∧ s ^^^ 2 ^ i = hiN (2 ^ i) s) ∨ (s = hiN (2 ^ i) s ∧ s ^^^ 2 ^ i = loN (2 ^ i) s) := by decide +kernel
theorem xo_l (L : Nat) (hL : L < 7) (i : Nat) (hi : i < L) (s : Nat) (hs : s < 2 ^ L) : loN (2 ^ i) s < 2 ^ L ∧ hiN (2 ^ i) s < 2 ^ L ∧ (s = loN (2 ^ i) s ∧ s ^^^ 2 ^ i = hiN (2 ^ i) s ∨ s = hiN (2 ^ i) s ∧ s ^^^ 2 ^ i = loN (2 ^ i) s) := ⟨(xo_l1 L hL i hi s hs).1, (xo_l1 L hL i hi s hs).2, xo_l2 i (by omega) s (by have := (pow_le64 L hL).2; omega)⟩
theorem xo_I : ∀ i, i < 6 → ∀ s, s < 64 → nI s &&& (nI (2 ^ i) ^^^ (-1)) = nI (loN (2 ^ i) s) ∧ nI s ||| nI (2 ^ i) = nI (hiN (2 ^ i) s) := by decide +kernel
theorem xo_d : ∀ i, i < 6 → ∀ s, s < 64 → loN (2 ^ i) s / 2 ^ i = s / (2 * 2 ^ i) * 2 ∧ hiN (2 ^ i) s / 2 ^ i = s / (2 * 2 ^ i) * 2 + 1 ∧ loN (2 ^ i) s % 2 ^ i = s % 2 ^ i ∧ hiN (2 ^ i) s % 2 ^ i = s % 2 ^ i ∧ (s &&& 2 ^ i = 0 → s / 2 ^ i = s / (2 * 2 ^ i) * 2) ∧ (¬ s &&& 2 ^ i = 0 → s / 2 ^ i = s / (2 * 2 ^ i) * 2 + 1) := by decide +kernel
/-- whence the part of p comes that goes through its own half -/
def selN (c : Int64) (hh p : Nat) : Nat := if p &&& hh = 0 then (if lb c p = true then p ^^^ hh else p) else (if lb c (p ^^^ hh) = true then p ^^^ hh else p)
def dvP (P : Nat → Nat) (c : Int64) (hh p : Nat) : Nat := if p &&& hh = 0 then loN hh (P (selN c hh p)) else hiN hh (P (selN c hh p))
section DV
variable {L j : Nat} {P Q : Nat → Nat}
theorem selN_is (c : Int64) (hh p : Nat) : selN c hh p = p ∨ selN c hh p = p ^^^ hh := by
  unfold selN
  split <;> split <;> simp
/-- all places are decided; each pair has one of each way -/
def ways (L j : Nat) (P Q : Nat → Nat) (S : bs_W3) : Prop := (∀ p, p < 2 ^ L → lb S.1 p = true ∧ lb S.2.2 (p ^^^ 2 ^ j) = (!lb S.2.2 p) ∧ lb S.2.2 (Q (P p ^^^ 2 ^ j)) = (!lb S.2.2 p) ∧ lb S.2.1 (P p) = lb S.2.2 p)
theorem dwN_ways (hL : L < 7) (hj : j < L) (h : pq (2 ^ L) P Q) : ways L j P Q (dwN P Q (2 ^ j) (2 ^ L) (2 ^ L)) := by
  obtain ⟨⟨⟨d1, d2, d3, d4⟩, d5⟩, e⟩ := dwN_ok hL hj h (2 ^ L) (Nat.le_refl _)
  have w64 := pow_le64 L hL
  intro p hp
  have all : lb (dwN P Q (2 ^ j) (2 ^ L) (2 ^ L)).1 p = true := by
    by_cases hb : p &&& 2 ^ j = 0
    · exact e p hp hb
    · obtain ⟨x1, x2, x3, x4⟩ := xo_i L hL j hj p hp
      have z := (xo_b j (by omega) p (by omega)).2.2
      have := (d4 _ (e _ x1 (z.mpr hb))).1
      have this : lb (dwN P Q (2 ^ j) (2 ^ L) (2 ^ L)).1 ((p ^^^ 2 ^ j) ^^^ 2 ^ j) = true := this
      rw [x2] at this
      exact this
  exact ⟨all, (d4 p all).2, (d3 p all).2, d5 p hp⟩
theorem sel_c (hL : L < 7) (hj : j < L) {S : bs_W3} (y : ways L j P Q S) {p : Nat} (hp : p < 2 ^ L) : selN S.2.2 (2 ^ j) p < 2 ^ L ∧ selN S.2.2 (2 ^ j) p / (2 * 2 ^ j) = p / (2 * 2 ^ j) ∧ lb S.2.2 (selN S.2.2 (2 ^ j) p) = decide (¬ p &&& 2 ^ j = 0) := by
  obtain ⟨x1, x2, x3, x4⟩ := xo_i L hL j hj p hp
  have a := (y p hp).2.1
  unfold selN
  by_cases hb : p &&& 2 ^ j = 0
  · rw [if_pos hb]
    cases hc : lb S.2.2 p with
    | true => rw [if_pos rfl]; exact ⟨x1, x4, by rw [a, hc]; simp [hb]⟩
    | false => rw [if_neg (by simp)]; exact ⟨hp, rfl, by rw [hc]; simp [hb]⟩
  · rw [if_neg hb]
    cases hc : lb S.2.2 (p ^^^ 2 ^ j) with
    | true => rw [if_pos rfl]; exact ⟨x1, x4, by rw [hc]; simp [hb]⟩
    | false =>
      rw [if_neg (by simp)]
      refine ⟨hp, rfl, ?_⟩
      rw [hc] at a
      simp [hb]
      simpa using a.symm
theorem dvP_lt (hL : L < 7) (hj : j < L) (h : pq (2 ^ L) P Q) {S : bs_W3} (y : ways L j P Q S) {p : Nat} (hp : p < 2 ^ L) : dvP P S.2.2 (2 ^ j) p < 2 ^ L := by
  have a := (h _ (sel_c hL hj y hp).1).1
  have b := xo_l L hL j hj _ a
  unfold dvP
  split
  · exact b.1
  · exact b.2.1
theorem dvP_blk (hL : L < 7) (hj : j < L) (h : pq (2 ^ L) P Q) (b : blk (2 ^ L) (2 * 2 ^ j) P) {S : bs_W3} (y : ways L j P Q S) : blk (2 ^ L) (2 ^ j) (dvP P S.2.2 (2 ^ j)) := by
  intro p hp
  have w64 := pow_le64 L hL
  obtain ⟨s1, s2, s3⟩ := sel_c hL hj y hp
  have a := (h _ s1).1
  have c := xo_d j (by omega) _ (show P (selN S.2.2 (2 ^ j) p) < 64 by omega)
  have d := xo_d j (by omega) p (by omega)
  have e := b _ s1
  unfold dvP
  by_cases hb : p &&& 2 ^ j = 0
  · rw [if_pos hb, c.1, e, s2, d.2.2.2.2.1 hb]
  · rw [if_neg hb, c.2.1, e, s2, d.2.2.2.2.2 hb]
theorem dvP_inj (hL : L < 7) (hj : j < L) (h : pq (2 ^ L) P Q) (b : blk (2 ^ L) (2 * 2 ^ j) P) {S : bs_W3} (y : ways L j P Q S) : ∀ p q, p < 2 ^ L → q < 2 ^ L → dvP P S.2.2 (2 ^ j) p = dvP P S.2.2 (2 ^ j) q → p = q := by
  intro p q hp hq he
  have w64 := pow_le64 L hL
  have bb := dvP_blk hL hj h b y
  have f1 : p / 2 ^ j = q / 2 ^ j := by rw [← bb p hp, ← bb q hq, he]
  obtain ⟨s1, s2, s3⟩ := sel_c hL hj y hp
  obtain ⟨t1, t2, t3⟩ := sel_c hL hj y hq
  have dp := xo_d j (by omega) p (by omega)
  have dq := xo_d j (by omega) q (by omega)
  have side : (p &&& 2 ^ j = 0) ↔ (q &&& 2 ^ j = 0) := by
    constructor
    · intro z
      apply Decidable.byContradiction
      intro z2
      have := dp.2.2.2.2.1 z
      have := dq.2.2.2.2.2 z2
      omega
    · intro z
      apply Decidable.byContradiction
      intro z2
      have := dp.2.2.2.2.2 z2
      have := dq.2.2.2.2.1 z
      omega
  have cc : lb S.2.2 (selN S.2.2 (2 ^ j) p) = lb S.2.2 (selN S.2.2 (2 ^ j) q) := by rw [s3, t3]; simp [side]
  generalize hx : selN S.2.2 (2 ^ j) p = x at s1 s2 s3 cc
  generalize hz : selN S.2.2 (2 ^ j) q = z at t1 t2 t3 cc
  obtain ⟨a1, a2, a3, a4⟩ := h x s1
  obtain ⟨b1, b2, b3, b4⟩ := h z t1
  have lx := (xo_l L hL j hj _ a1).2.2
  have lz := (xo_l L hL j hj _ b1).2.2
  have same : loN (2 ^ j) (P x) = loN (2 ^ j) (P z) ∨ hiN (2 ^ j) (P x) = hiN (2 ^ j) (P z) := by
    unfold dvP at he
    rw [hx, hz] at he
    by_cases hb : p &&& 2 ^ j = 0
    · rw [if_pos hb, if_pos (side.mp hb)] at he; exact .inl he
    · rw [if_neg hb, if_neg (fun z => hb (side.mpr z))] at he; exact .inr he
  have both : loN (2 ^ j) (P x) = loN (2 ^ j) (P z) ∧ hiN (2 ^ j) (P x) = hiN (2 ^ j) (P z) := by
    unfold loN hiN at *
    omega
  have eqP : P x = P z ∨ P x = P z ^^^ 2 ^ j := by
    rcases lx with ⟨l1, l2⟩ | ⟨l1, l2⟩ <;> rcases lz with ⟨m1, m2⟩ | ⟨m1, m2⟩
    · left; rw [l1, both.1, ← m1]
    · right; rw [l1, both.1, ← m2]
    · right; rw [l1, both.2, ← m2]
    · left; rw [l1, both.2, ← m1]
  have xz : x = z := by
    rcases eqP with e | e
    · rw [← a3, e, b3]
    · have := (y z t1).2.2.1
      rw [← e, a3, cc] at this
      cases hh : lb S.2.2 z <;> rw [hh] at this <;> cases this
  have p1 := selN_is S.2.2 (2 ^ j) p
  have q1 := selN_is S.2.2 (2 ^ j) q
  rw [hx] at p1
  rw [hz, ← xz] at q1
  obtain ⟨u1, u2, u3, u4⟩ := xo_i L hL j hj p hp
  obtain ⟨v1, v2, v3, v4⟩ := xo_i L hL j hj q hq
  have zp := (xo_b j (by omega) p (by omega)).2.2
  have zq := (xo_b j (by omega) q (by omega)).2.2
  rcases p1 with e1 | e1 <;> rcases q1 with e2 | e2
  · rw [← e1, e2]
  · exfalso
    have e3 : p = q ^^^ 2 ^ j := by rw [← e1, e2]
    rw [e3, zq] at side
    exact absurd side (by intro k; by_cases z : q &&& 2 ^ j = 0 <;> simp [z] at k)
  · exfalso
    have e3 : q = p ^^^ 2 ^ j := by rw [← e2, e1]
    rw [e3, zp] at side
    exact absurd side (by intro k; by_cases z : p &&& 2 ^ j = 0 <;> simp [z] at k)
  · rw [← u2, ← e1, e2, v2]
theorem pq_of {w : Nat} (a : ∀ k, k < w → P k < w) (b : ∀ i j, i < w → j < w → P i = P j → i = j) : pq w P (idxN P w) := by
  intro p hp
  have hl : ∀ y, idxN P w y < w := fun y => idxN_lt P w y (by omega)
  obtain ⟨k, hk, he⟩ := inj_surj w P a b p hp
  refine ⟨a p hp, hl p, b _ _ (hl _) hp (idxN_at hp rfl), idxN_at hk he⟩
/-- the permutation before size i -/
def spP (L : Nat) (f : Nat → Nat) : Nat → Nat → Nat
  | 0 => f
  | i + 1 => dvP (spP L f i) (dwN (spP L f i) (idxN (spP L f i) (2 ^ L)) (2 ^ (L - 1 - i)) (2 ^ L) (2 ^ L)).2.2 (2 ^ (L - 1 - i))
def spQ (L : Nat) (f : Nat → Nat) (i : Nat) : Nat → Nat := idxN (spP L f i) (2 ^ L)
def spS (L : Nat) (f : Nat → Nat) (i : Nat) : bs_W3 := dwN (spP L f i) (spQ L f i) (2 ^ (L - 1 - i)) (2 ^ L) (2 ^ L)
theorem spP_s (L : Nat) (f : Nat → Nat) (i : Nat) : spP L f (i + 1) = dvP (spP L f i) (spS L f i).2.2 (2 ^ (L - 1 - i)) := rfl
theorem sp_ok {f : Nat → Nat} (hL : L < 7) (a : ∀ k, k < 2 ^ L → f k < 2 ^ L) (b : ∀ i j, i < 2 ^ L → j < 2 ^ L → f i = f j → i = j) : ∀ i, i ≤ L → pq (2 ^ L) (spP L f i) (spQ L f i) ∧ blk (2 ^ L) (2 ^ (L - i)) (spP L f i) := by
  intro i
  induction i with
  | zero =>
    intro _
    refine ⟨pq_of a b, fun p hp => ?_⟩
    show f p / 2 ^ L = p / 2 ^ L
    rw [Nat.div_eq_of_lt hp, Nat.div_eq_of_lt (a p hp)]
  | succ i ih =>
    intro hi
    obtain ⟨h, k⟩ := ih (by omega)
    have e : 2 ^ (L - i) = 2 * 2 ^ (L - 1 - i) := by rw [show L - i = (L - 1 - i) + 1 by omega, Nat.pow_succ, Nat.mul_comm]
    rw [e] at k
    have y := dwN_ways hL (show L - 1 - i < L by omega) h
    refine ⟨pq_of (fun p hp => dvP_lt hL (by omega) h y hp) (dvP_inj hL (by omega) h k y), ?_⟩
    rw [show L - (i + 1) = L - 1 - i by omega]
    exact dvP_blk hL (by omega) h k y
theorem sp_ways {f : Nat → Nat} (hL : L < 7) (a : ∀ k, k < 2 ^ L → f k < 2 ^ L) (b : ∀ i j, i < 2 ^ L → j < 2 ^ L → f i = f j → i = j) {i : Nat} (hi : i < L) : ways L (L - 1 - i) (spP L f i) (spQ L f i) (spS L f i) := dwN_ways hL (by omega) (sp_ok hL a b i (by omega)).1
end DV
