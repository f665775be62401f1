/-! make(3): groups. A state: how many groups, their last sources, their sources, their bits. -/
abbrev gp_S : Type := Nat × (Nat → Nat) × (Nat → Int64) × (Nat → Int64)
def fndG (L : Nat → Nat) (s : Nat) : Nat → Nat → Nat
  | 0, g => g
  | m + 1, g => if L g < s then g else fndG L s m (g + 1)
theorem fndG_le (L : Nat → Nat) (s : Nat) : ∀ m g, g ≤ fndG L s m g ∧ fndG L s m g ≤ g + m := by
  intro m
  induction m with
  | zero => intro g; exact ⟨Nat.le_refl _, Nat.le_refl _⟩
  | succ m ih =>
    intro g
    unfold fndG
    split
    · omega
    · have := ih (g + 1); omega
theorem fndG_hit (L : Nat → Nat) (s : Nat) : ∀ m g, fndG L s m g < g + m → L (fndG L s m g) < s := by
  intro m
  induction m with
  | zero => intro g hg; exact absurd hg (Nat.lt_irrefl _)
  | succ m ih =>
    intro g
    unfold fndG
    split
    · intro _; assumption
    · intro hg; exact ih (g + 1) (by omega)
/-- bit k, which comes from s, is put into its group g -/
def gpPut (Q : gp_S) (g k s : Nat) : gp_S := (if g = Q.1 then Q.1 + 1 else Q.1, va_up Q.2.1 g s, va_up Q.2.2.1 g ((if g = Q.1 then 0 else Q.2.2.1 g) ||| bs_shl 1 (nI s)), va_up Q.2.2.2 g ((if g = Q.1 then 0 else Q.2.2.2 g) ||| bs_shl 1 (nI k)))
def gpN (f : Nat → Nat) : Nat → gp_S
  | 0 => (0, fun _ => 0, fun _ => 0, fun _ => 0)
  | k + 1 => if f k < 64 then gpPut (gpN f k) (fndG (gpN f k).2.1 (f k) (gpN f k).1 0) k (f k) else gpN f k
/-- the last source is the highest -/
def gpT (w : Nat) (Q : gp_S) : Prop := ∀ g, g < Q.1 → Q.2.1 g < 64 ∧ lb (Q.2.2.1 g) (Q.2.1 g) = true ∧ (∀ i, i < 64 → Q.2.1 g < i → lb (Q.2.2.1 g) i = false) ∧ inW (Q.2.2.1 g) w = true ∧ inW (Q.2.2.2 g) w = true
theorem inW_or {w i : Nat} {x : Int64} (hw : w ≤ 64) (hx : inW x w = true) (hi : i < w) : inW (x ||| bs_shl 1 (nI i)) w = true := by
  rw [inW_iff] at hx ⊢
  intro k hk hk2
  rw [lb_or, hx k hk hk2, lb_pow (by omega) hk]
  have : ¬ k = i := by omega
  simp [this]
theorem inW_0 (w : Nat) : inW 0 w = true := by
  rw [inW_iff]; intro k _ _; exact lb_0 k
theorem gpN_t {w : Nat} {f : Nat → Nat} (hw : w ≤ 64) (hf : okF w f) : ∀ k, k ≤ w → gpT w (gpN f k) ∧ (gpN f k).1 ≤ cnt (fun i => decide (f i < 64)) k := by
  intro k
  induction k with
  | zero => intro _; exact ⟨fun g hg => absurd hg (Nat.not_lt_zero g), Nat.le_refl _⟩
  | succ k ih =>
    intro hk
    obtain ⟨t, c⟩ := ih (by omega)
    unfold gpN cnt
    by_cases h64 : f k < 64
    · rw [if_pos h64, if_pos (by simp [h64])]
      have hfk : f k < w := by rcases hf k (by omega) with h | h | h <;> omega
      generalize hQ : gpN f k = Q at t c ⊢
      generalize hg0 : fndG Q.2.1 (f k) Q.1 0 = g0
      have hle := (fndG_le Q.2.1 (f k) Q.1 0).2
      have hhit := fndG_hit Q.2.1 (f k) Q.1 0
      rw [hg0] at hle hhit
      refine ⟨fun g hg => ?_, ?_⟩
      · show va_up Q.2.1 g0 (f k) g < 64 ∧ lb (va_up Q.2.2.1 g0 _ g) (va_up Q.2.1 g0 (f k) g) = true ∧ (∀ i, i < 64 → va_up Q.2.1 g0 (f k) g < i → lb (va_up Q.2.2.1 g0 _ g) i = false) ∧ inW (va_up Q.2.2.1 g0 _ g) w = true ∧ inW (va_up Q.2.2.2 g0 _ g) w = true
        by_cases hgg : g = g0
        · subst hgg
          rw [bs_up_eq, bs_up_eq, bs_up_eq]
          have old : ∀ i, i < 64 → f k < i → lb (if g = Q.1 then 0 else Q.2.2.1 g) i = false := by
            intro i hi hki
            by_cases hgn : g = Q.1
            · rw [if_pos hgn, lb_0]
            · rw [if_neg hgn]
              exact (t g (by omega)).2.2.1 i hi (by have := hhit (by omega); omega)
          refine ⟨h64, ?_, fun i hi hki => ?_, inW_or hw ?_ hfk, inW_or hw ?_ (by omega)⟩
          · rw [lb_or, lb_pow h64 h64]; simp
          · rw [lb_or, old i hi hki, lb_pow h64 hi]
            have : ¬ i = f k := by omega
            simp [this]
          · by_cases hgn : g = Q.1
            · rw [if_pos hgn]; exact inW_0 w
            · rw [if_neg hgn]; exact (t g (by omega)).2.2.2.1
          · by_cases hgn : g = Q.1
            · rw [if_pos hgn]; exact inW_0 w
            · rw [if_neg hgn]; exact (t g (by omega)).2.2.2.2
        · rw [bs_up_ne _ _ hgg, bs_up_ne _ _ hgg, bs_up_ne _ _ hgg]
          refine t g ?_
          have hg : g < (if g0 = Q.1 then Q.1 + 1 else Q.1) := hg
          split at hg <;> omega
      · show (if g0 = Q.1 then Q.1 + 1 else Q.1) ≤ _
        split <;> omega
    · rw [if_neg h64, if_neg (by simp [h64])]
      exact ⟨t, c⟩
/-- the class asks whether a source at s or above is in the group -/
theorem gp_ask {w : Nat} {Q : gp_S} (t : gpT w Q) {g s : Nat} (hg : g < Q.1) (hs : s < 64) : bs_ushr (Q.2.2.1 g) (nI s) = 0 ↔ Q.2.1 g < s := by
  obtain ⟨t1, t2, t3, -, -⟩ := t g hg
  rw [lb_ne0]
  constructor
  · intro hz
    apply Classical.byContradiction
    intro hn
    have := hz (Q.2.1 g - s) (by omega)
    rw [lb_ushr hs, show s + (Q.2.1 g - s) = Q.2.1 g from by omega, t2] at this
    cases this
  · intro hlt i hi
    rw [lb_ushr hs]
    by_cases h64 : s + i < 64
    · exact t3 _ h64 (by omega)
    · exact lb_big (by omega)
/-- the steps of the groups -/
def gpP (st : bs_St) (Q : gp_S) : Nat → bs_Pr
  | 0 => (0, st)
  | g + 1 => pu (pu (pu (gpP st Q g) (7, 0, Q.2.2.1 g)) (8, 0, Q.2.2.2 g)) (3, 0, 0)
theorem gpP_n (st : bs_St) (Q : gp_S) : ∀ g, (gpP st Q g).1 = 3 * g := by
  intro g
  induction g with
  | zero => rfl
  | succ g ih =>
    show (gpP st Q g).1 + 1 + 1 + 1 = _
    omega
def mk3 (w : Nat) (f : Nat → Nat) (st : bs_St) : bs_Pr := puSet (gpP st (gpN f w) (gpN f w).1) (onM w f)
theorem gp_room {w : Nat} {f : Nat → Nat} (hw : w ≤ 64) (hf : okF w f) : (gpN f w).1 ≤ 64 ∧ (onM w f ≠ 0 → 3 * (gpN f w).1 < 192) := by
  have h1 := (gpN_t hw hf w (Nat.le_refl _)).2
  have h2 := cnt_le (fun i => decide (f i < 64)) w
  refine ⟨by omega, fun hz => ?_⟩
  obtain ⟨i, hi, h3⟩ := lb_of_ne hw hz
  have h3 := of_decide_eq_true h3
  have h4 := cnt_lt (p := fun i => decide (f i < 64)) (p' := fun _ => true) w (fun _ _ _ => rfl) ⟨i, hi, rfl, by simp [h3]⟩
  have h5 := cnt_le (fun _ => true) w
  omega
theorem mk3_ok {w : Nat} {f : Nat → Nat} {st : bs_St} (hw : w ≤ 64) (hf : okF w f) : okP w (mk3 w f st) := by
  have t := (gpN_t hw hf w (Nat.le_refl _)).1
  have all : ∀ g, g ≤ (gpN f w).1 → okP w (gpP st (gpN f w) g) := by
    intro g
    induction g with
    | zero => intro _ i hi; exact absurd hi (Nat.not_lt_zero i)
    | succ g ih =>
      intro hg
      obtain ⟨-, -, -, t4, t5⟩ := t g (by omega)
      refine (((ih (by omega)).pu ?_ (opL_n (j := 7) (by omega))).pu ?_ (opL_n (j := 8) (by omega))).pu ?_ (opL_n (j := 3) (by omega))
      · show fitsB w 7 0 _ = true
        simp [fitsB, t4]
      · show fitsB w 8 0 _ = true
        simp [fitsB, t5]
      · show fitsB w 3 0 0 = true
        simp [fitsB]
  exact (all _ (Nat.le_refl _)).set (lb_of_in hw)
