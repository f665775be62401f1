/-! make(0) and make(1), on both sides. -/
def cnt (p : Nat → Bool) : Nat → Nat
  | 0 => 0
  | n + 1 => if p n = true then cnt p n + 1 else cnt p n
theorem cnt_le (p : Nat → Bool) : ∀ n, cnt p n ≤ n := by
  intro n
  induction n with
  | zero => exact Nat.le_refl _
  | succ n ih => unfold cnt; split <;> omega
theorem cnt_mono {p p' : Nat → Bool} : ∀ n, (∀ i, i < n → p i = true → p' i = true) → cnt p n ≤ cnt p' n := by
  intro n
  induction n with
  | zero => intro _; exact Nat.le_refl _
  | succ n ih =>
    intro hh
    have h1 := ih (fun i hi => hh i (by omega))
    unfold cnt
    by_cases hp : p n = true
    · rw [if_pos hp, if_pos (hh n (by omega) hp)]; omega
    · rw [if_neg hp]; split <;> omega
theorem cnt_lt {p p' : Nat → Bool} : ∀ n, (∀ i, i < n → p i = true → p' i = true) → (∃ i, i < n ∧ p' i = true ∧ p i = false) → cnt p n + 1 ≤ cnt p' n := by
  intro n
  induction n with
  | zero => rintro _ ⟨i, hi, _⟩; omega
  | succ n ih =>
    rintro hh ⟨i, hi, h1, h2⟩
    by_cases hin : i = n
    · subst hin
      have h3 := cnt_mono (p := p) (p' := p') i (fun j hj => hh j (by omega))
      unfold cnt
      rw [if_pos h1, if_neg (by rw [h2]; exact (fun q => by cases q))]
      omega
    · have h3 := ih (fun j hj => hh j (by omega)) ⟨i, by omega, h1, h2⟩
      unfold cnt
      by_cases hp : p n = true
      · rw [if_pos hp, if_pos (hh n (by omega) hp)]; omega
      · rw [if_neg hp]; split <;> omega
theorem lb_of_ne {p : Nat → Bool} {w : Nat} (hw : w ≤ 64) (h : lb_of p w ≠ 0) : ∃ i, i < w ∧ p i = true := by
  apply Classical.byContradiction
  intro hn
  apply h
  rw [lb_ne0]
  intro i hi
  rw [lb_of_at p hi w hw]
  by_cases h1 : i < w
  · cases h2 : p i with
    | false => simp
    | true => exact absurd ⟨i, h1, h2⟩ hn
  · simp [h1]
theorem lb_of_in {p : Nat → Bool} {w : Nat} (hw : w ≤ 64) : inW (lb_of p w) w = true := by
  rw [inW_iff]
  intro k hk hk2
  rw [lb_of_at p hk w hw]
  have : ¬ k < w := by omega
  simp [this]
theorem lb_of_congr {p p' : Nat → Bool} : ∀ w, (∀ i, i < w → p i = p' i) → lb_of p w = lb_of p' w := by
  intro w
  induction w with
  | zero => intro _; rfl
  | succ w ih => intro hh; unfold lb_of; rw [hh w (by omega), ih (fun i hi => hh i (by omega))]
/-- moves, one after another -/
def mkN (op : Int32) (d : Nat → Int32) (M : Nat → Int64) (st : bs_St) : Nat → bs_Pr
  | 0 => (0, st)
  | k + 1 => puMove (mkN op d M st k) op (d k) (M k)
theorem mkN_n {op : Int32} {d : Nat → Int32} {M : Nat → Int64} {st : bs_St} {w K : Nat} {f φ : Nat → Nat} (hM : ∀ k, k < K → M k ≠ 0 → ∃ i, i < w ∧ f i < 64 ∧ φ i = k) : ∀ k, k ≤ K → (mkN op d M st k).1 ≤ 3 * cnt (fun i => decide (f i < 64) && decide (φ i < k)) w ∧ (k < K → M k ≠ 0 → cnt (fun i => decide (f i < 64) && decide (φ i < k)) w + 1 ≤ cnt (fun i => decide (f i < 64) && decide (φ i < k + 1)) w) := by
  have up : ∀ k, k < K → M k ≠ 0 → cnt (fun i => decide (f i < 64) && decide (φ i < k)) w + 1 ≤ cnt (fun i => decide (f i < 64) && decide (φ i < k + 1)) w := by
    intro k hk hm
    obtain ⟨i, hi, h1, h2⟩ := hM k hk hm
    refine cnt_lt w (fun j hj hp => ?_) ⟨i, hi, by simp [h1, h2], by simp [h2]⟩
    simp only [Bool.and_eq_true, decide_eq_true_eq] at hp ⊢
    exact ⟨hp.1, by omega⟩
  intro k
  induction k with
  | zero => intro _; exact ⟨Nat.zero_le _, up 0⟩
  | succ k ih =>
    intro hk
    refine ⟨?_, up (k + 1)⟩
    have h1 := (ih (by omega)).1
    show (puMove _ _ _ _).1 ≤ _
    unfold puMove
    by_cases hz : M k = 0
    · rw [if_pos hz]
      refine Nat.le_trans h1 (Nat.mul_le_mul_left 3 (cnt_mono w (fun j hj hp => ?_)))
      simp only [Bool.and_eq_true, decide_eq_true_eq] at hp ⊢
      exact ⟨hp.1, by omega⟩
    · rw [if_neg hz]
      have h2 := up k (by omega) hz
      show (mkN op d M st k).1 + 1 + 1 + 1 ≤ _
      omega
theorem mkN_room {op : Int32} {d : Nat → Int32} {M : Nat → Int64} {st : bs_St} {w K : Nat} {f φ : Nat → Nat} (hw : w ≤ 64) (hM : ∀ k, k < K → M k ≠ 0 → ∃ i, i < w ∧ f i < 64 ∧ φ i = k) {k : Nat} (hk : k < K) (hz : M k ≠ 0) : (mkN op d M st k).1 + 2 < 192 := by
  have h1 := mkN_n (op := op) (d := d) (st := st) hM k (by omega)
  have h2 := h1.2 hk hz
  have h3 := cnt_le (fun i => decide (f i < 64) && decide (φ i < k + 1)) w
  omega
theorem mkN_last {op : Int32} {d : Nat → Int32} {M : Nat → Int64} {st : bs_St} {w K : Nat} {f φ : Nat → Nat} (hw : w ≤ 64) (hM : ∀ k, k < K → M k ≠ 0 → ∃ i, i < w ∧ f i < 64 ∧ φ i = k) (hz : lb_of (fun i => decide (f i = 65)) w ≠ 0) : (mkN op d M st K).1 < 192 := by
  have h1 := (mkN_n (op := op) (d := d) (st := st) hM K (Nat.le_refl _)).1
  obtain ⟨i, hi, h2⟩ := lb_of_ne hw hz
  have h2 := of_decide_eq_true h2
  have h3 := cnt_lt (p := fun i => decide (f i < 64) && decide (φ i < K)) (p' := fun _ => true) w (fun _ _ _ => rfl) ⟨i, hi, rfl, by simp [h2]⟩
  have h4 := cnt_le (fun _ => true) w
  omega
theorem mkN_ok {op : Int32} {d : Nat → Int32} {M : Nat → Int64} {st : bs_St} {w K : Nat} (ho : opL op) (hd : ∀ k, k < K → fitsB w op (d k) 0 = true) (hm : ∀ k, k < K → inW (M k) w = true) : ∀ k, k ≤ K → okP w (mkN op d M st k) := by
  intro k
  induction k with
  | zero => intro _ i hi; exact absurd hi (Nat.not_lt_zero i)
  | succ k ih => intro hk; exact (ih (by omega)).move (hd k (by omega)) ho (hm k (by omega))
theorem i32_add {a b : Int32} (h : -1000 ≤ a.toInt + b.toInt ∧ a.toInt + b.toInt ≤ 1000) : (a + b).toInt = a.toInt + b.toInt := by
  rw [Int32.toInt_add, Int.bmod_def]
  split <;> omega
theorem i32_eq {a b : Int32} : a = b ↔ a.toInt = b.toInt := ⟨fun h => by rw [h], fun h => Int32.toInt_inj.mp h⟩
/-- the amount of the k-th shift -/
def dS (w k : Nat) : Int32 := 1 - nI w + nI k
theorem dS_int {w k : Nat} (hw : w ≤ 64) (hk : k ≤ 200) : (dS w k).toInt = 1 - (w : Int) + k := by
  have e1 : (1 : Int32).toInt = 1 := rfl
  have e2 : (nI w).toInt = (w : Int) := nI_toInt (by omega)
  have e3 : (nI k).toInt = (k : Int) := nI_toInt (by omega)
  have e4 : (1 - nI w : Int32).toInt = 1 - (w : Int) := by rw [i32_sub (by omega), e1, e2]
  unfold dS
  rw [i32_add (by omega), e4, e3]
theorem dS_s (w k : Nat) : dS w (k + 1) = dS w k + 1 := by
  unfold dS
  rw [nI_succ, Int32.add_assoc]
def mvP (f : Nat → Nat) (d : Int32) (i : Nat) : Bool := decide (f i < 64) && decide (nI i - nI (f i) = d)
def roP (w : Nat) (f : Nat → Nat) (k i : Nat) : Bool := decide (f i < 64) && decide ((if 0 ≤ nI i - nI (f i) then nI i - nI (f i) else nI i - nI (f i) + nI w) = nI k)
def onM (w : Nat) (f : Nat → Nat) : Int64 := lb_of (fun i => decide (f i = 65)) w
def mvM (w : Nat) (f : Nat → Nat) (k : Nat) : Int64 := lb_of (mvP f (dS w k)) w
def roM (w : Nat) (f : Nat → Nat) (k : Nat) : Int64 := lb_of (roP w f k) w
/-- what make(0), make(1) make -/
def mk0 (w : Nat) (f : Nat → Nat) (st : bs_St) : bs_Pr := puSet (mkN 0 (dS w) (mvM w f) st (2 * w - 1)) (onM w f)
def mk1 (w : Nat) (f : Nat → Nat) (st : bs_St) : bs_Pr := puSet (mkN 1 nI (roM w f) st w) (onM w f)
theorem far_int {w : Nat} {f : Nat → Nat} (hw : w ≤ 64) (hf : okF w f) {i : Nat} (hi : i < w) (h64 : f i < 64) : f i < w ∧ (nI i - nI (f i)).toInt = (i : Int) - (f i : Int) := by
  have hfi : f i < w := by rcases hf i hi with h | h | h <;> omega
  have e2 : (nI i).toInt = (i : Int) := nI_toInt (by omega)
  have e3 : (nI (f i)).toInt = (f i : Int) := nI_toInt (by omega)
  exact ⟨hfi, by rw [i32_sub (by omega), e2, e3]⟩
theorem mv_idx {w : Nat} {f : Nat → Nat} (hw : w ≤ 64) (hf : okF w f) : ∀ k, k < 2 * w - 1 → mvM w f k ≠ 0 → ∃ i, i < w ∧ f i < 64 ∧ i + (w - 1) - f i = k := by
  intro k hk hz
  obtain ⟨i, hi, hp⟩ := lb_of_ne hw hz
  unfold mvP at hp
  simp only [Bool.and_eq_true, decide_eq_true_eq] at hp
  obtain ⟨h1, h2⟩ := far_int hw hf hi hp.1
  rw [hp.2, dS_int hw (by omega)] at h2
  exact ⟨i, hi, hp.1, by omega⟩
theorem ro_idx {w : Nat} {f : Nat → Nat} (hw : w ≤ 64) : ∀ k, k < w → roM w f k ≠ 0 → ∃ i, i < w ∧ f i < 64 ∧ (if 0 ≤ nI i - nI (f i) then nI i - nI (f i) else nI i - nI (f i) + nI w).toNatClampNeg = k := by
  intro k hk hz
  obtain ⟨i, hi, hp⟩ := lb_of_ne hw hz
  unfold roP at hp
  simp only [Bool.and_eq_true, decide_eq_true_eq] at hp
  exact ⟨i, hi, hp.1, by rw [hp.2, nI_clamp (by omega)]⟩
/-- the class's mask of a rotation -/
theorem ro_cls {w : Nat} {f : Nat → Nat} (hw : w ≤ 64) (hf : okF w f) {k : Nat} (hk : k < w) : lb_of (fun i => decide (f i < 64) && decide (nI i - nI (f i) = nI k)) w ||| lb_of (fun i => decide (f i < 64) && decide (nI i - nI (f i) = nI k - nI w)) w = roM w f k := by
  apply lb_ext
  intro i hi
  unfold roM
  rw [lb_or, lb_of_at _ hi w hw, lb_of_at _ hi w hw, lb_of_at _ hi w hw]
  by_cases hiw : i < w
  · by_cases h64 : f i < 64
    · obtain ⟨h1, h2⟩ := far_int hw hf hiw h64
      have ek : (nI k).toInt = (k : Int) := nI_toInt (by omega)
      have ew : (nI w).toInt = (w : Int) := nI_toInt (by omega)
      have ekw : (nI k - nI w).toInt = (k : Int) - w := by rw [i32_sub (by omega), ek, ew]
      have efw : (nI i - nI (f i) + nI w).toInt = (i : Int) - f i + w := by rw [i32_add (by omega), h2, ew]
      have z0 : (0 : Int32).toInt = 0 := rfl
      unfold roP
      have c1 : (nI i - nI (f i) = nI k) ↔ (i : Int) - f i = k := by rw [i32_eq, h2, ek]
      have c2 : (nI i - nI (f i) = nI k - nI w) ↔ (i : Int) - f i = (k : Int) - w := by rw [i32_eq, h2, ekw]
      have c3 : (0 ≤ nI i - nI (f i)) ↔ (0 : Int) ≤ (i : Int) - f i := by rw [Int32.le_iff_toInt_le, h2, z0]
      have c4 : (nI i - nI (f i) + nI w = nI k) ↔ (i : Int) - f i + w = k := by rw [i32_eq, efw, ek]
      by_cases h0 : (0 : Int) ≤ (i : Int) - f i
      · rw [if_pos (c3.mpr h0)]
        have n2 : ¬ (i : Int) - f i = (k : Int) - w := by omega
        simp [hiw, h64, c2, n2]
      · rw [if_neg (fun q => h0 (c3.mp q))]
        have n1 : ¬ (i : Int) - f i = k := by omega
        have n3 : ((i : Int) - f i = (k : Int) - w) ↔ ((i : Int) - f i + w = k) := by omega
        simp [hiw, h64, c1, c2, c4, n1, n3]
    · simp [h64, roP]
  · simp [hiw]
