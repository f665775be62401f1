/-! Bits of a long, and places of a word as ints. -/
def lb (x : Int64) (i : Nat) : Bool := x.toBitVec.getLsbD i
theorem lb_ext {x y : Int64} (h : ∀ i, i < 64 → lb x i = lb y i) : x = y := Int64.toBitVec.inj (BitVec.eq_of_getLsbD_eq fun i hi => h i hi)
theorem lb_big {x : Int64} {i : Nat} (h : 64 ≤ i) : lb x i = false := BitVec.getLsbD_of_ge _ _ h
theorem lb_or (x y : Int64) (i : Nat) : lb (x ||| y) i = (lb x i || lb y i) := by simp [lb]
theorem lb_and (x y : Int64) (i : Nat) : lb (x &&& y) i = (lb x i && lb y i) := by simp [lb]
theorem lb_xor (x y : Int64) (i : Nat) : lb (x ^^^ y) i = (lb x i ^^ lb y i) := by simp [lb]
theorem lb_0 (i : Nat) : lb 0 i = false := by simp [lb]
theorem lb_1 (i : Nat) : lb 1 i = decide (i = 0) := by
  unfold lb
  rw [Int64.toBitVec_one]
  by_cases h : i = 0
  · subst h; rfl
  · simp [BitVec.getLsbD_one, h]
theorem lb_m1 {i : Nat} (h : i < 64) : lb (-1) i = true := by
  unfold lb
  rw [show (-1 : Int64).toBitVec = BitVec.allOnes 64 from by decide, BitVec.getLsbD_allOnes]
  exact decide_eq_true h
theorem lb_c : ∀ k, k < 64 → (((nI k).toInt64 &&& 63).toBitVec.smod 64).toNat = k := by decide +kernel
theorem lb_cu : ∀ k, k < 64 → (((nI k).toInt64.toUInt64 &&& Int64.toUInt64 63).toBitVec % 64).toNat = k := by decide +kernel
theorem lb_shl {n i : Nat} (hn : n < 64) (hi : i < 64) (x : Int64) : lb (bs_shl x (nI n)) i = (decide (n ≤ i) && lb x (i - n)) := by
  unfold lb bs_shl
  rw [Int64.toBitVec_shiftLeft, BitVec.shiftLeft_eq', lb_c n hn, BitVec.getLsbD_shiftLeft]
  by_cases h : n ≤ i
  · simp [hi, h, Nat.not_lt.mpr h]
  · simp [h, Nat.not_le.mp h]
theorem lb_ushr {n : Nat} (hn : n < 64) (i : Nat) (x : Int64) : lb (bs_ushr x (nI n)) i = lb x (n + i) := by
  unfold lb bs_ushr
  show (x.toUInt64 >>> _).toBitVec.getLsbD i = _
  rw [UInt64.toBitVec_shiftRight, BitVec.ushiftRight_eq', lb_cu n hn, BitVec.getLsbD_ushiftRight]
  rfl
theorem lb_shr {n i : Nat} (hn : n < 64) (hi : n + i < 64) (x : Int64) : lb (bs_shr x (nI n)) i = lb x (n + i) := by
  unfold lb bs_shr
  rw [Int64.toBitVec_shiftRight, BitVec.sshiftRight_eq', lb_c n hn, BitVec.getLsbD_sshiftRight]
  have h1 : ¬ 64 ≤ i := by omega
  simp [h1, hi]
theorem lb_pow {n i : Nat} (hn : n < 64) (hi : i < 64) : lb (bs_shl 1 (nI n)) i = decide (i = n) := by
  rw [lb_shl hn hi, lb_1]
  by_cases h : n ≤ i
  · by_cases h2 : i = n
    · simp [h2]
    · have : ¬ i - n = 0 := by omega
      simp [h, h2, this]
  · have : ¬ i = n := by omega
    simp [h, this]
theorem lb_odd (x : Int64) : (x &&& 1) = 0 ↔ lb x 0 = false := by
  constructor
  · intro h
    have h1 := congrArg (fun z => lb z 0) h
    simp only [lb_and, lb_1, lb_0] at h1
    simpa using h1
  · intro h
    apply lb_ext
    intro i hi
    rw [lb_and, lb_1, lb_0]
    by_cases h2 : i = 0
    · subst h2; simp [h]
    · simp [h2]
theorem lb_odd1 (x : Int64) : (x &&& 1) = 1 ↔ lb x 0 = true := by
  constructor
  · intro h
    have h1 := congrArg (fun z => lb z 0) h
    simp only [lb_and, lb_1] at h1
    simpa using h1
  · intro h
    apply lb_ext
    intro i hi
    rw [lb_and, lb_1]
    by_cases h2 : i = 0
    · subst h2; simp [h]
    · simp [h2]
theorem lb_holds {n : Nat} (hn : n < 64) (x : Int64) : (bs_ushr x (nI n) &&& 1) = 0 ↔ lb x n = false := by rw [lb_odd, lb_ushr hn, Nat.add_zero]
theorem lb_isIn {n : Nat} (hn : n < 64) (x : Int64) : (bs_shr x (nI n) &&& 1) = 1 ↔ lb x n = true := by rw [lb_odd1, lb_shr hn (by omega), Nat.add_zero]
theorem lb_ne0 (x : Int64) : x = 0 ↔ ∀ i, i < 64 → lb x i = false := by
  constructor
  · intro h i _
    rw [h, lb_0]
  · intro h
    apply lb_ext
    intro i hi
    rw [h i hi, lb_0]
/-- all bits below w -/
def lb_all (w : Nat) : Int64 := bs_ushr (-1) (nI (64 - w))
theorem lb_all_at {w i : Nat} (h1 : 1 ≤ w) (hw : w ≤ 64) (hi : i < 64) : lb (lb_all w) i = decide (i < w) := by
  unfold lb_all
  rw [lb_ushr (by omega)]
  by_cases h : i < w
  · rw [lb_m1 (by omega)]; simp [h]
  · rw [lb_big (by omega)]; simp [h]
/-- the bits below n for which p holds -/
def lb_of (p : Nat → Bool) : Nat → Int64
  | 0 => 0
  | n + 1 => if p n then lb_of p n ||| bs_shl 1 (nI n) else lb_of p n
theorem lb_of_at (p : Nat → Bool) {i : Nat} (hi : i < 64) : ∀ n, n ≤ 64 → lb (lb_of p n) i = (decide (i < n) && p i) := by
  intro n
  induction n with
  | zero => intro _; simp [lb_of, lb_0]
  | succ n ih =>
    intro hn
    unfold lb_of
    by_cases hp : p n = true
    · rw [if_pos hp, lb_or, ih (by omega), lb_pow (by omega) hi]
      by_cases h : i = n
      · subst h; simp [hp]
      · have h2 : (i < n + 1) ↔ (i < n) := by omega
        simp [h, h2]
    · rw [if_neg hp, ih (by omega)]
      by_cases h : i = n
      · subst h; simp [hp]
      · have h2 : (i < n + 1) ↔ (i < n) := by omega
        simp [h2]
