/-! Long.bitCount counts the bits. Byte by byte, over numbers. -/
def n55 : Nat → Nat
  | 0 => 0
  | n + 1 => 256 * n55 n + 85
def n33 : Nat → Nat
  | 0 => 0
  | n + 1 => 256 * n33 n + 51
def n0f : Nat → Nat
  | 0 => 0
  | n + 1 => 256 * n0f n + 15
theorem n55_s (n : Nat) : n55 (n + 1) = 256 * n55 n + 85 := rfl
theorem n33_s (n : Nat) : n33 (n + 1) = 256 * n33 n + 51 := rfl
theorem n0f_s (n : Nat) : n0f (n + 1) = 256 * n0f n + 15 := rfl
def bc1 (n x : Nat) : Nat := x - ((x / 2) &&& n55 n)
def bc2 (n x : Nat) : Nat := (x &&& n33 n) + ((x / 4) &&& n33 n)
def bc3 (n x : Nat) : Nat := (x + x / 16) &&& n0f n
/-- one byte -/
def by1 (b : Nat) : Nat := b - ((b / 2) &&& 85)
def by2 (b : Nat) : Nat := (b &&& 51) + ((b / 4) &&& 51)
def by3 (b : Nat) : Nat := (b + b / 16) &&& 15
def byc (b : Nat) : Nat := by3 (by2 (by1 b))
theorem land256 (a b c d : Nat) (hb : b < 256) (hd : d < 256) : (256 * a + b) &&& (256 * c + d) = 256 * (a &&& c) + (b &&& d) := by
  have h1 : b &&& d < 2 ^ 8 := Nat.and_lt_two_pow b hd
  apply Nat.eq_of_testBit_eq
  intro i
  rw [Nat.testBit_and, show (256 : Nat) = 2 ^ 8 from rfl, Nat.testBit_two_pow_mul_add a hb, Nat.testBit_two_pow_mul_add c hd, Nat.testBit_two_pow_mul_add _ h1]
  split
  · rw [Nat.testBit_and]
  · rw [Nat.testBit_and]
theorem by_1 : ∀ b, b < 256 → ∀ e, e < 2 → (128 * e + b / 2) &&& 85 = (b / 2) &&& 85 ∧ 128 * e + b / 2 < 256 ∧ ((b / 2) &&& 85) ≤ b ∧ by1 b < 256 := by decide +kernel
theorem by_2 : ∀ b, b < 256 → ∀ e, e < 4 → (64 * e + b / 4) &&& 51 = (b / 4) &&& 51 ∧ 64 * e + b / 4 < 256 ∧ by2 b < 256 := by decide +kernel
theorem by_3 : ∀ b, b < 69 → ∀ e, e < 5 → (b + 16 * e + b / 16) &&& 15 = by3 b ∧ b + 16 * e + b / 16 < 256 := by decide +kernel
theorem by_4 : ∀ b, b < 256 → by2 (by1 b) < 69 ∧ by2 (by1 b) % 16 < 5 ∧ byc b ≤ 8 := by decide +kernel
theorem bc1_s (n a b : Nat) (hb : b < 256) : bc1 (n + 1) (256 * a + b) = 256 * bc1 n a + by1 b := by
  unfold bc1 by1
  rw [n55_s]
  have e : (256 * a + b) / 2 = 256 * (a / 2) + (128 * (a % 2) + b / 2) := by omega
  have h1 := by_1 b hb (a % 2) (by omega)
  rw [e, land256 _ _ _ _ h1.2.1 (by decide), h1.1]
  have h2 : (a / 2 &&& n55 n) ≤ a / 2 := Nat.and_le_left
  have h3 := h1.2.2.1
  omega
theorem bc2_s (n a b : Nat) (hb : b < 256) : bc2 (n + 1) (256 * a + b) = 256 * bc2 n a + by2 b := by
  unfold bc2 by2
  rw [n33_s]
  have e : (256 * a + b) / 4 = 256 * (a / 4) + (64 * (a % 4) + b / 4) := by omega
  have h1 := by_2 b hb (a % 4) (by omega)
  rw [e, land256 _ _ _ _ h1.2.1 (by decide), h1.1, land256 _ _ _ _ hb (by decide)]
  omega
theorem bc3_s (n a b : Nat) (hb : b < 69) (ha : a % 16 < 5) : bc3 (n + 1) (256 * a + b) = 256 * bc3 n a + by3 b := by
  unfold bc3
  rw [n0f_s]
  have e : 256 * a + b + (256 * a + b) / 16 = 256 * (a + a / 16) + (b + 16 * (a % 16) + b / 16) := by omega
  have h1 := by_3 b hb (a % 16) ha
  rw [e, land256 _ _ _ _ h1.2 (by decide), h1.1]
theorem bc_mod (n a : Nat) : bc2 n (bc1 n a) % 16 < 5 := by
  cases n with
  | zero => simp [bc2, n33]
  | succ n =>
    have hb : a % 256 < 256 := Nat.mod_lt _ (by decide)
    have e : a = 256 * (a / 256) + a % 256 := by omega
    rw [e, bc1_s n _ _ hb, bc2_s n _ _ (by_1 _ hb 0 (by decide)).2.2.2]
    have := (by_4 _ hb).2.1
    omega
def bcc : Nat → Nat → Nat
  | 0, _ => 0
  | n + 1, x => 256 * bcc n (x / 256) + byc (x % 256)
theorem bcc_eq : ∀ n x, bc3 n (bc2 n (bc1 n x)) = bcc n x := by
  intro n
  induction n with
  | zero => intro x; simp [bc3, n0f, bcc]
  | succ n ih =>
    intro x
    have hb : x % 256 < 256 := Nat.mod_lt _ (by decide)
    have e : x = 256 * (x / 256) + x % 256 := by omega
    conv => lhs; rw [e]
    rw [bc1_s n _ _ hb, bc2_s n _ _ (by_1 _ hb 0 (by decide)).2.2.2, bc3_s n _ _ (by_4 _ hb).1 (bc_mod n _), ih]
    rfl
/-- the bits of a number below k -/
def rkN (u : Nat) : Nat → Nat
  | 0 => 0
  | k + 1 => if u.testBit k = true then rkN u k + 1 else rkN u k
theorem rkN_b : ∀ b, b < 256 → rkN b 8 = byc b := by decide +kernel
theorem rkN_lo (u v : Nat) : ∀ k, (∀ j, j < k → u.testBit j = v.testBit j) → rkN u k = rkN v k := by
  intro k
  induction k with
  | zero => intro _; rfl
  | succ k ih =>
    intro hh
    unfold rkN
    rw [hh k (by omega), ih (fun j hj => hh j (by omega))]
theorem rkN_s (u : Nat) : ∀ k, rkN u (8 + k) = byc (u % 256) + rkN (u / 256) k := by
  intro k
  induction k with
  | zero =>
    show rkN u 8 = _ + 0
    rw [Nat.add_zero, ← rkN_b _ (Nat.mod_lt _ (by decide))]
    apply rkN_lo
    intro j hj
    rw [show (256 : Nat) = 2 ^ 8 from rfl, Nat.testBit_mod_two_pow]
    simp [hj]
  | succ k ih =>
    show rkN u (8 + k + 1) = _
    unfold rkN
    rw [ih, show (256 : Nat) = 2 ^ 8 from rfl, Nat.testBit_div_two_pow, Nat.add_comm k 8]
    split <;> omega
theorem rk_N (m : Int64) : ∀ k, rk m k = rkN m.toBitVec.toNat k := by
  intro k
  induction k with
  | zero => rfl
  | succ k ih =>
    unfold rk rkN
    rw [ih]
    rfl
theorem bq_1 {y0 y1 z0 : Nat} (h0 : y0 = 256 * y1 + z0) (b0 : z0 ≤ 8) : y0 / 256 = y1 := by omega
theorem bq_2 {y0 y1 y2 y3 z0 z1 z2 : Nat} (h0 : y0 = 256 * y1 + z0) (h1 : y1 = 256 * y2 + z1) (h2 : y2 = 256 * y3 + z2) (b0 : z0 ≤ 8) (b1 : z1 ≤ 8) (b2 : z2 ≤ 8) : (y0 + y1) / 65536 = y2 + y3 := by omega
theorem bq_4 {y0 y1 y2 y3 y4 z0 z1 z2 z3 : Nat} (h0 : y0 = 256 * y1 + z0) (h1 : y1 = 256 * y2 + z1) (h2 : y2 = 256 * y3 + z2) (h3 : y3 = 256 * y4 + z3) (b0 : z0 ≤ 8) (b1 : z1 ≤ 8) (b2 : z2 ≤ 8) (b3 : z3 ≤ 8) : ∃ l, y0 = 4294967296 * y4 + l ∧ l ≤ 134744072 := ⟨16777216 * z3 + 65536 * z2 + 256 * z1 + z0, by omega, by omega⟩
theorem bq_5 {a b c d l0 l1 l2 l3 y0 y1 y2 y3 : Nat} (h0 : y0 = 4294967296 * a + l0) (h1 : y1 = 4294967296 * b + l1) (h2 : y2 = 4294967296 * c + l2) (h3 : y3 = 4294967296 * d + l3) (b0 : l0 ≤ 134744072) (b1 : l1 ≤ 134744072) (b2 : l2 ≤ 134744072) (b3 : l3 ≤ 134744072) : (y0 + y1 + (y2 + y3)) / 4294967296 = a + b + (c + d) := by omega
theorem bcc_s (n x : Nat) : bcc (n + 1) x = 256 * bcc n (x / 256) + byc (x % 256) := rfl
theorem bcc_8 (x : Nat) : (bcc 8 x + bcc 8 x / 256 + (bcc 8 x + bcc 8 x / 256) / 65536 + (bcc 8 x + bcc 8 x / 256 + (bcc 8 x + bcc 8 x / 256) / 65536) / 4294967296) % 128 = rkN x 64 ∧ bcc 8 x < 2 ^ 60 ∧ rkN x 64 ≤ 64 := by
  have hz : ∀ y, byc (y % 256) ≤ 8 := fun y => (by_4 _ (Nat.mod_lt _ (by decide))).2.2
  have r0 := rkN_s x 56
  have r1 := rkN_s (x / 256) 48
  have r2 := rkN_s (x / 256 / 256) 40
  have r3 := rkN_s (x / 256 / 256 / 256) 32
  have r4 := rkN_s (x / 256 / 256 / 256 / 256) 24
  have r5 := rkN_s (x / 256 / 256 / 256 / 256 / 256) 16
  have r6 := rkN_s (x / 256 / 256 / 256 / 256 / 256 / 256) 8
  have r7 := rkN_s (x / 256 / 256 / 256 / 256 / 256 / 256 / 256) 0
  have h0 := bcc_s 7 x
  have h1 := bcc_s 6 (x / 256)
  have h2 := bcc_s 5 (x / 256 / 256)
  have h3 := bcc_s 4 (x / 256 / 256 / 256)
  have h4 := bcc_s 3 (x / 256 / 256 / 256 / 256)
  have h5 := bcc_s 2 (x / 256 / 256 / 256 / 256 / 256)
  have h6 := bcc_s 1 (x / 256 / 256 / 256 / 256 / 256 / 256)
  have h7 := bcc_s 0 (x / 256 / 256 / 256 / 256 / 256 / 256 / 256)
  have b0 := hz x
  have b1 := hz (x / 256)
  have b2 := hz (x / 256 / 256)
  have b3 := hz (x / 256 / 256 / 256)
  have b4 := hz (x / 256 / 256 / 256 / 256)
  have b5 := hz (x / 256 / 256 / 256 / 256 / 256)
  have b6 := hz (x / 256 / 256 / 256 / 256 / 256 / 256)
  have b7 := hz (x / 256 / 256 / 256 / 256 / 256 / 256 / 256)
  have e8 : bcc 0 (x / 256 / 256 / 256 / 256 / 256 / 256 / 256 / 256) = 256 * 0 + 0 := rfl
  have s8 : rkN (x / 256 / 256 / 256 / 256 / 256 / 256 / 256 / 256) 0 = 0 := rfl
  simp only [Nat.reduceAdd] at h0 h1 h2 h3 h4 h5 h6 h7 r0 r1 r2 r3 r4 r5 r6 r7
  generalize byc (x % 256) = z0 at *
  generalize byc (x / 256 % 256) = z1 at *
  generalize byc (x / 256 / 256 % 256) = z2 at *
  generalize byc (x / 256 / 256 / 256 % 256) = z3 at *
  generalize byc (x / 256 / 256 / 256 / 256 % 256) = z4 at *
  generalize byc (x / 256 / 256 / 256 / 256 / 256 % 256) = z5 at *
  generalize byc (x / 256 / 256 / 256 / 256 / 256 / 256 % 256) = z6 at *
  generalize byc (x / 256 / 256 / 256 / 256 / 256 / 256 / 256 % 256) = z7 at *
  generalize bcc 8 x = y0 at *
  generalize bcc 7 _ = y1 at *
  generalize bcc 6 _ = y2 at *
  generalize bcc 5 _ = y3 at *
  generalize bcc 4 _ = y4 at *
  generalize bcc 3 _ = y5 at *
  generalize bcc 2 _ = y6 at *
  generalize bcc 1 _ = y7 at *
  generalize bcc 0 _ = y8 at *
  have hs : rkN x 64 = z0 + z1 + z2 + z3 + z4 + z5 + z6 + z7 := by rw [r0, r1, r2, r3, r4, r5, r6, r7, s8]; omega
  rw [hs, bq_1 h0 b0, bq_2 h0 h1 h2 b0 b1 b2]
  obtain ⟨l0, f0, g0⟩ := bq_4 h0 h1 h2 h3 b0 b1 b2 b3
  obtain ⟨l1, f1, g1⟩ := bq_4 h1 h2 h3 h4 b1 b2 b3 b4
  obtain ⟨l2, f2, g2⟩ := bq_4 h2 h3 h4 h5 b2 b3 b4 b5
  obtain ⟨l3, f3, g3⟩ := bq_4 h3 h4 h5 h6 b3 b4 b5 b6
  rw [bq_5 f0 f1 f2 f3 g0 g1 g2 g3]
  clear f0 f1 f2 f3 g0 g1 g2 g3 r0 r1 r2 r3 r4 r5 r6 r7 s8 hs hz
  subst e8
  refine ⟨?_, by omega, by omega⟩
  have m0 : y0 % 128 = z0 := by omega
  have m1 : y1 % 128 = z1 := by omega
  have m2 : y2 % 128 = z2 := by omega
  have m3 : y3 % 128 = z3 := by omega
  have m4 : y4 % 128 = z4 := by omega
  have m5 : y5 % 128 = z5 := by omega
  have m6 : y6 % 128 = z6 := by omega
  have m7 : y7 % 128 = z7 := by omega
  clear h0 h1 h2 h3 h4 h5 h6 h7
  omega
theorem us_nat {n : Nat} (hn : n < 64) (x : Int64) : (bs_ushr x (nI n)).toBitVec.toNat = x.toBitVec.toNat / 2 ^ n := by
  unfold bs_ushr
  show (x.toUInt64 >>> _).toBitVec.toNat = _
  rw [UInt64.toBitVec_shiftRight, BitVec.ushiftRight_eq', lb_cu n hn, BitVec.toNat_ushiftRight, Nat.shiftRight_eq_div_pow]
  rfl
theorem an_nat (x y : Int64) : (x &&& y).toBitVec.toNat = x.toBitVec.toNat &&& y.toBitVec.toNat := by
  rw [Int64.toBitVec_and, BitVec.toNat_and]
theorem ad_nat {x y : Int64} (h : x.toBitVec.toNat + y.toBitVec.toNat < 2 ^ 64) : (x + y).toBitVec.toNat = x.toBitVec.toNat + y.toBitVec.toNat := by
  rw [Int64.toBitVec_add, BitVec.toNat_add, Nat.mod_eq_of_lt h]
theorem sb_nat {x y : Int64} (h : y.toBitVec.toNat ≤ x.toBitVec.toNat) : (x - y).toBitVec.toNat = x.toBitVec.toNat - y.toBitVec.toNat := by
  rw [Int64.toBitVec_sub, BitVec.toNat_sub_of_le h]
def jl1 (x : Int64) : Int64 := x - (bs_ushr x 1 &&& 6148914691236517205)
def jl2 (x : Int64) : Int64 := (x &&& 3689348814741910323) + (bs_ushr x 2 &&& 3689348814741910323)
def jl3 (x : Int64) : Int64 := (x + bs_ushr x 4) &&& 1085102592571150095
def jl4 (x : Int64) : Int64 := x + bs_ushr x 8
def jl5 (x : Int64) : Int64 := x + bs_ushr x 16
def jl6 (x : Int64) : Int64 := x + bs_ushr x 32
theorem g55 : (6148914691236517205 : Int64).toBitVec.toNat = n55 8 := by decide +kernel
theorem g33 : (3689348814741910323 : Int64).toBitVec.toNat = n33 8 := by decide +kernel
theorem g0f : (1085102592571150095 : Int64).toBitVec.toNat = n0f 8 := by decide +kernel
theorem g33n : n33 8 = 3689348814741910323 := by decide +kernel
theorem jl1_n (x : Int64) : (jl1 x).toBitVec.toNat = bc1 8 x.toBitVec.toNat := by
  have h2 : (bs_ushr x 1 &&& 6148914691236517205).toBitVec.toNat = (x.toBitVec.toNat / 2 ^ 1) &&& n55 8 := by
    rw [an_nat, g55, show (1 : Int32) = nI 1 from rfl, us_nat (by decide)]
  unfold jl1 bc1
  rw [sb_nat (by rw [h2]; exact Nat.le_trans Nat.and_le_left (Nat.div_le_self _ _)), h2, Nat.pow_one]
theorem jl2_n (x : Int64) : (jl2 x).toBitVec.toNat = bc2 8 x.toBitVec.toNat ∧ bc2 8 x.toBitVec.toNat ≤ 7378697629483820646 := by
  have h2 : (bs_ushr x 2 &&& 3689348814741910323).toBitVec.toNat = (x.toBitVec.toNat / 4) &&& n33 8 := by
    rw [an_nat, g33, show (2 : Int32) = nI 2 from rfl, us_nat (by decide)]
  have h3 : (x &&& 3689348814741910323).toBitVec.toNat = x.toBitVec.toNat &&& n33 8 := by rw [an_nat, g33]
  have l1 : (x.toBitVec.toNat / 4) &&& n33 8 ≤ n33 8 := Nat.and_le_right
  have l2 : x.toBitVec.toNat &&& n33 8 ≤ n33 8 := Nat.and_le_right
  have l3 := g33n
  unfold jl2 bc2
  rw [ad_nat (by rw [h2, h3]; omega), h2, h3]
  exact ⟨rfl, by omega⟩
theorem jl3_n (x : Int64) (hx : x.toBitVec.toNat ≤ 7378697629483820646) : (jl3 x).toBitVec.toNat = bc3 8 x.toBitVec.toNat := by
  have h2 : (bs_ushr x 4).toBitVec.toNat = x.toBitVec.toNat / 16 := by rw [show (4 : Int32) = nI 4 from rfl, us_nat (by decide)]
  unfold jl3 bc3
  rw [an_nat, g0f, ad_nat (by rw [h2]; omega), h2]
theorem jl4_n (x : Int64) (hx : x.toBitVec.toNat < 2 ^ 60) : (jl4 x).toBitVec.toNat = x.toBitVec.toNat + x.toBitVec.toNat / 256 := by
  have h2 : (bs_ushr x 8).toBitVec.toNat = x.toBitVec.toNat / 256 := by rw [show (8 : Int32) = nI 8 from rfl, us_nat (by decide)]
  unfold jl4
  rw [ad_nat (by rw [h2]; omega), h2]
theorem jl5_n (x : Int64) (hx : x.toBitVec.toNat < 2 ^ 61) : (jl5 x).toBitVec.toNat = x.toBitVec.toNat + x.toBitVec.toNat / 65536 := by
  have h2 : (bs_ushr x 16).toBitVec.toNat = x.toBitVec.toNat / 65536 := by rw [show (16 : Int32) = nI 16 from rfl, us_nat (by decide)]
  unfold jl5
  rw [ad_nat (by rw [h2]; omega), h2]
theorem jl6_n (x : Int64) (hx : x.toBitVec.toNat < 2 ^ 62) : (jl6 x).toBitVec.toNat = x.toBitVec.toNat + x.toBitVec.toNat / 4294967296 := by
  have h2 : (bs_ushr x 32).toBitVec.toNat = x.toBitVec.toNat / 4294967296 := by rw [show (32 : Int32) = nI 32 from rfl, us_nat (by decide)]
  unfold jl6
  rw [ad_nat (by rw [h2]; omega), h2]
theorem jl_fin (m i6 : Int64) (c6 : i6.toBitVec.toNat % 128 = rk m 64) (f3 : rk m 64 ≤ 64) : i6.toInt32 &&& 127 = nI (rk m 64) := by
  apply Int32.toBitVec.inj
  apply BitVec.eq_of_toNat_eq
  rw [Int32.toBitVec_and, BitVec.toNat_and, Int64.toBitVec_toInt32, BitVec.signExtend_eq_setWidth_of_le _ (by decide), BitVec.toNat_setWidth]
  show (i6.toBitVec.toNat % 2 ^ 32) &&& (2 ^ 7 - 1) = (rk m 64) % 2 ^ 32
  rw [Nat.and_two_pow_sub_one_eq_mod]
  omega
theorem jl_all (m : Int64) : (jl6 (jl5 (jl4 (jl3 (jl2 (jl1 m)))))).toInt32 &&& 127 = nI (rk m 64) := by
  obtain ⟨f1, f2, f3⟩ := bcc_8 m.toBitVec.toNat
  have c2 := jl2_n (jl1 m)
  have c3 := jl3_n (jl2 (jl1 m)) (by rw [c2.1]; exact c2.2)
  rw [c2.1, jl1_n, bcc_eq] at c3
  have c4 := jl4_n (jl3 (jl2 (jl1 m))) (by rw [c3]; exact f2)
  rw [c3] at c4
  have c5 := jl5_n (jl4 (jl3 (jl2 (jl1 m)))) (by rw [c4]; omega)
  rw [c4] at c5
  have c6 := jl6_n (jl5 (jl4 (jl3 (jl2 (jl1 m))))) (by rw [c5]; omega)
  rw [c5] at c6
  exact jl_fin m _ (by rw [c6, rk_N]; exact f1) (by rw [rk_N]; exact f3)
theorem s_JL_bitCount {Φ : bs_R → bs_H → Prop} {h : bs_H} (m : Int64) (k : Φ (.ok (some (.int (nI (rk m 64))))) h) : w_JL_bitCount Φ m h := by
  rw [← jl_all] at k
  exact k
