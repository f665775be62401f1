/-! least: both sides as programs over numbers; they agree by computing. -/
def gtD (D c : Nat) : Nat := D / 8 ^ c % 8
theorem gtD_set {D c v : Nat} (h0 : gtD D c = 0) (hv : v < 8) (c' : Nat) : gtD (D + v * 8 ^ c) c' = if c' = c then v else gtD D c' := by
  unfold gtD at *
  have p8 : ∀ e, 0 < 8 ^ e := fun e => Nat.pow_pos (by omega)
  by_cases e : c' = c
  · subst e
    rw [if_pos rfl, Nat.add_mul_div_right _ _ (p8 c')]
    omega
  · rw [if_neg e]
    rcases Nat.lt_or_ge c' c with h | h
    · have e1 : 8 ^ c = (8 * 8 ^ (c - c' - 1)) * 8 ^ c' := by
        rw [← Nat.pow_succ', ← Nat.pow_add]; congr 1; omega
      rw [e1, ← Nat.mul_assoc, Nat.add_mul_div_right _ _ (p8 c'), Nat.mul_left_comm, Nat.add_mul_mod_self_left]
    · have e1 : 8 ^ c' = 8 ^ c * (8 * 8 ^ (c' - c - 1)) := by
        rw [← Nat.pow_succ', ← Nat.pow_add]; congr 1; omega
      rw [e1, ← Nat.div_div_eq_div_mul, ← Nat.div_div_eq_div_mul, Nat.add_mul_div_right _ _ (p8 c), ← Nat.div_div_eq_div_mul, ← Nat.div_div_eq_div_mul]
      have : (D / 8 ^ c + v) / 8 = D / 8 ^ c / 8 := by omega
      rw [this]
/-- the number is computed before it is used -/
def frc {α : Type} (D : Nat) (k : Nat → α) : α := match D with
  | 0 => k 0
  | t + 1 => k (t + 1)
theorem frc_eq {α : Type} (D : Nat) (k : Nat → α) : frc D k = k D := by cases D <;> rfl
def lgl (w d m : Nat) : Bool := [145, 209, 210, 225, 273, 274, 276, 277, 289, 290, 291, 305].elem (w * 64 + d * 16 + m)
theorem lgl_is' : ∀ w, w < 4 → ∀ d, d < 3 → ∀ m, m < 15 → swB (w + 1) (nI (d + 1)) (nI (m + 1)).toInt64 = lgl (w + 1) (d + 1) (m + 1) := by decide +kernel
theorem lgl_is {w d m : Nat} (h1 : 1 ≤ w) (hw : w < 5) (hd : 1 ≤ d) (hd2 : d < 4) (hm : 1 ≤ m) (hm2 : m < 16) : swB w (nI d) (nI m).toInt64 = lgl w d m := by
  obtain ⟨w, rfl⟩ : ∃ v, w = v + 1 := ⟨w - 1, by omega⟩
  obtain ⟨d, rfl⟩ : ∃ v, d = v + 1 := ⟨d - 1, by omega⟩
  obtain ⟨m, rfl⟩ : ∃ v, m = v + 1 := ⟨m - 1, by omega⟩
  exact lgl_is' w (by omega) d (by omega) m (by omega)
def orN (c k : Nat) : Nat := c / 4 ^ k % 4
def swO (d m : Nat) (o : Nat → Nat) : Nat → Nat → Nat
  | 0 => o
  | k + 1 => if m.testBit k = true then va_up (va_up (swO d m o k) k (swO d m o k (k + d))) (k + d) (swO d m o k k) else swO d m o k
def cdN (o : Nat → Nat) (w : Nat) : Nat → Nat
  | 0 => 0
  | r + 1 => 4 * cdN o w r + o (w - 1 - r)
def nxC (w c d m : Nat) : Nat := cdN (swO d m (orN c) (w - d)) w w
def sp1 (w c D d m : Nat) : Nat := if lgl w d m = true then frc (nxC w c d m) (fun c' => if gtD D c' = 0 then D + (gtD D c + 1) * 8 ^ c' else D) else D
def spM (w c d D : Nat) : Nat → Nat
  | 0 => D
  | m + 1 => frc (spM w c d D m) (fun D => sp1 w c D d (m + 1))
def spD (w c D : Nat) : Nat → Nat
  | 0 => D
  | d + 1 => frc (spD w c D d) (fun D => spM w c (d + 1) D 7)
def bfC (w n D : Nat) : Nat → Nat
  | 0 => D
  | c + 1 => frc (bfC w n D c) (fun D => if gtD D c = n + 1 then spD w c D (w - 1) else D)
def bfN (w D : Nat) : Nat → Nat
  | 0 => D
  | n + 1 => frc (bfN w D n) (fun D => bfC w n D 256)
def bfs (w : Nat) : Nat := bfN w (8 ^ cdN (fun k => k) w w) 4
def exB (x : Int64) (sh : Int32) (m : Int64) : Int64 := (x ^^^ ((x ^^^ bs_ushr x sh) &&& m)) ^^^ bs_shl ((x ^^^ bs_ushr x sh) &&& m) sh
def fldN (m : Nat) : Nat → Int64
  | 0 => 0
  | k + 1 => if m.testBit k = true then fldN m k ||| bs_shl 15 (4 * nI k) else fldN m k
def canA (w : Nat) (t : Int64) : Nat → Int64 → Bool
  | 0, x => decide (x = t)
  | s + 1, x => decide (x = t) || (List.range (w - 1)).any (fun d => (List.range 15).any (fun m => lgl w (d + 1) (m + 1) && canA w t s (exB x (4 * nI (d + 1)) (fldN (m + 1) 4))))
def lsB (w : Nat) (t u : Int64) : Nat := if canA w t 0 u = true then 0 else if canA w t 1 u = true then 1 else if canA w t 2 u = true then 2 else 3
def pkC (f : Nat → Nat) : Nat → Int64
  | 0 => 0
  | k + 1 => pkC f k ||| bs_shl (nI (f k)).toInt64 (4 * nI k)
def fq (a b c d k : Nat) : Nat := if k = 0 then a else if k = 1 then b else if k = 2 then c else d
theorem bfs_1 : bfs 1 = 1 := by decide +kernel
theorem bfs_2 : bfs 2 = 4112 := by decide +kernel
theorem bfs_3 : bfs 3 = 325786204268099743193587945832448 := by decide +kernel
theorem bfs_4 : bfs 4 = 80576832696027951365666154012269517361469697557604676429486985454038706226754866087598883316796344543974318895138824152501009469736810332762729963969119805567963144378901649568197876964012105216736052117504 := by decide +kernel
def lsQ (w D a b c d : Nat) : Bool := !permB (fq a b c d) w || decide (lsB w (pkC (fq a b c d) w) (pkC (fun k => k) w) + 1 = gtD D (cdN (fq a b c d) w w))
theorem ls_1 : lsQ 1 1 0 0 0 0 = true := by decide +kernel
theorem ls_2 : ∀ a, a < 2 → ∀ b, b < 2 → lsQ 2 4112 a b 0 0 = true := by decide +kernel
theorem ls_3 : ∀ a, a < 3 → ∀ b, b < 3 → ∀ c, c < 3 → lsQ 3 325786204268099743193587945832448 a b c 0 = true := by decide +kernel
theorem ls_4 : ∀ a, a < 4 → ∀ b, b < 4 → ∀ c, c < 4 → ∀ d, d < 4 → lsQ 4 80576832696027951365666154012269517361469697557604676429486985454038706226754866087598883316796344543974318895138824152501009469736810332762729963969119805567963144378901649568197876964012105216736052117504 a b c d = true := by decide +kernel
theorem pkC_congr {f g : Nat → Nat} : ∀ k, (∀ i, i < k → f i = g i) → pkC f k = pkC g k := by
  intro k
  induction k with
  | zero => intro _; rfl
  | succ k ih => intro h; rw [pkC, pkC, ih (fun i hi => h i (by omega)), h k (by omega)]
theorem cdN_congr {f g : Nat → Nat} {w : Nat} (h : ∀ i, i < w → f i = g i) : ∀ r, r ≤ w → cdN f w r = cdN g w r := by
  intro r
  induction r with
  | zero => intro _; rfl
  | succ r ih => intro hr; rw [cdN, cdN, ih (by omega), h _ (by omega)]
theorem permB_congr {f g : Nat → Nat} {w : Nat} (h : ∀ i, i < w → f i = g i) (hp : permB f w = true) : permB g w = true := by
  rw [permB_iff] at *
  intro k hk
  have := hp k hk
  rw [← h k hk]
  exact ⟨this.1, fun j hj => by rw [← h j (by omega)]; exact this.2 j hj⟩
theorem ls_eq {f : Nat → Nat} {w : Nat} (h1 : 1 ≤ w) (hw : w ≤ 4) (hf : ∀ k, k < w → f k < w) (hp : permB f w = true) : lsB w (pkC f w) (pkC (fun k => k) w) + 1 = gtD (bfs w) (cdN f w w) := by
  have key : ∀ (D a b c d : Nat), lsQ w D a b c d = true → (∀ i, i < w → f i = fq a b c d i) → lsB w (pkC f w) (pkC (fun k => k) w) + 1 = gtD D (cdN f w w) := by
    intro D a b c d hq hi
    unfold lsQ at hq
    rw [permB_congr hi hp] at hq
    rw [pkC_congr w hi, cdN_congr hi w (Nat.le_refl _)]
    simpa using hq
  have hc : w = 1 ∨ w = 2 ∨ w = 3 ∨ w = 4 := by omega
  rcases hc with e | e | e | e
  · subst e
    rw [bfs_1]
    have a := hf 0 (by omega)
    refine key 1 0 0 0 0 ls_1 (fun i hi => ?_)
    obtain rfl : i = 0 := by omega
    show f 0 = 0
    omega
  · subst e
    rw [bfs_2]
    refine key _ (f 0) (f 1) 0 0 (ls_2 _ (hf 0 (by omega)) _ (hf 1 (by omega))) (fun i hi => ?_)
    have : i = 0 ∨ i = 1 := by omega
    rcases this with e | e <;> subst e <;> rfl
  · subst e
    rw [bfs_3]
    refine key _ (f 0) (f 1) (f 2) 0 (ls_3 _ (hf 0 (by omega)) _ (hf 1 (by omega)) _ (hf 2 (by omega))) (fun i hi => ?_)
    have : i = 0 ∨ i = 1 ∨ i = 2 := by omega
    rcases this with e | e | e <;> subst e <;> rfl
  · subst e
    rw [bfs_4]
    refine key _ (f 0) (f 1) (f 2) (f 3) (ls_4 _ (hf 0 (by omega)) _ (hf 1 (by omega)) _ (hf 2 (by omega)) _ (hf 3 (by omega))) (fun i hi => ?_)
    have : i = 0 ∨ i = 1 ∨ i = 2 ∨ i = 3 := by omega
    rcases this with e | e | e | e <;> subst e <;> rfl
