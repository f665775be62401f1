/-! make: is the width a power of two. -/
def pw2 (w : Nat) : Bool := w == 1 || w == 2 || w == 4 || w == 8 || w == 16 || w == 32 || w == 64
def ji1 (x : Int32) : Int32 := x - (bs_iushr x 1 &&& 1431655765)
def ji2 (x : Int32) : Int32 := (x &&& 858993459) + (bs_iushr x 2 &&& 858993459)
def ji3 (x : Int32) : Int32 := (x + bs_iushr x 4) &&& 252645135
def ji4 (x : Int32) : Int32 := x + bs_iushr x 8
def ji5 (x : Int32) : Int32 := x + bs_iushr x 16
def jiC (x : Int32) : Int32 := ji5 (ji4 (ji3 (ji2 (ji1 x)))) &&& 63
theorem ji_pw : ∀ w, w < 65 → 1 ≤ w → decide (jiC (nI w) = 1) = pw2 w ∧ decide ((nI w &&& (nI w - 1)) = 0) = pw2 w := by decide +kernel
section MK
variable {Φ : bs_R → bs_H → Prop} {h : bs_H} {w : Nat}
theorem s_JI_bitCount (x : Int32) (k : Φ (.ok (some (.int (jiC x)))) h) : w_JI_bitCount Φ x h := k
theorem s_B_isPowerOfTwo (h1 : 1 ≤ w) (hw : w ≤ 64) (k : Φ (.ok (some (.int (bz (pw2 w))))) h) : w_B_isPowerOfTwo Φ (nI w) h := by
  have e := (ji_pw w (by omega) h1).1
  refine s_JI_bitCount _ (bs_kI_i (bs_ifc (fun hc => ?_) (fun hc => ?_)))
  · rw [decide_eq_true hc] at e
    rw [← e] at k
    exact bs_rZ_1 k
  · rw [decide_eq_false hc] at e
    rw [← e] at k
    exact bs_rZ_0 k
end MK
