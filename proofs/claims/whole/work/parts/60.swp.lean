/-! make(2), first rows: places as numbers below 64. -/
theorem nI_bit : ∀ a, a < 64 → ∀ b, b < 64 → nI a &&& nI b = nI (a &&& b) ∧ nI a ^^^ nI b = nI (a ^^^ b) ∧ nI a ||| nI b = nI (a ||| b) ∧ a &&& b < 64 ∧ a ^^^ b < 64 ∧ a ||| b < 64 := by decide +kernel
/-- the class's plan of swaps at a -/
def pX (h : bs_H) (a w : Nat) (wa we : Nat → Int32) (lm : Nat → Int64) (d g c : Int64) : Prop := h.1 a = some (bs_obj 5 [.ref (a + 1), .ref (a + 2), .ref (a + 3), .int (nI w), .long d, .long g, .long c]) ∧ h.1 (a + 1) = some (bs_ia 64 wa) ∧ h.1 (a + 2) = some (bs_ia 64 we) ∧ h.1 (a + 3) = some (bs_la 6 lm)
/-- the places of a set that lie in lower halves -/
def loP (w hh : Nat) (x : Int64) : Int64 := lb_of (fun p => decide (p &&& hh = 0) && lb x p) w
section XB
variable {Φ : bs_R → bs_H → Prop} {h : bs_H} {a w : Nat} {wa we : Nat → Int32} {lm : Nat → Int64} {d g c : Int64}
theorem s_X_lowerPlaces (p : pX h a w wa we lm d g c) (hw : w ≤ 64) {hh : Nat} (hhh : hh < 64) (x : Int64) (k : Φ (.ok (some (.long (loP w hh x)))) h) : w_X_lowerPlaces Φ a x (nI hh) h := by
  show w_X_lowerPlaces_6 Φ 1000 a x (nI hh) 0 (nI 0) h
  refine bs_for (σ := Int64) (fun u z s => w_X_lowerPlaces_6 Φ u a x (nI hh) s (nI z) h) (fun z s => s = lb_of (fun p => decide (p &&& hh = 0) && lb x p) z) w ?_ ?_ w 0 0 1000 (by omega) (by omega) rfl
  · intro u z s hz hs nx
    have e := nI_bit z (by omega) hh hhh
    have e0 : (nI z &&& nI hh = 0) ↔ z &&& hh = 0 := by rw [e.1]; exact nI_eq (a := z &&& hh) (b := 0) (by omega) (by decide)
    have no : ((decide (z &&& hh = 0) && lb x z) = false) → w_X_lowerPlaces_40 Φ (w_X_lowerPlaces_6 Φ u) a x (nI hh) s (nI z) h := by
      intro hb
      show w_X_lowerPlaces_6 Φ u a x (nI hh) s (nI z + 1) h
      rw [← nI_succ]
      exact nx _ (by rw [lb_of, if_neg (by rw [hb]; exact (fun q => by cases q)), hs])
    refine bs_fI_i p.1 rfl (bs_iff (nI_ge hz (by omega)) (bs_ife e0 (fun h0 => s_B_holds (by omega) (bs_kI_i (bs_ifz (fun hb => no (by rw [hb]; simp)) (fun hb => ?_)))) (fun h0 => no (by simp [h0]))))
    show w_X_lowerPlaces_6 Φ u a x (nI hh) (s ||| bs_shl 1 (nI z)) (nI z + 1) h
    rw [← nI_succ]
    exact nx _ (by rw [lb_of, if_pos (by rw [hb]; simp [h0]), hs])
  · intro u s hs
    refine bs_fI_i p.1 rfl (bs_ift (nI_le (by omega) (by omega)) ?_)
    rw [hs]
    exact k
end XB
