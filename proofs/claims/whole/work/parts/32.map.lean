/-! The class's map: what its methods do to the picture (an object at a, its array at a + 1). -/
def pM (h : bs_H) (a : Nat) (w : Int32) (g : Nat → Int32) : Prop := h.1 a = some (bs_obj 1 [.ref (a + 1), .int w]) ∧ h.1 (a + 1) = some (bs_ia 64 g)
theorem pM.set {h : bs_H} {a : Nat} {w : Int32} {g : Nat → Int32} (p : pM h a w g) (w' : Int32) (g' : Nat → Int32) : pM (bs_set (bs_set h a (bs_obj 1 [.ref (a + 1), .int w'])) (a + 1) (bs_ia 64 g')) a w' g' := ⟨by rw [bs_set_ne (by omega), bs_set_eq], bs_set_eq⟩
theorem pM.seta {h : bs_H} {a : Nat} {w : Int32} {g : Nat → Int32} (p : pM h a w g) (g' : Nat → Int32) : pM (bs_set h (a + 1) (bs_ia 64 g')) a w g' := ⟨by rw [bs_set_ne (by omega)]; exact p.1, bs_set_eq⟩
theorem pM.off {h : bs_H} {a b : Nat} {w : Int32} {g : Nat → Int32} {x : bs_E} (p : pM h a w g) (h1 : b ≠ a) (h2 : b ≠ a + 1) : pM (bs_set h b x) a w g := ⟨by rw [bs_set_ne (Ne.symm h1)]; exact p.1, by rw [bs_set_ne (Ne.symm h2)]; exact p.2⟩
section SM
variable {Φ : bs_R → bs_H → Prop} {h : bs_H} {a : Nat} {w : Nat} {g : Nat → Int32}
theorem s_M_bits {v : Int32} (p : pM h a v g) (k : Φ (.ok (some (.int v))) h) : w_M_bits Φ a h := bs_fI_i p.1 rfl k
theorem s_M_hasBit (p : pM h a (nI w) g) (hw : w ≤ 64) (x : Int32) (k : Φ (.ok (some (.int (bz (decide (0 ≤ x.toInt ∧ x.toInt < w)))))) h) : w_M_hasBit Φ a x h := by
  have e : (nI w).toInt = (w : Int) := nI_toInt (by omega)
  refine bs_ifc (fun hc => ?_) (fun hc => ?_)
  · have h1 : ¬ (0 ≤ x.toInt ∧ x.toInt < w) := by
      rw [Int32.lt_iff_toInt_lt] at hc
      have : (0 : Int32).toInt = 0 := rfl
      omega
    rw [decide_eq_false h1] at k
    exact bs_rZ_0 k
  · refine bs_fI_i p.1 rfl (bs_ifc (fun hd => ?_) (fun hd => ?_))
    · have h1 : ¬ (0 ≤ x.toInt ∧ x.toInt < w) := by
        rw [Int32.le_iff_toInt_le, e] at hd
        omega
      rw [decide_eq_false h1] at k
      exact bs_rZ_0 k
    · have h1 : 0 ≤ x.toInt ∧ x.toInt < w := by
        rw [Int32.le_iff_toInt_le, e] at hd
        rw [Int32.lt_iff_toInt_lt] at hc
        have : (0 : Int32).toInt = 0 := rfl
        omega
      rw [decide_eq_true h1] at k
      exact bs_rZ_1 k
theorem s_M_hasSource (p : pM h a (nI w) g) (hw : w ≤ 64) (x : Int32) (k : Φ (.ok (some (.int (bz (decide ((0 ≤ x.toInt ∧ x.toInt < w) ∨ x = 64 ∨ x = 65)))))) h) : w_M_hasSource Φ a x h := by
  refine ⟨⟨_, p.1⟩, s_M_hasBit p hw x (bs_kI_i (bs_ifz (fun hb => ?_) (fun hb => ?_)))⟩
  · have hb := of_decide_eq_false hb
    refine bs_ifc (fun hc => ?_) (fun hc => bs_ifc (fun hd => ?_) (fun hd => ?_))
    · rw [decide_eq_true (Or.inr (Or.inl hc))] at k
      exact bs_rZ_1 k
    · rw [decide_eq_true (Or.inr (Or.inr hd))] at k
      exact bs_rZ_1 k
    · rw [decide_eq_false (fun z => z.elim hb (fun z => z.elim hc hd))] at k
      exact bs_rZ_0 k
  · have hb := of_decide_eq_true hb
    rw [decide_eq_true (Or.inl hb)] at k
    exact bs_rZ_1 k
theorem s_M_sourceOf {v : Int32} (p : pM h a v g) {j : Nat} (hj : j < 64) (k : Φ (.ok (some (.int (g j)))) h) : w_M_sourceOf Φ a (nI j) h := bs_fA_i p.1 rfl (bs_lI_i j p.2 rfl hj (by decide) k)
theorem s_M_setSource {v x : Int32} (p : pM h a v g) {j : Nat} (hj : j < 64) (k : Φ (.ok none) (bs_set h (a + 1) (bs_ia 64 (va_up g j x)))) : w_M_setSource Φ a (nI j) x h := bs_fA_i p.1 rfl (bs_sI_i j p.2 rfl hj (by decide) k)
theorem s_M_comesFromWord {v : Int32} (p : pM h a v g) {j : Nat} (hj : j < 64) (k : Φ (.ok (some (.int (bz (decide (g j < 64)))))) h) : w_M_comesFromWord Φ a (nI j) h := by
  refine bs_fA_i p.1 rfl (bs_lI_i j p.2 rfl hj (by decide) (bs_ifc (fun hc => ?_) (fun hc => ?_)))
  · rw [decide_eq_false (Int32.not_lt.mpr hc)] at k
    exact bs_rZ_0 k
  · rw [decide_eq_true (Int32.not_le.mp hc)] at k
    exact bs_rZ_1 k
theorem s_M_becomeIdentity_7 (hw : w ≤ 64) : ∀ (m j n : Nat) (g : Nat → Int32) (h : bs_H), j + m = w → m < n → pM h a (nI w) g →
    (∀ g' : Nat → Int32, (∀ i, i < w → (j ≤ i → g' i = nI i) ∧ (i < j → g' i = g i)) → Φ (.ok none) (bs_set h (a + 1) (bs_ia 64 g'))) → w_M_becomeIdentity_7 Φ n a (nI w) (nI j) h := by
  intro m
  induction m with
  | zero =>
    intro j n g h e hn p k
    obtain ⟨n, rfl⟩ : ∃ n', n = n' + 1 := ⟨n - 1, by omega⟩
    refine bs_ift (nI_le (by omega) (by omega)) ?_
    have := k g (fun i hi => ⟨fun z => by omega, fun _ => rfl⟩)
    rw [bs_set_get p.2] at this
    exact this
  | succ m ih =>
    intro j n g h e hn p k
    obtain ⟨n, rfl⟩ : ∃ n', n = n' + 1 := ⟨n - 1, by omega⟩
    refine bs_iff (nI_ge (by omega) (by omega)) (bs_fA_i p.1 rfl (bs_sI_i j p.2 rfl (by omega) (by decide) ?_))
    rw [← nI_succ]
    refine ih (j + 1) n _ _ (by omega) (by omega) (p.seta _) (fun g' hg' => ?_)
    rw [bs_set_set]
    refine k g' (fun i hi => ⟨fun z => ?_, fun z => ?_⟩)
    · by_cases hij : i = j
      · rw [((hg' i hi).2 (by omega)), hij, bs_up_eq]
      · exact (hg' i hi).1 (by omega)
    · rw [((hg' i hi).2 (by omega)), bs_up_ne _ _ (by omega)]
theorem s_M_becomeIdentity {v : Int32} (p : pM h a v g) (hw : w ≤ 64) (k : ∀ g' : Nat → Int32, (∀ i, i < w → g' i = nI i) → Φ (.ok none) (bs_set (bs_set h a (bs_obj 1 [.ref (a + 1), .int (nI w)])) (a + 1) (bs_ia 64 g'))) : w_M_becomeIdentity Φ a (nI w) h := by
  refine bs_p_i p.1 (by simp) rfl ?_
  refine s_M_becomeIdentity_7 hw w 0 1000 g _ (by omega) (by omega) ⟨bs_set_eq, by rw [bs_set_ne (by omega)]; exact p.2⟩ (fun g' hg' => ?_)
  exact k g' (fun i hi => (hg' i hi).1 (by omega))
end SM
