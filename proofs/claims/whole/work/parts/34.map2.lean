/-! The class's map, its loops. A map of w bits: g k = nI (f k) below w, with f k at most 65. -/
/-- a counting loop, by an invariant -/
theorem bs_for {σ : Type} (Wl : Nat → Nat → σ → Prop) (I : Nat → σ → Prop) (e : Nat) (hs : ∀ n k s, k < e → I k s → (∀ s', I (k + 1) s' → Wl n (k + 1) s') → Wl (n + 1) k s) (hx : ∀ n s, I e s → Wl (n + 1) e s) : ∀ (m k : Nat) (s : σ) (n : Nat), k + m = e → m < n → I k s → Wl n k s := by
  intro m
  induction m with
  | zero =>
    intro k s n hk hn hi
    obtain ⟨n, rfl⟩ : ∃ n', n = n' + 1 := ⟨n - 1, by omega⟩
    have : k = e := by omega
    subst this
    exact hx n s hi
  | succ m ih =>
    intro k s n hk hn hi
    obtain ⟨n, rfl⟩ : ∃ n', n = n' + 1 := ⟨n - 1, by omega⟩
    exact hs n k s (by omega) hi (fun s' hi' => ih (k + 1) s' n (by omega) (by omega) hi')
def gM (w : Nat) (f : Nat → Nat) (g : Nat → Int32) : Prop := ∀ k, k < w → g k = nI (f k) ∧ f k ≤ 65
/-- all from the word, and no two alike -/
def permB (f : Nat → Nat) : Nat → Bool
  | 0 => true
  | k + 1 => permB f k && decide (f k < 64) && (List.range k).all (fun j => decide (f j ≠ f k))
theorem permB_iff (f : Nat → Nat) (w : Nat) : permB f w = true ↔ ∀ k, k < w → f k < 64 ∧ ∀ j, j < k → f j ≠ f k := by
  induction w with
  | zero => simp [permB]
  | succ w ih =>
    simp only [permB, Bool.and_eq_true, ih, decide_eq_true_eq, List.all_eq_true, List.mem_range]
    constructor
    · rintro ⟨⟨h1, h2⟩, h3⟩ k hk
      by_cases hkw : k = w
      · subst hkw; exact ⟨h2, h3⟩
      · exact h1 k (by omega)
    · intro h
      exact ⟨⟨fun k hk => h k (by omega), (h w (by omega)).1⟩, (h w (by omega)).2⟩
theorem permB_mono {f : Nat → Nat} {k w : Nat} (hk : k ≤ w) (h : permB f k = false) : permB f w = false := by
  cases hw : permB f w with
  | false => rfl
  | true =>
    have h1 := (permB_iff f w).mp hw
    have h2 : permB f k = true := (permB_iff f k).mpr fun i hi => h1 i (by omega)
    rw [h2] at h; cases h
section SM2
variable {Φ : bs_R → bs_H → Prop} {h : bs_H} {a : Nat} {w : Nat} {f : Nat → Nat} {g : Nat → Int32}
theorem s_B_holds {x : Int64} {j : Nat} (hj : j < 64) (k : Φ (.ok (some (.int (bz (lb x j))))) h) : w_B_holds Φ x (nI j) h := by
  refine bs_ife (lb_holds hj x) (fun hc => ?_) (fun hc => ?_)
  · rw [hc] at k; exact bs_rZ_0 k
  · have hc : lb x j = true := by cases hb : lb x j with | true => rfl | false => exact absurd hb hc
    rw [hc] at k; exact bs_rZ_1 k
theorem s_M_cfw {v : Int32} (p : pM h a v g) {j : Nat} (hj : j < 64) {c : Nat} (hg : g j = nI c) (hc : c ≤ 65) (k : Φ (.ok (some (.int (bz (decide (c < 64)))))) h) : w_M_comesFromWord Φ a (nI j) h := by
  refine s_M_comesFromWord p hj ?_
  have e : (g j < 64) ↔ c < 64 := by rw [hg]; exact nI_ltI (a := c) (b := 64) (by omega) (by decide)
  rw [show decide (g j < 64) = decide (c < 64) from by simp [e]]
  exact k
theorem s_M_bitsThatAreOne (p : pM h a (nI w) g) (hw : w ≤ 64) (hg : gM w f g) (k : Φ (.ok (some (.long (lb_of (fun i => decide (f i = 65)) w)))) h) : w_M_bitsThatAreOne Φ a h := by
  refine bs_for (σ := Int64) (fun n k s => w_M_bitsThatAreOne_4 Φ n a s (nI k) h) (fun k s => s = lb_of (fun i => decide (f i = 65)) k) w ?_ ?_ w 0 0 1000 (by omega) (by omega) rfl
  · intro n j s hj hs nx
    refine bs_fI_i p.1 rfl (bs_iff (nI_ge (by omega) (by omega)) (bs_fA_i p.1 rfl (bs_lI_i j p.2 rfl (by omega) (by decide) ?_)))
    have hgj := hg j hj
    have e : (g j = 65) ↔ f j = 65 := by rw [hgj.1]; exact nI_eq (a := f j) (b := 65) (by omega) (by decide)
    refine bs_ife e (fun hc => ?_) (fun hc => ?_)
    · show w_M_bitsThatAreOne_4 Φ n a (s ||| bs_shl 1 (nI j)) (nI j + 1) h
      rw [← nI_succ]
      exact nx _ (by simp only [lb_of, hc, hs, decide_true, if_true])
    · show w_M_bitsThatAreOne_4 Φ n a s (nI j + 1) h
      rw [← nI_succ]
      refine nx _ ?_
      simp [lb_of, hc, hs]
  · intro n s hs
    refine bs_fI_i p.1 rfl (bs_ift (nI_le (by omega) (by omega)) ?_)
    rw [hs]
    exact k
theorem s_M_bitsShifted (p : pM h a (nI w) g) (hw : w ≤ 64) (hg : gM w f g) {d : Int32} (k : Φ (.ok (some (.long (lb_of (fun i => decide (f i < 64) && decide (nI i - nI (f i) = d)) w)))) h) : w_M_bitsShifted Φ a d h := by
  refine bs_for (σ := Int64) (fun n k s => w_M_bitsShifted_5 Φ n a d s (nI k) h) (fun k s => s = lb_of (fun i => decide (f i < 64) && decide (nI i - nI (f i) = d)) k) w ?_ ?_ w 0 0 1000 (by omega) (by omega) rfl
  · intro n j s hj hs nx
    have hgj := hg j hj
    refine bs_fI_i p.1 rfl (bs_iff (nI_ge (by omega) (by omega)) ⟨⟨_, p.1⟩, s_M_cfw p (by omega) hgj.1 hgj.2 (bs_kI_i (bs_ifz (fun hc => ?_) (fun hc => ?_)))⟩)
    · show w_M_bitsShifted_5 Φ n a d s (nI j + 1) h
      rw [← nI_succ]
      exact nx _ (by simp [lb_of, hc, hs])
    · refine bs_fA_i p.1 rfl (bs_lI_i j p.2 rfl (by omega) (by decide) ?_)
      rw [hgj.1]
      refine bs_ifc (fun hd => ?_) (fun hd => ?_)
      · show w_M_bitsShifted_5 Φ n a d (s ||| bs_shl 1 (nI j)) (nI j + 1) h
        rw [← nI_succ]
        exact nx _ (by simp only [lb_of, hc, hd, hs, decide_true, Bool.and_self, if_true])
      · show w_M_bitsShifted_5 Φ n a d s (nI j + 1) h
        rw [← nI_succ]
        exact nx _ (by simp [lb_of, hd, hs])
  · intro n s hs
    refine bs_fI_i p.1 rfl (bs_ift (nI_le (by omega) (by omega)) ?_)
    rw [hs]
    exact k
theorem s_M_bitsRotated (p : pM h a (nI w) g) (hw : w ≤ 64) (hg : gM w f g) {d : Int32} (k : Φ (.ok (some (.long (lb_of (fun i => decide (f i < 64) && decide (nI i - nI (f i) = d)) w ||| lb_of (fun i => decide (f i < 64) && decide (nI i - nI (f i) = d - nI w)) w)))) h) : w_M_bitsRotated Φ a d h :=
  ⟨⟨_, p.1⟩, s_M_bitsShifted p hw hg (bs_kL_i (bs_fI_i p.1 rfl ⟨⟨_, p.1⟩, s_M_bitsShifted p hw hg (bs_kL_i k)⟩))⟩
theorem s_M_isPermutation (p : pM h a (nI w) g) (hw : w ≤ 64) (hg : gM w f g) (k : Φ (.ok (some (.int (bz (permB f w))))) h) : w_M_isPermutation Φ a h := by
  refine bs_for (σ := Int64) (fun n k s => w_M_isPermutation_4 Φ n a s (nI k) h) (fun k s => permB f k = true ∧ ∀ i, i < 64 → (lb s i = true ↔ ∃ j, j < k ∧ f j = i)) w ?_ ?_ w 0 0 1000 (by omega) (by omega) ⟨rfl, fun i hi => by simp [lb_0]⟩
  · intro n j s hj hs nx
    have hgj := hg j hj
    have hno : permB f (j + 1) = false → w_M_isPermutation_33 Φ h := by
      intro hb
      have := permB_mono (show j + 1 ≤ w by omega) hb
      rw [this] at k
      exact bs_rZ_0 k
    refine bs_fI_i p.1 rfl (bs_iff (nI_ge (by omega) (by omega)) ⟨⟨_, p.1⟩, s_M_cfw p (by omega) hgj.1 hgj.2 (bs_kI_i (bs_ifz (fun hc => ?_) (fun hc => ?_)))⟩)
    · refine hno ?_
      simp only [permB, hc, Bool.and_false, Bool.false_and]
    · have hc' := of_decide_eq_true hc
      refine bs_fA_i p.1 rfl (bs_lI_i j p.2 rfl (by omega) (by decide) ?_)
      rw [hgj.1]
      refine s_B_holds hc' (bs_kI_i (bs_ifz (fun hd => ?_) (fun hd => ?_)))
      · refine bs_fA_i p.1 rfl (bs_lI_i j p.2 rfl (by omega) (by decide) ?_)
        rw [hgj.1, ← nI_succ]
        have hall : ∀ i, i < j → f i ≠ f j := by
          intro i hi he
          have := (hs.2 (f j) hc').mpr ⟨i, hi, he⟩
          rw [hd] at this; cases this
        refine nx _ ⟨?_, fun i hi => ?_⟩
        · rw [permB_iff]
          intro i hi
          by_cases hij : i = j
          · subst hij; exact ⟨hc', hall⟩
          · exact (permB_iff f j).mp hs.1 i (by omega)
        · rw [lb_or, lb_pow hc' hi, Bool.or_eq_true, hs.2 i hi, decide_eq_true_eq]
          constructor
          · rintro (⟨z, hz, e⟩ | e)
            · exact ⟨z, by omega, e⟩
            · exact ⟨j, by omega, e.symm⟩
          · rintro ⟨z, hz, e⟩
            by_cases hzj : z = j
            · subst hzj; exact Or.inr e.symm
            · exact Or.inl ⟨z, by omega, e⟩
      · refine hno ?_
        obtain ⟨i, hi, he⟩ := (hs.2 (f j) hc').mp hd
        cases hb : permB f (j + 1) with
        | false => rfl
        | true => exact absurd he (((permB_iff f (j + 1)).mp hb j (by omega)).2 i hi)
  · intro n s hs
    refine bs_fI_i p.1 rfl (bs_ift (nI_le (by omega) (by omega)) ?_)
    rw [hs.1] at k
    exact bs_rZ_1 k
def imageL (f : Nat → Nat) (w : Nat) (x : Int64) : Int64 := lb_of (fun i => decide (f i = 65) || (decide (f i < 64) && lb x (f i))) w
theorem s_M_imageOf (p : pM h a (nI w) g) (hw : w ≤ 64) (hg : gM w f g) {x : Int64} (k : Φ (.ok (some (.long (imageL f w x)))) h) : w_M_imageOf Φ a x h := by
  refine ⟨⟨_, p.1⟩, s_M_bitsThatAreOne p hw hg (bs_kL_i ?_)⟩
  refine bs_for (σ := Int64) (fun n k s => w_M_imageOf_8 Φ n a x s (nI k) h) (fun k s => ∀ i, i < 64 → lb s i = (decide (i < w) && decide (f i = 65) || (decide (i < k) && (decide (f i < 64) && lb x (f i))))) w ?_ ?_ w 0 _ 1000 (by omega) (by omega) (fun i hi => by rw [lb_of_at _ hi _ hw]; simp)
  · intro n j s hj hs nx
    have hgj := hg j hj
    refine bs_fI_i p.1 rfl (bs_iff (nI_ge (by omega) (by omega)) ⟨⟨_, p.1⟩, s_M_cfw p (by omega) hgj.1 hgj.2 (bs_kI_i (bs_ifz (fun hc => ?_) (fun hc => ?_)))⟩)
    · show w_M_imageOf_8 Φ n a x s (nI j + 1) h
      rw [← nI_succ]
      refine nx _ (fun i hi => ?_)
      rw [hs i hi]
      by_cases hij : i = j
      · subst hij; simp [hc]
      · have : (i < j + 1) ↔ i < j := by omega
        simp [this]
    · have hc' := of_decide_eq_true hc
      refine bs_fA_i p.1 rfl (bs_lI_i j p.2 rfl (by omega) (by decide) ?_)
      rw [hgj.1]
      refine s_B_holds hc' (bs_kI_i (bs_ifz (fun hd => ?_) (fun hd => ?_)))
      · show w_M_imageOf_8 Φ n a x s (nI j + 1) h
        rw [← nI_succ]
        refine nx _ (fun i hi => ?_)
        rw [hs i hi]
        by_cases hij : i = j
        · subst hij; simp [hd]
        · have : (i < j + 1) ↔ i < j := by omega
          simp [this]
      · show w_M_imageOf_8 Φ n a x (s ||| bs_shl 1 (nI j)) (nI j + 1) h
        rw [← nI_succ]
        refine nx _ (fun i hi => ?_)
        rw [lb_or, hs i hi, lb_pow (by omega) hi]
        by_cases hij : i = j
        · subst hij; simp [hd, hc']
        · have : (i < j + 1) ↔ i < j := by omega
          simp [this, hij]
  · intro n s hs
    refine bs_fI_i p.1 rfl (bs_ift (nI_le (by omega) (by omega)) ?_)
    have e : s = imageL f w x := by
      apply lb_ext
      intro i hi
      rw [hs i hi]
      unfold imageL
      rw [lb_of_at _ hi _ hw]
      by_cases hiw : i < w <;> simp [hiw]
    rw [e]
    exact k
end SM2
