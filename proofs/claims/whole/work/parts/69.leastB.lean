/-! least of the class. -/
theorem mI_bit : ∀ m, m < 16 → ∀ z, z < 4 → lb (nI m).toInt64 z = m.testBit z := by decide +kernel
theorem canA_s {w s : Nat} {t x : Int64} : canA w t (s + 1) x = true ↔ x = t ∨ ∃ d m, 1 ≤ d ∧ d < w ∧ 1 ≤ m ∧ m < 16 ∧ lgl w d m = true ∧ canA w t s (exB x (4 * nI d) (fldN m 4)) = true := by
  rw [canA, Bool.or_eq_true, decide_eq_true_eq, List.any_eq_true]
  constructor
  · rintro (h | ⟨d, hd, h⟩)
    · exact .inl h
    · rw [List.any_eq_true] at h
      obtain ⟨m, hm, h⟩ := h
      rw [Bool.and_eq_true] at h
      have hd := List.mem_range.mp hd
      have hm := List.mem_range.mp hm
      exact .inr ⟨d + 1, m + 1, by omega, by omega, by omega, by omega, h.1, h.2⟩
  · rintro (h | ⟨d, m, h1, h2, h3, h4, h5, h6⟩)
    · exact .inl h
    · refine .inr ⟨d - 1, List.mem_range.mpr (by omega), ?_⟩
      rw [List.any_eq_true]
      refine ⟨m - 1, List.mem_range.mpr (by omega), ?_⟩
      rw [show d - 1 + 1 = d by omega, show m - 1 + 1 = m by omega, h5, h6]; rfl
section LB
variable {Φ : bs_R → bs_H → Prop} {h : bs_H}
theorem s_B_fieldsOf {m : Nat} (hm : m < 16) (k : Φ (.ok (some (.long (fldN m 4)))) h) : w_B_fieldsOf Φ (nI m).toInt64 h := by
  show w_B_fieldsOf_5 Φ 1000 (nI m).toInt64 0 (nI 0) h
  refine bs_for (σ := Int64) (fun u z s => w_B_fieldsOf_5 Φ u (nI m).toInt64 s (nI z) h) (fun z s => s = fldN m z) 4 ?_ ?_ 4 0 0 1000 (by omega) (by omega) rfl
  · intro u z s hz hs nx
    refine bs_iff (nI_ge (b := 4) hz (by omega)) (s_B_holds (by omega) (bs_kI_i (bs_ifz (fun hb => ?_) (fun hb => ?_))))
    · rw [mI_bit m hm z hz] at hb
      show w_B_fieldsOf_5 Φ u (nI m).toInt64 s (nI z + 1) h
      rw [← nI_succ]
      exact nx _ (by rw [fldN, if_neg (by rw [hb]; exact (fun q => by cases q)), hs])
    · rw [mI_bit m hm z hz] at hb
      show w_B_fieldsOf_5 Φ u (nI m).toInt64 (s ||| bs_shl 15 (4 * nI z)) (nI z + 1) h
      rw [← nI_succ]
      exact nx _ (by rw [fldN, if_pos hb, hs])
  · intro u s hs
    refine bs_ift (nI_le (a := 4) (b := 4) (by omega) (by omega)) ?_
    rw [hs]; exact k
theorem s_B_exchanged {x : Int64} {sh : Int32} {m : Int64} (k : Φ (.ok (some (.long (exB x sh m)))) h) : w_B_exchanged Φ x sh m h := k
theorem s_B_canArrange {w : Nat} (h1 : 1 ≤ w) (hw : w ≤ 4) (t : Int64) : ∀ (s n : Nat) (x : Int64) (Φ : bs_R → bs_H → Prop), s < n → s < 5 → Φ (.ok (some (.int (bz (canA w t s x))))) h → w_B_canArrange n Φ x t (nI w) (nI s) h := by
  intro s
  induction s with
  | zero =>
    intro n x Φ hn _ k
    obtain ⟨n, rfl⟩ : ∃ v, n = v + 1 := ⟨n - 1, by omega⟩
    show w_B_canArrange_s (w_B_canArrange n) Φ x t (nI w) (nI 0) h
    refine bs_ifc (fun e => bs_rZ_1 ?_) (fun e => bs_iff (by decide) (bs_rZ_0 ?_))
    · rw [canA, decide_eq_true e] at k; exact k
    · rw [canA, decide_eq_false e] at k; exact k
  | succ s ih =>
    intro n x Φ hn h5 k
    obtain ⟨n, rfl⟩ : ∃ v, n = v + 1 := ⟨n - 1, by omega⟩
    have yes : canA w t (s + 1) x = true → bs_rZ Φ 1 h := fun e => by rw [e] at k; exact bs_rZ_1 k
    have no : canA w t (s + 1) x = false → bs_rZ Φ 0 h := fun e => by rw [e] at k; exact bs_rZ_0 k
    show w_B_canArrange_s (w_B_canArrange n) Φ x t (nI w) (nI (s + 1)) h
    refine bs_ifc (fun e => yes (canA_s.mpr (.inl e))) (fun e => bs_ift (nI_lt (a := 0) (by omega) (by omega)) ?_)
    show w_B_canArrange_18 (w_B_canArrange n) Φ 1000 x t (nI w) (nI (s + 1)) (nI 1) h
    refine bs_for (σ := Unit) (fun u d _ => w_B_canArrange_18 (w_B_canArrange n) Φ u x t (nI w) (nI (s + 1)) (nI d) h) (fun d _ => 1 ≤ d ∧ ∀ d' m, 1 ≤ d' → d' < d → 1 ≤ m → m < 16 → ¬ (lgl w d' m = true ∧ canA w t s (exB x (4 * nI d') (fldN m 4)) = true)) w ?_ ?_ (w - 1) 1 () 1000 (by omega) (by omega) ⟨Nat.le_refl _, fun d' m _ _ => by omega⟩
    · rintro u d _ hd ⟨hd0, hI⟩ nx
      refine bs_iff (nI_ge hd (by omega)) ?_
      show w_B_canArrange_28 (w_B_canArrange n) Φ (w_B_canArrange_18 (w_B_canArrange n) Φ u) 1000 x t (nI w) (nI (s + 1)) (nI d) (nI 1) h
      refine bs_for (σ := Unit) (fun v m _ => w_B_canArrange_28 (w_B_canArrange n) Φ (w_B_canArrange_18 (w_B_canArrange n) Φ u) v x t (nI w) (nI (s + 1)) (nI d) (nI m) h) (fun m _ => 1 ≤ m ∧ ∀ m', 1 ≤ m' → m' < m → ¬ (lgl w d m' = true ∧ canA w t s (exB x (4 * nI d) (fldN m' 4)) = true)) 16 ?_ ?_ 15 1 () 1000 (by omega) (by omega) ⟨Nat.le_refl _, fun m' _ _ => by omega⟩
      · rintro v m _ hm ⟨hm0, hM⟩ nx2
        have go : ¬ (lgl w d m = true ∧ canA w t s (exB x (4 * nI d) (fldN m 4)) = true) → w_B_canArrange_77 (w_B_canArrange n) Φ (w_B_canArrange_18 (w_B_canArrange n) Φ u) (w_B_canArrange_28 (w_B_canArrange n) Φ (w_B_canArrange_18 (w_B_canArrange n) Φ u) v) x t (nI w) (nI (s + 1)) (nI d) (nI m) h := by
          intro hn
          show w_B_canArrange_28 (w_B_canArrange n) Φ (w_B_canArrange_18 (w_B_canArrange n) Φ u) v x t (nI w) (nI (s + 1)) (nI d) (nI m + 1) h
          rw [← nI_succ]
          refine nx2 () ⟨by omega, fun m' h1 h2 => ?_⟩
          by_cases e : m' = m
          · subst e; exact hn
          · exact hM m' h1 (by omega)
        refine bs_iff (nI_ge (b := 16) hm (by omega)) (s_B_fitsSwap h1 (by omega) (nI d) (bs_kI_i ?_))
        rw [lgl_is h1 (by omega) hd0 (by omega) hm0 hm]
        refine bs_ifz (fun hb => go (fun q => by rw [hb] at q; cases q.1)) (fun hb => s_B_fieldsOf hm (bs_kL_i (s_B_exchanged (bs_kL_i ?_))))
        rw [nI_pred]
        refine ih n _ _ (by omega) (by omega) (bs_kI_i (bs_ifz (fun hc => go (fun q => by rw [hc] at q; cases q.2)) (fun hc => yes (canA_s.mpr (.inr ⟨d, m, hd0, hd, hm0, hm, hb, hc⟩)))))
      · rintro v _ ⟨_, hM⟩
        refine bs_ift (nI_le (a := 16) (b := 16) (by omega) (by omega)) ?_
        rw [← nI_succ]
        refine nx () ⟨by omega, fun d' m h1 h2 h3 h4 => ?_⟩
        by_cases e2 : d' = d
        · subst e2; exact hM m h3 h4
        · exact hI d' m h1 (by omega) h3 h4
    · rintro u _ ⟨_, hI⟩
      refine bs_ift (nI_le (by omega) (by omega)) (no ?_)
      cases hc : canA w t (s + 1) x with
      | false => rfl
      | true =>
        rcases canA_s.mp hc with q | ⟨d, m, q1, q2, q3, q4, q5, q6⟩
        · exact absurd q e
        · exact absurd ⟨q5, q6⟩ (hI d m q1 q2 q3 q4)
end LB
section LBX
variable {Φ : bs_R → bs_H → Prop} {h : bs_H} {X w kc n : Nat} {f : Nat → Nat} {ks : bs_Ks} {st : bs_St}
theorem s_B_fewestSwaps (i : IC X w f kc ks n st h) (hw : w ≤ 4) (k : Φ (.ok (some (.int (nI (lsB w (pkC f w) (pkC (fun k => k) w)))))) h) : w_B_fewestSwaps Φ X h := by
  have h1 := i.1.1
  obtain ⟨g, p, q⟩ := i.2.2.1
  show w_B_fewestSwaps_7 Φ 1000 X 0 0 (nI 0) h
  refine bs_for (σ := Int64 × Int64) (fun u z s => w_B_fewestSwaps_7 Φ u X s.1 s.2 (nI z) h) (fun z s => s.1 = pkC (fun k => k) z ∧ s.2 = pkC f z) w ?_ ?_ w 0 (0, 0) 1000 (by omega) (by omega) ⟨rfl, rfl⟩
  · rintro u z s hz ⟨hs1, hs2⟩ nx
    refine bs_fA_i i.2.1 rfl ⟨⟨_, p.1⟩, s_M_bits p (bs_kI_i (bs_iff (nI_ge hz (by omega)) (bs_fA_i i.2.1 rfl ⟨⟨_, p.1⟩, s_M_sourceOf p (by omega) (bs_kI_i ?_)⟩)))⟩
    rw [(q z hz).1, ← nI_succ]
    exact nx (s.1 ||| bs_shl (nI z).toInt64 (4 * nI z), s.2 ||| bs_shl (nI (f z)).toInt64 (4 * nI z)) ⟨by rw [pkC, hs1], by rw [pkC, hs2]⟩
  · rintro u s ⟨hs1, hs2⟩
    refine bs_fA_i i.2.1 rfl ⟨⟨_, p.1⟩, s_M_bits p (bs_kI_i (bs_ift (nI_le (by omega) (by omega)) ?_))⟩
    rw [hs1, hs2]
    show w_B_fewestSwaps_57 Φ 1000 X (pkC (fun k => k) w) (pkC f w) (nI 0) h
    refine bs_for (σ := Unit) (fun u z _ => w_B_fewestSwaps_57 Φ u X (pkC (fun k => k) w) (pkC f w) (nI z) h) (fun z _ => ∀ y, y < z → canA w (pkC f w) y (pkC (fun k => k) w) = false) 3 ?_ ?_ 3 0 () 1000 (by omega) (by omega) (fun y hy => by omega)
    · intro u z _ hz hI nx
      refine bs_iff (nI_ge (b := 3) hz (by omega)) (bs_fA_i i.2.1 rfl ⟨⟨_, p.1⟩, s_M_bits p (bs_kI_i (s_B_canArrange h1 hw (pkC f w) z 5 _ _ (by omega) (by omega) (bs_kI_i (bs_ifz (fun hb => ?_) (fun hb => ?_)))))⟩)
      · rw [← nI_succ]
        refine nx () (fun y hy => ?_)
        by_cases e : y = z
        · subst e; exact hb
        · exact hI y (by omega)
      · have e : lsB w (pkC f w) (pkC (fun k => k) w) = z := by
          unfold lsB
          have hc : z = 0 ∨ z = 1 ∨ z = 2 := by omega
          rcases hc with e | e | e
          · subst e; rw [if_pos hb]
          · subst e
            rw [if_neg (by rw [hI 0 (by omega)]; exact (fun q => by cases q)), if_pos hb]
          · subst e
            rw [if_neg (by rw [hI 0 (by omega)]; exact (fun q => by cases q)), if_neg (by rw [hI 1 (by omega)]; exact (fun q => by cases q)), if_pos hb]
        rw [e] at k
        exact k
    · intro u _ hI
      refine bs_ift (nI_le (a := 3) (b := 3) (by omega) (by omega)) ?_
      have e : lsB w (pkC f w) (pkC (fun k => k) w) = 3 := by
        unfold lsB
        rw [if_neg (by rw [hI 0 (by omega)]; exact (fun q => by cases q)), if_neg (by rw [hI 1 (by omega)]; exact (fun q => by cases q)), if_neg (by rw [hI 2 (by omega)]; exact (fun q => by cases q))]
      rw [e] at k
      exact k
theorem s_B_least (i : IC X w f kc ks n st h) (ke : ¬ (w ≤ 4 ∧ permB f w = true) → bud h 1 ∧ Φ (.error "java/lang/UnsupportedOperationException") (bs_thrown h)) (ko : w ≤ 4 → permB f w = true → Φ (.ok (some (.int (nI (lsB w (pkC f w) (pkC (fun k => k) w)))))) h) : w_B_least Φ X h := by
  have hw := i.1.2.1
  obtain ⟨g, p, q⟩ := i.2.2.1
  have no : ¬ (w ≤ 4 ∧ permB f w = true) → w_B_least_21 Φ h := fun hh => bs_th_i (ke hh).1 (ke hh).2
  refine bs_fA_i i.2.1 rfl ⟨⟨_, p.1⟩, s_M_bits p (bs_kI_i (bs_ife (nI_ltI (a := 4) (b := w) (by omega) (by omega)) (fun h4 => no (fun z => by omega)) (fun h4 => bs_fA_i i.2.1 rfl ⟨⟨_, p.1⟩, s_M_isPermutation p hw q (bs_kI_i (bs_ifz (fun hb => no (fun z => by rw [hb] at z; cases z.2)) (fun hb => ⟨⟨_, i.2.1⟩, s_B_fewestSwaps i (by omega) (bs_kI_i (ko (by omega) hb))⟩)))⟩)))⟩
end LBX
