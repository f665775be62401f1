/-! The class runs a program on a word: bit k of A, T, R is set if one of the symbol's bits is set in the word. -/
def hit (x S : Int64) : Bool := !decide ((S &&& x) = 0)
theorem hit_iff (x S : Int64) : hit x S = true ↔ ∃ i, i < 64 ∧ lb S i = true ∧ lb x i = true := by
  unfold hit
  constructor
  · intro hh
    have hh : ¬ (S &&& x) = 0 := by simpa using hh
    rw [lb_ne0] at hh
    apply Classical.byContradiction
    intro hn
    apply hh
    intro i hi
    rw [lb_and]
    cases h1 : lb S i with
    | false => rfl
    | true =>
      cases h2 : lb x i with
      | false => rfl
      | true => exact absurd ⟨i, hi, h1, h2⟩ hn
  · rintro ⟨i, hi, h1, h2⟩
    have : ¬ (S &&& x) = 0 := by
      intro hz
      have := (lb_ne0 _).mp hz i hi
      rw [lb_and, h1, h2] at this
      cases this
    simpa using this
theorem hit_0 (x : Int64) : hit x 0 = false := by
  unfold hit
  rw [show (0 : Int64) &&& x = 0 from by apply lb_ext; intro i hi; rw [lb_and, lb_0]; rfl]
  rfl
theorem beq_of {a b : Bool} (h : a = true ↔ b = true) : a = b := by cases a <;> cases b <;> simp_all
theorem hit_or (x A B : Int64) : hit x (A ||| B) = (hit x A || hit x B) := by
  apply beq_of
  rw [Bool.or_eq_true, hit_iff, hit_iff, hit_iff]
  constructor
  · rintro ⟨i, hi, h1, h2⟩
    rw [lb_or, Bool.or_eq_true] at h1
    rcases h1 with h1 | h1
    · exact Or.inl ⟨i, hi, h1, h2⟩
    · exact Or.inr ⟨i, hi, h1, h2⟩
  · rintro (⟨i, hi, h1, h2⟩ | ⟨i, hi, h1, h2⟩)
    · exact ⟨i, hi, by rw [lb_or, h1]; rfl, h2⟩
    · exact ⟨i, hi, by rw [lb_or, h1]; simp, h2⟩
theorem hit_pow (x : Int64) {k : Nat} (hk : k < 64) : hit x (bs_shl 1 (nI k)) = lb x k := by
  apply beq_of
  rw [hit_iff]
  constructor
  · rintro ⟨i, hi, h1, h2⟩
    rw [lb_pow hk hi] at h1
    have := of_decide_eq_true h1
    subst this; exact h2
  · intro hh
    exact ⟨k, hk, by rw [lb_pow hk hk]; simp, hh⟩
theorem gat_s (m : Int64) (A : Nat → Int64) (k z : Nat) : gat m A (k + 1) z = if lb m k = true ∧ z = rk m k then A k else gat m A k z := rfl
/-- a word for a row of symbols -/
def wg (w : Nat) (x a : Int64) (A : Nat → Int64) : Prop := ∀ k, k < 64 → lb a k = (decide (k < w) && hit x (A k))
def wr (w : Nat) (x r : Int64) (q : sy_S) : Prop := ∀ k, k < 64 → lb r k = (decide (k < w) && ruB q x k)
theorem ruB_hit (q : sy_S) (x : Int64) (k : Nat) : ruB q x k = (hit x (q.2.2.1 k) || q.2.2.2 k) := rfl
theorem ushr_64 (x : Int64) : bs_ushr x (nI 64) = x := by
  apply lb_ext
  intro i hi
  unfold lb bs_ushr
  show (x.toUInt64 >>> _).toBitVec.getLsbD i = _
  rw [UInt64.toBitVec_shiftRight, BitVec.ushiftRight_eq', show (((nI 64).toInt64.toUInt64 &&& Int64.toUInt64 63).toBitVec % 64).toNat = 0 from by decide +kernel, BitVec.getLsbD_ushiftRight, Nat.zero_add]
  rfl
/-- the machine at s -/
def pW (h : bs_H) (s w : Nat) (a t r : Int64) : Prop := h.1 s = some (bs_obj 3 [.int (nI w), .long a, .long t, .long r])
section RW
variable {Φ : bs_R → bs_H → Prop} {h : bs_H} {s w : Nat} {a t r x : Int64} {q : sy_S}
theorem s_W_gathered (p : pW h s w a t r) (hw : w ≤ 64) (ga : wg w x a q.1) {m : Int64} (k : ∀ y, wg w x y (gat m q.1 w) → Φ (.ok (some (.long y))) h) : w_W_gathered Φ s m h := by
  show w_W_gathered_8 Φ 1000 s m 0 (nI (rk m 0)) (nI 0) h
  refine bs_for (σ := Int64) (fun u c y => w_W_gathered_8 Φ u s m y (nI (rk m c)) (nI c) h) (fun c y => ∀ z, z < 64 → lb y z = hit x (gat m q.1 c z)) w ?_ ?_ w 0 0 1000 (by omega) (by omega) (fun z hz => by rw [lb_0]; exact (hit_0 x).symm)
  · intro u c y hc hy nx
    have hr := rk_le m c
    refine bs_fI_i p rfl (bs_iff (nI_ge hc (by omega)) (s_B_holds (by omega) (bs_kI_i (bs_ifz (fun hb => ?_) (fun hb => bs_fL_i p rfl ?_)))))
    · show w_W_gathered_8 Φ u s m y (nI (rk m c)) (nI c + 1) h
      rw [← nI_succ, ← rk_f hb]
      refine nx _ (fun z hz => ?_)
      unfold gat
      rw [if_neg (by rw [hb]; exact (fun q => by cases q.1))]
      exact hy z hz
    · show w_W_gathered_8 Φ u s m (y ||| bs_shl (bs_ushr a (nI c) &&& 1) (nI (rk m c))) (nI (rk m c) + 1) (nI c + 1) h
      rw [← nI_succ, ← nI_succ, ← rk_t hb]
      refine nx _ (fun z hz => ?_)
      rw [lb_or, lb_shl (by omega) hz, lb_and, lb_1, lb_ushr (by omega), hy z hz, gat_s]
      by_cases hzc : z = rk m c
      · subst hzc
        rw [if_pos ⟨hb, rfl⟩, gat_hi m q.1 c _ (Nat.le_refl _), hit_0, Nat.sub_self, Nat.add_zero, ga c (by omega)]
        simp [hc]
      · rw [if_neg (fun q => hzc q.2)]
        by_cases h1 : rk m c ≤ z
        · have : ¬ z - rk m c = 0 := by omega
          simp [this]
        · simp [h1]
  · intro u y hy
    refine bs_fI_i p rfl (bs_ift (nI_le (by omega) (by omega)) (k y (fun z hz => ?_)))
    rw [hy z hz]
    by_cases h1 : z < w
    · simp [h1]
    · have := rk_le m w
      rw [gat_hi m q.1 w z (by omega), hit_0]; simp
theorem s_W_scattered (p : pW h s w a t r) (hw : w ≤ 64) (gt : wg w x t q.2.1) {m : Int64} (k : ∀ y, wg w x y (fun k => if lb m k = true then q.2.1 (rk m k) else 0) → Φ (.ok (some (.long y))) h) : w_W_scattered Φ s m h := by
  show w_W_scattered_8 Φ 1000 s m 0 (nI (rk m 0)) (nI 0) h
  refine bs_for (σ := Int64) (fun u c y => w_W_scattered_8 Φ u s m y (nI (rk m c)) (nI c) h) (fun c y => ∀ z, z < 64 → lb y z = (decide (z < c) && (lb m z && lb t (rk m z)))) w ?_ ?_ w 0 0 1000 (by omega) (by omega) (fun z hz => by rw [lb_0]; simp)
  · intro u c y hc hy nx
    have hr := rk_le m c
    refine bs_fI_i p rfl (bs_iff (nI_ge hc (by omega)) (s_B_holds (by omega) (bs_kI_i (bs_ifz (fun hb => ?_) (fun hb => bs_fL_i p rfl ?_)))))
    · show w_W_scattered_8 Φ u s m y (nI (rk m c)) (nI c + 1) h
      rw [← nI_succ, ← rk_f hb]
      refine nx _ (fun z hz => ?_)
      rw [hy z hz]
      by_cases hzc : z = c
      · subst hzc; rw [hb]; simp
      · have : (z < c + 1) ↔ (z < c) := by omega
        simp [this]
    · show w_W_scattered_8 Φ u s m (y ||| bs_shl (bs_ushr t (nI (rk m c)) &&& 1) (nI c)) (nI (rk m c) + 1) (nI c + 1) h
      rw [← nI_succ, ← nI_succ, ← rk_t hb]
      refine nx _ (fun z hz => ?_)
      rw [lb_or, lb_shl (by omega) hz, lb_and, lb_1, lb_ushr (by omega), hy z hz]
      by_cases hzc : z = c
      · subst hzc; rw [hb, Nat.sub_self, Nat.add_zero]; simp
      · have h1 : (z < c + 1) ↔ (z < c) := by omega
        by_cases h2 : c ≤ z
        · have : ¬ z - c = 0 := by omega
          simp [h1, this]
        · simp [h1, h2]
  · intro u y hy
    refine bs_fI_i p rfl (bs_ift (nI_le (by omega) (by omega)) (k y (fun z hz => ?_)))
    rw [hy z hz]
    by_cases h1 : z < w
    · have := rk_le m z
      cases hb : lb m z with
      | true =>
        rw [gt _ (by omega)]
        have h2 : rk m z < w := by omega
        simp [h1, h2, hb]
      | false => simp [hit_0, hb]
    · simp [h1]
theorem s_W_rotated (p : pW h s w a t r) (h1 : 1 ≤ w) (hw : w ≤ 64) (ga : wg w x a q.1) {j : Nat} (hj : j < w) (k : ∀ y, wg w x y (roT w j q.1) → Φ (.ok (some (.long y))) h) : w_W_rotated Φ s (nI j) h := by
  refine bs_fL_i p rfl (bs_fL_i p rfl (bs_fI_i p rfl (bs_fI_i p rfl (s_B_allBits hw (bs_kL_i (k _ (fun z hz => ?_)))))))
  rw [pk_sub (by omega), lb_and, lb_all_at h1 hw hz, lb_or, lb_shl (by omega) hz]
  by_cases hzw : z < w
  · have eu : lb (bs_ushr a (nI (w - j))) z = if j ≤ z then (if w - j = 64 then lb a z else false) else hit x (q.1 (z + w - j)) := by
      by_cases h64 : w - j = 64
      · rw [h64, ushr_64, if_pos (by omega), if_pos rfl]
      · rw [lb_ushr (by omega)]
        by_cases hjz : j ≤ z
        · rw [if_pos hjz, if_neg h64]
          by_cases h64' : w - j + z < 64
          · rw [ga _ h64']
            have : ¬ w - j + z < w := by omega
            simp [this]
          · exact lb_big (by omega)
        · rw [if_neg hjz, ga _ (by omega), show w - j + z = z + w - j from by omega]
          have : z + w - j < w := by omega
          simp [this]
    rw [eu]
    unfold roT
    by_cases hjz : j ≤ z
    · have hlt : z - j < w := by omega
      rw [if_pos hjz, if_pos hjz, ga _ (by omega)]
      by_cases h64 : w - j = 64
      · have : j = 0 := by omega
        subst this
        rw [if_pos h64, ga z hz]
        simp [hzw]
      · rw [if_neg h64]
        simp [hjz, hlt, hzw]
    · rw [if_neg hjz, if_neg hjz]
      simp [hjz, hzw]
  · simp [hzw]
theorem fit_swi {w : Nat} {d : Int32} {m : Int64} (hf : fitsB w 5 d m = true) : ∀ k, k < 64 → w ≤ k → lb m k = false := by
  have hs : swB w d m = true := by simpa [fitsB] using hf
  unfold swB at hs
  simp only [Bool.and_eq_true] at hs
  exact (inW_iff m w).mp hs.1.2
/-- the exchange of a word -/
def exW (a : Int64) (d : Int32) (m : Int64) : Int64 := (a ^^^ ((a ^^^ bs_ushr a d) &&& m)) ^^^ bs_shl ((a ^^^ bs_ushr a d) &&& m) d
theorem exW_g {j : Nat} {m : Int64} (hw : w ≤ 64) (ga : wg w x a q.1) (ok : swOk w j m) (hi : ∀ k, k < 64 → w ≤ k → lb m k = false) : wg w x (exW a (nI j) m) (swC w j m q.1 (w - j)) := by
  intro z hz
  have d0 := ok.1
  have d1 := ok.2.1
  unfold exW
  rw [lb_xor, lb_xor, lb_shl (by omega) hz, lb_and, lb_xor, lb_ushr (by omega), lb_and, lb_xor, lb_ushr (by omega)]
  by_cases hzw : z < w
  · unfold swC
    cases hm : lb m z with
    | true =>
      have h1 := ok.2.2 z hzw hm
      rw [if_pos ⟨rfl, h1.1, by omega⟩]
      have hmd : (decide (j ≤ z) && ((lb a (z - j) ^^ lb a (j + (z - j))) && lb m (z - j))) = false := by
        by_cases hjz : j ≤ z
        · cases hmm : lb m (z - j) with
          | false => simp
          | true =>
            have := (ok.2.2 (z - j) (by omega) hmm).2
            rw [Nat.sub_add_cancel hjz, hm] at this; cases this
        · simp [hjz]
      rw [hmd, Nat.add_comm j z, ga (z + j) (by omega)]
      have h2 : z + j < w := h1.1
      simp [hzw, h2]
    | false =>
      rw [if_neg (fun q => by cases q.1)]
      by_cases hjz : j ≤ z
      · cases hmm : lb m (z - j) with
        | false =>
          rw [if_neg (fun q => by cases q.2.1), ga z hz]
          simp
        | true =>
          rw [if_pos ⟨hjz, rfl, by omega⟩, Nat.add_comm j (z - j), Nat.sub_add_cancel hjz, ga (z - j) (by omega)]
          have h2 : z - j < w := by omega
          simp [hzw, hjz, h2]
          cases lb a z <;> cases hit x (q.1 (z - j)) <;> rfl
      · rw [if_neg (fun q => hjz q.1), ga z hz]
        simp [hjz]
  · have hm := hi z hz (by omega)
    have hmd : (decide (j ≤ z) && ((lb a (z - j) ^^ lb a (j + (z - j))) && lb m (z - j))) = false := by
      by_cases hjz : j ≤ z
      · cases hmm : lb m (z - j) with
        | false => simp
        | true =>
          by_cases hlt : z - j < w
          · have := (ok.2.2 (z - j) hlt hmm).1
            omega
          · rw [hi (z - j) (by omega) (by omega)] at hmm; cases hmm
      · simp [hjz]
    rw [hm, hmd, ga z hz]
    simp [hzw]
theorem s_W_perform (p : pW h s w a t r) (h1 : 1 ≤ w) (hw : w ≤ 64) (ga : wg w x a q.1) (gt : wg w x t q.2.1) (gr : wr w x r q) {op d : Int32} {m : Int64} (hf : fitsB w op d m = true) (k : ∀ a' t' r', wg w x a' (sy w op d m q).1 → wg w x t' (sy w op d m q).2.1 → wr w x r' (sy w op d m q) → Φ (.ok none) (bs_set h s (bs_obj 3 [.int (nI w), .long a', .long t', .long r']))) : w_W_perform Φ s op d m h := by
  have ft : ∀ y, wg w x y (sy w op d m q).2.1 → (sy w op d m q).1 = q.1 → (sy w op d m q).2.2 = q.2.2 → Φ (.ok none) (bs_set h s (bs_obj 3 [.int (nI w), .long a, .long y, .long r])) := by
    intro y hy e1 e2
    refine k a y r (by rw [e1]; exact ga) hy (fun z hz => ?_)
    rw [gr z hz, ruB_hit, ruB_hit, e2]
  have fr : ∀ y, wr w x y (sy w op d m q) → (sy w op d m q).1 = q.1 → (sy w op d m q).2.1 = q.2.1 → Φ (.ok none) (bs_set h s (bs_obj 3 [.int (nI w), .long a, .long t, .long y])) := by
    intro y hy e1 e2
    exact k a t y (by rw [e1]; exact ga) (by rw [e2]; exact gt) hy
  refine bs_ifc (fun h0 => ?_) (fun h0 => bs_ifc (fun hh1 => ?_) (fun hh1 => bs_ifc (fun h2 => ?_) (fun h2 => bs_ifc (fun h3 => ?_) (fun h3 => bs_ifc (fun h4 => ?_) (fun h4 => bs_ifc (fun h5 => ?_) (fun h5 => bs_ifc (fun h6 => ?_) (fun h6 => bs_ifc (fun h7 => ?_) (fun h7 => ?_))))))))
  · subst h0
    have hd := fit_sh hf
    have e : sy w 0 d m q = (q.1, shT w d.toInt q.1, q.2.2) := rfl
    have z0 : (0 : Int32).toInt = 0 := rfl
    have fin : ∀ y : Int64, (∀ z, z < w → lb y z = hit x (shT w d.toInt q.1 z)) → w_W_perform_69 Φ s s y h := by
      intro y hy
      refine bs_fI_i p rfl (s_B_allBits hw (bs_kL_i (bs_p_i p (by simp) rfl (ft _ (fun z hz => ?_) (by rw [e]) (by rw [e])))))
      rw [e, lb_and, lb_all_at h1 hw hz]
      by_cases hzw : z < w
      · rw [hy z hzw]; simp [hzw]
      · simp [hzw]
    refine bs_ifc (fun hn => bs_fL_i p rfl (fin _ (fun z hz => ?_))) (fun hn => bs_fL_i p rfl (fin _ (fun z hz => ?_)))
    · rw [Int32.lt_iff_toInt_lt] at hn
      have em : (-d).toInt = -d.toInt := by
        rw [Int32.toInt_neg, Int.bmod_def]
        split <;> omega
      obtain ⟨j, hj, ej⟩ := nI_between (x := -d) (m := w) (by omega)
      rw [ej, nI_toInt (by omega)] at em
      rw [ej, lb_ushr (by omega)]
      unfold shT
      by_cases hc : z + j < w
      · rw [if_pos (by omega), show ((z : Int) - d.toInt).toNat = j + z from by omega, ga _ (by omega)]
        have : j + z < w := by omega
        simp [this]
      · rw [if_neg (by omega), hit_0]
        by_cases h64 : j + z < 64
        · rw [ga _ h64]
          have : ¬ j + z < w := by omega
          simp [this]
        · exact lb_big (by omega)
    · rw [Int32.lt_iff_toInt_lt] at hn
      obtain ⟨j, hj, rfl⟩ := nI_between (x := d) (m := w) (by omega)
      rw [nI_toInt (by omega)]
      rw [lb_shl (by omega) (by omega)]
      unfold shT
      by_cases hc : j ≤ z
      · rw [if_pos (by omega), show ((z : Int) - (j : Int)).toNat = z - j from by omega, ga _ (by omega)]
        have : z - j < w := by omega
        simp [this, hc]
      · rw [if_neg (by omega), hit_0]
        simp [hc]
  · subst hh1
    obtain ⟨j, hj, rfl⟩ := fit_ro hf
    have e : sy w 1 (nI j) m q = (q.1, roT w (nI j).toNatClampNeg q.1, q.2.2) := rfl
    refine ⟨⟨_, p⟩, s_W_rotated p h1 hw ga hj (fun y hy => bs_kL_i (bs_p_i p (by simp) rfl (ft y ?_ (by rw [e]) (by rw [e]))))⟩
    rw [e, nI_clamp (by omega)]
    exact hy
  · subst h2
    have e : sy w 2 d m q = (q.1, fun k => if lb m k = true then q.2.1 k else 0, q.2.2) := rfl
    refine bs_fL_i p rfl (bs_p_i p (by simp) rfl (ft _ (fun z hz => ?_) (by rw [e]) (by rw [e])))
    rw [e, lb_and, gt z hz]
    show _ = (decide (z < w) && hit x (if lb m z = true then q.2.1 z else 0))
    cases hb : lb m z
    · simp [hit_0]
    · simp
  · subst h3
    have e : sy w 3 d m q = (q.1, q.2.1, fun k => q.2.2.1 k ||| q.2.1 k, q.2.2.2) := rfl
    refine bs_fL_i p rfl (bs_fL_i p rfl (bs_p_i p (by simp) rfl (fr _ (fun z hz => ?_) (by rw [e]) (by rw [e]))))
    rw [e, lb_or, gr z hz, gt z hz, ruB_hit, ruB_hit]
    show _ = (decide (z < w) && (hit x (q.2.2.1 z ||| q.2.1 z) || q.2.2.2 z))
    rw [hit_or]
    cases decide (z < w) <;> cases hit x (q.2.2.1 z) <;> cases hit x (q.2.1 z) <;> cases q.2.2.2 z <;> rfl
  · subst h4
    have e : sy w 4 d m q = (q.1, q.2.1, q.2.2.1, fun k => q.2.2.2 k || lb m k) := rfl
    refine bs_fL_i p rfl (bs_p_i p (by simp) rfl (fr _ (fun z hz => ?_) (by rw [e]) (by rw [e])))
    rw [e, lb_or, gr z hz, ruB_hit, ruB_hit]
    show _ = (decide (z < w) && (hit x (q.2.2.1 z) || (q.2.2.2 z || lb m z)))
    by_cases hzw : z < w
    · simp [hzw, Bool.or_assoc]
    · rw [fit_in (by decide) (by decide) (by decide) (by decide) (by decide) hf z hz (by omega)]
      simp [hzw]
  · subst h5
    obtain ⟨j, rfl, ok⟩ := fit_sw hw hf
    have d0 := ok.2.1
    have e : sy w 5 (nI j) m q = (swC w (nI j).toNatClampNeg m q.1 (w - (nI j).toNatClampNeg), q.2) := rfl
    refine bs_fL_i p rfl ?_
    show bs_kL Φ _ (.ok (some (.long (exW a (nI j) m)))) h
    refine bs_kL_i (bs_p_i p (by simp) rfl (k _ _ _ ?_ (by rw [e]; exact gt) (fun z hz => ?_)))
    · rw [e, nI_clamp (by omega)]
      exact exW_g hw ga ok (fit_swi hf)
    · rw [gr z hz, ruB_hit, ruB_hit, e]
  · subst h6
    have e : sy w 6 d m q = (q.1, q.2.1, fun k => q.2.2.1 k ||| q.1 k, q.2.2.2) := rfl
    refine bs_fL_i p rfl (bs_fL_i p rfl (bs_p_i p (by simp) rfl (fr _ (fun z hz => ?_) (by rw [e]) (by rw [e]))))
    rw [e, lb_or, gr z hz, ga z hz, ruB_hit, ruB_hit]
    show _ = (decide (z < w) && (hit x (q.2.2.1 z ||| q.1 z) || q.2.2.2 z))
    rw [hit_or]
    cases decide (z < w) <;> cases hit x (q.2.2.1 z) <;> cases hit x (q.1 z) <;> cases q.2.2.2 z <;> rfl
  · subst h7
    have e : sy w 7 d m q = (q.1, gat m q.1 w, q.2.2) := rfl
    exact ⟨⟨_, p⟩, s_W_gathered p hw ga (fun y hy => bs_kL_i (bs_p_i p (by simp) rfl (ft y (by rw [e]; exact hy) (by rw [e]) (by rw [e]))))⟩
  · have e : sy w op d m q = (q.1, fun k => if lb m k = true then q.2.1 (rk m k) else 0, q.2.2) := by
      unfold sy; rw [if_neg h0, if_neg hh1, if_neg h2, if_neg h3, if_neg h4, if_neg h5, if_neg h6, if_neg h7]
    exact ⟨⟨_, p⟩, s_W_scattered (q := q) p hw gt (fun y hy => bs_kL_i (bs_p_i p (by simp) rfl (ft y (by rw [e]; exact hy) (by rw [e]) (by rw [e]))))⟩
end RW
section RB
variable {Φ : bs_R → bs_H → Prop} {h : bs_H} {X w kc n : Nat} {f : Nat → Nat} {ks : bs_Ks} {st : bs_St}
theorem IC.mac {h' : bs_H} (i : IC X w f kc ks n st h) (c : cMac X h') (s1 : same X (X + 25) h h') (s2 : same (X + 27) (X + 37) h h') : IC X w f kc ks n st h' := by
  obtain ⟨i0, i1, i2, i3, i4, i5, i6, i7, i8, i9, i10⟩ := i
  exact ⟨i0, i1.kept (s1 _ (by omega) (by omega)), i2.kept (s1.sub (by omega) (by omega)), i3.kept (s1.sub (by omega) (by omega)), i4.kept (s1 _ (by omega) (by omega)), i5.kept (s1.sub (by omega) (by omega)), i6.kept (s1.sub (by omega) (by omega)), c, i8.kept (s2.sub (by omega) (by omega)), i9.kept (s2.sub (by omega) (by omega)), i10.kept (s2.sub (by omega) (by omega))⟩
theorem s_B_run (i : IC X w f kc ks n st h) (ok : okS w n st) (x : Int64) (ko : ∀ h', IC X w f kc ks n st h' → offC X h h' → Φ (.ok (some (.long (lb_of (ruB (syN w st n) x) w)))) h') : w_B_run Φ X x h := by
  have h1 := i.1.1
  have hw := i.1.2.1
  have hn := i.1.2.2.2.2
  obtain ⟨g, p, -⟩ := i.2.2.1
  obtain ⟨v1, v2, v3, v4, pm⟩ := i.2.2.2.2.2.2.2.1
  obtain ⟨ops, am, ms, pp, hst⟩ := i.2.2.2.2.2.2.1
  refine bs_fA_i i.2.1 rfl (bs_fA_i i.2.1 rfl (bs_fA_i i.2.1 rfl ⟨⟨_, p.1⟩, s_M_bits p (bs_kI_i ⟨⟨_, pm⟩, ?_⟩)⟩))
  refine bs_p_i pm (by simp) rfl (bs_fI_i bs_set_eq rfl (s_B_allBits hw (bs_kL_i (bs_p_i bs_set_eq (by simp) rfl (bs_p_i bs_set_eq (by simp) rfl (bs_p_i bs_set_eq (by simp) rfl ?_))))))
  rw [bs_set_set, bs_set_set, bs_set_set]
  show w_W_resultOf_32 _ 1000 (X + 26) (X + 22) (nI 0) (bs_set h (X + 26) (bs_obj 3 [.int (nI w), .long (x &&& lb_all w), .long 0, .long 0]))
  refine bs_for (σ := Int64 × Int64 × Int64) (fun u c y => w_W_resultOf_32 (bs_kL Φ fun v6 h7 => (Φ (.ok (some (.long v6))) h7)) u (X + 26) (X + 22) (nI c) (bs_set h (X + 26) (bs_obj 3 [.int (nI w), .long y.1, .long y.2.1, .long y.2.2]))) (fun c y => wg w x y.1 (syN w st c).1 ∧ wg w x y.2.1 (syN w st c).2.1 ∧ wr w x y.2.2 (syN w st c)) n ?_ ?_ n 0 (x &&& lb_all w, 0, 0) 1000 (by omega) (by omega) ⟨fun z hz => ?_, fun z hz => ?_, fun z hz => ?_⟩
  · rintro u c ⟨a, t, r⟩ hc ⟨g1, g2, g3⟩ nx
    have pq : pP (bs_set h (X + 26) (bs_obj 3 [.int (nI w), .long a, .long t, .long r])) (X + 22) n ops am ms := pp.kept (same.set (by omega))
    have pW' : pW (bs_set h (X + 26) (bs_obj 3 [.int (nI w), .long a, .long t, .long r])) (X + 26) w a t r := bs_set_eq
    refine ⟨⟨_, pq.1⟩, s_P_length pq (bs_kI_i (bs_iff (nI_ge hc (by omega)) ⟨⟨_, pq.1⟩, s_P_opAt pq (by omega) (bs_kI_i ⟨⟨_, pq.1⟩, s_P_amountAt pq (by omega) (bs_kI_i ⟨⟨_, pq.1⟩, s_P_maskAt pq (by omega) (bs_kL_i ⟨⟨_, pW'⟩, ?_⟩)⟩)⟩)⟩))⟩
    obtain ⟨e1, e2, e3⟩ := hst c hc
    rw [e1, e2, e3]
    refine s_W_perform pW' h1 hw g1 g2 g3 (ok c hc) (fun a' t' r' k1 k2 k3 => bs_kV_i ?_)
    rw [bs_set_set, ← nI_succ]
    exact nx (a', t', r') ⟨k1, k2, k3⟩
  · rintro u ⟨a, t, r⟩ ⟨g1, g2, g3⟩
    have pq : pP (bs_set h (X + 26) (bs_obj 3 [.int (nI w), .long a, .long t, .long r])) (X + 22) n ops am ms := pp.kept (same.set (by omega))
    refine ⟨⟨_, pq.1⟩, s_P_length pq (bs_kI_i (bs_ift (nI_le (by omega) (by omega)) (bs_fL_i bs_set_eq rfl (bs_kL_i ?_))))⟩
    have er : r = lb_of (ruB (syN w st n) x) w := by
      apply lb_ext
      intro z hz
      rw [g3 z hz, lb_of_at _ hz w hw]
    rw [er]
    exact ko _ (i.mac ⟨_, _, _, _, bs_set_eq⟩ (same.set (by omega)) (same.set (by omega))) ((offC.refl X h).set (by omega))
  · show lb (x &&& lb_all w) z = _
    rw [lb_and, lb_all_at h1 hw hz]
    show _ = (decide (z < w) && hit x (bs_shl 1 (nI z)))
    rw [hit_pow x hz, Bool.and_comm]
  · show lb 0 z = (decide (z < w) && hit x 0)
    rw [lb_0, hit_0]; simp
  · show lb 0 z = (decide (z < w) && (hit x 0 || false))
    rw [lb_0, hit_0]; simp
end RB
