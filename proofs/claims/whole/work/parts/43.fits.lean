/-! What a step may hold; patch, on both sides. -/
def inW (m : Int64) (w : Nat) : Bool := (List.range 64).all (fun k => decide (k < w) || !lb m k)
theorem inW_iff (m : Int64) (w : Nat) : inW m w = true ↔ ∀ k, k < 64 → w ≤ k → lb m k = false := by
  unfold inW
  rw [List.all_eq_true]
  constructor
  · intro h k hk hw
    have := h k (List.mem_range.mpr hk)
    have h2 : ¬ k < w := by omega
    simpa [h2] using this
  · intro h k hk
    by_cases h2 : k < w
    · simp [h2]
    · simp [h2, h k (List.mem_range.mp hk) (by omega)]
def swP (d w : Nat) (m : Int64) (k : Nat) : Bool := (List.range k).all (fun k => !lb m k || (decide (k + d < w) && !lb m (k + d)))
theorem swP_iff (d w : Nat) (m : Int64) (n : Nat) : swP d w m n = true ↔ ∀ k, k < n → lb m k = true → k + d < w ∧ lb m (k + d) = false := by
  unfold swP
  rw [List.all_eq_true]
  constructor
  · intro h k hk hl
    have := h k (List.mem_range.mpr hk)
    simpa [hl] using this
  · intro h k hk
    cases hl : lb m k with
    | false => simp
    | true =>
      have := h k (List.mem_range.mp hk) hl
      simp [this.1, this.2]
theorem swP_mono {d w : Nat} {m : Int64} {j n : Nat} (hj : j ≤ n) (h : swP d w m j = false) : swP d w m n = false := by
  cases hn : swP d w m n with
  | false => rfl
  | true =>
    have h1 := (swP_iff d w m n).mp hn
    have h2 : swP d w m j = true := (swP_iff d w m j).mpr fun k hk => h1 k (by omega)
    rw [h2] at h; cases h
def swB (w : Nat) (d : Int32) (m : Int64) : Bool := decide (0 < d.toInt) && decide (d.toInt < w) && inW m w && swP d.toNatClampNeg w m w
def fitsB (w : Nat) (op d : Int32) (m : Int64) : Bool :=
  if op = 0 then decide (-(w : Int) < d.toInt) && decide (d.toInt < w) && decide (m = 0)
  else if op = 1 then decide (0 ≤ d.toInt) && decide (d.toInt < w) && decide (m = 0)
  else if op = 3 ∨ op = 6 then decide (d = 0) && decide (m = 0)
  else if op = 5 then swB w d m
  else decide (d = 0) && inW m w
theorem bz_rZ {Φ : bs_R → bs_H → Prop} {h : bs_H} {b : Bool} {v : Int32} (e : bz b = v) (k : Φ (.ok (some (.int (bz b)))) h) : bs_rZ Φ v h := by subst e; exact bs_rZ_b k
section SF
variable {Φ : bs_R → bs_H → Prop} {h : bs_H} {X Y w kc n : Nat} {th : Int32} {f : Nat → Nat} {ks : bs_Ks} {st : bs_St}
theorem s_B_allBits {v : Nat} (hv : v ≤ 64) (k : Φ (.ok (some (.long (lb_all v)))) h) : w_B_allBits Φ (nI v) h := by
  unfold w_B_allBits
  rw [show (64 : Int32) = nI 64 from rfl, pk_sub hv]
  exact k
theorem s_B_fitsWidth {v : Nat} {m : Int64} (h1 : 1 ≤ v) (hv : v ≤ 64) (k : Φ (.ok (some (.int (bz (inW m v))))) h) : w_B_fitsWidth Φ m (nI v) h := by
  refine s_B_allBits hv (bs_kL_i ?_)
  have e : (m &&& (lb_all v ^^^ (-1))) = 0 ↔ inW m v = true := by
    rw [lb_ne0, inW_iff]
    constructor
    · intro hh z hz hz2
      have := hh z hz
      rw [lb_and, lb_xor, lb_all_at h1 hv hz, lb_m1 hz] at this
      have hn : ¬ z < v := by omega
      simpa [hn] using this
    · intro hh z hz
      rw [lb_and, lb_xor, lb_all_at h1 hv hz, lb_m1 hz]
      by_cases hzv : z < v
      · simp [hzv]
      · simp [hh z hz (by omega)]
  refine bs_ife e (fun hc => ?_) (fun hc => ?_)
  · exact bz_rZ (by rw [hc]; rfl) k
  · exact bz_rZ (by cases hb : inW m v with | false => rfl | true => exact absurd hb hc) k
theorem s_B_fitsSwap {m : Int64} (h1 : 1 ≤ w) (hw : w ≤ 64) (d : Int32) (k : Φ (.ok (some (.int (bz (swB w d m))))) h) : w_B_fitsSwap Φ d m (nI w) h := by
  have e : (nI w).toInt = (w : Int) := nI_toInt (by omega)
  have z : (0 : Int32).toInt = 0 := rfl
  refine bs_ifc (fun hc => ?_) (fun hc => bs_ifc (fun hd => ?_) (fun hd => ?_))
  · rw [Int32.le_iff_toInt_le] at hc
    have hn : ¬ 0 < d.toInt := by omega
    exact bz_rZ (by simp [swB, hn, bz]) k
  · rw [Int32.le_iff_toInt_le] at hc
    rw [Int32.lt_iff_toInt_lt, e] at hd
    obtain ⟨j, hj, rfl⟩ := nI_between (x := d) (m := w) ⟨by omega, by omega⟩
    rw [nI_toInt (by omega)] at hc hd
    have hcl : (nI j).toNatClampNeg = j := nI_clamp (by omega)
    have hsw : swB w (nI j) m = (inW m w && swP j w m w) := by
      unfold swB
      rw [nI_toInt (by omega), hcl]
      have a3 : 0 < j := by omega
      simp [a3, hj]
    rw [hsw] at k
    rw [pk_sub (by omega)]
    refine s_B_fitsWidth (by omega) (by omega) (bs_kI_i (bs_ifz (fun hb => ?_) (fun hb => ?_)))
    · refine bz_rZ (b := inW m w && swP j w m w) ?_ k
      have : (inW m w && swP j w m w) = false := by
        cases hh : (inW m w && swP j w m w) with
        | false => rfl
        | true =>
          rw [Bool.and_eq_true, inW_iff, swP_iff] at hh
          have : inW m (w - j) = true := by
            rw [inW_iff]
            intro q hq hq2
            cases hl : lb m q with
            | false => rfl
            | true =>
              by_cases hqw : q < w
              · have := (hh.2 q hqw hl).1; omega
              · rw [hh.1 q hq (by omega)] at hl; cases hl
          rw [this] at hb; cases hb
      rw [this]; rfl
    · rw [inW_iff] at hb
      have e2 : (m &&& bs_shl m (nI j)) = 0 ↔ (inW m w && swP j w m w) = true := by
        rw [lb_ne0, Bool.and_eq_true, inW_iff, swP_iff]
        constructor
        · intro hh
          refine ⟨fun q hq hq2 => hb q hq (by omega), fun q hq hl => ?_⟩
          have hqj : q + j < w := Nat.lt_of_not_le fun hle => by rw [hb q (by omega) (by omega)] at hl; cases hl
          refine ⟨hqj, ?_⟩
          have := hh (q + j) (by omega)
          rw [lb_and, lb_shl (by omega) (by omega), Nat.add_sub_cancel, hl] at this
          simpa using this
        · rintro ⟨hh1, hh2⟩ q hq
          rw [lb_and, lb_shl (by omega) hq]
          by_cases hjq : j ≤ q
          · cases hl : lb m (q - j) with
            | false => simp
            | true =>
              have hqw : q - j < w := Nat.lt_of_not_le fun hle => by rw [hh1 (q - j) (by omega) hle] at hl; cases hl
              have := (hh2 (q - j) hqw hl).2
              rw [Nat.sub_add_cancel hjq] at this
              simp [this]
          · simp [hjq]
      refine bs_ife e2 (fun hc2 => ?_) (fun hc2 => ?_)
      · exact bz_rZ (by rw [hc2]; rfl) k
      · exact bz_rZ (by cases hb2 : (inW m w && swP j w m w) with | false => rfl | true => exact absurd hb2 hc2) k
  · rw [Int32.lt_iff_toInt_lt, e] at hd
    exact bz_rZ (by simp [swB, hd, bz]) k
theorem s_B_fitsOp {m : Int64} (h1 : 1 ≤ w) (hw : w ≤ 64) (op d : Int32) (k : Φ (.ok (some (.int (bz (fitsB w op d m))))) h) : w_B_fitsOp Φ op d m (nI w) h := by
  have e : (nI w).toInt = (w : Int) := nI_toInt (by omega)
  have en : (-nI w).toInt = -(w : Int) := sb_negT (by omega)
  have z : (0 : Int32).toInt = 0 := rfl
  have fin : ∀ (b : Bool) (v : Int32), fitsB w op d m = b → bz b = v → bs_rZ Φ v h := fun b v hb hv => bz_rZ (b := fitsB w op d m) (by rw [hb]; exact hv) k
  refine bs_ifc (fun h0 => ?_) (fun h0 => bs_ifc (fun h01 => ?_) (fun h01 => bs_ifc (fun h3 => ?_) (fun h3 => bs_ifc (fun h5 => ?_) (fun h5 => bs_ifc (fun h6 => ?_) (fun h6 => ?_)))))
  · have hf : fitsB w op d m = (decide (-(w : Int) < d.toInt) && decide (d.toInt < w) && decide (m = 0)) := by unfold fitsB; rw [if_pos h0]
    refine bs_ifc (fun a => ?_) (fun a => bs_ifc (fun b => ?_) (fun b => bs_ifc (fun c => ?_) (fun c => ?_)))
    · rw [Int32.le_iff_toInt_le, en] at a
      have : ¬ -(w : Int) < d.toInt := by omega
      exact fin false 0 (by rw [hf]; simp [this]) rfl
    · rw [Int32.le_iff_toInt_le, e] at b
      have : ¬ d.toInt < (w : Int) := by omega
      exact fin false 0 (by rw [hf]; simp [this]) rfl
    · rw [Int32.le_iff_toInt_le, en] at a
      rw [Int32.le_iff_toInt_le, e] at b
      have a1 : -(w : Int) < d.toInt := by omega
      have a2 : d.toInt < (w : Int) := by omega
      exact fin true 1 (by rw [hf]; simp [a1, a2, c]) rfl
    · exact fin false 0 (by rw [hf]; simp [c]) rfl
  · have hf : fitsB w op d m = (decide (0 ≤ d.toInt) && decide (d.toInt < w) && decide (m = 0)) := by unfold fitsB; rw [if_neg h0, if_pos h01]
    refine bs_ifc (fun a => ?_) (fun a => bs_ifc (fun b => ?_) (fun b => bs_ifc (fun c => ?_) (fun c => ?_)))
    · rw [Int32.lt_iff_toInt_lt] at a
      have : ¬ 0 ≤ d.toInt := by omega
      exact fin false 0 (by rw [hf]; simp [this]) rfl
    · rw [Int32.le_iff_toInt_le, e] at b
      have : ¬ d.toInt < (w : Int) := by omega
      exact fin false 0 (by rw [hf]; simp [this]) rfl
    · rw [Int32.lt_iff_toInt_lt] at a
      rw [Int32.le_iff_toInt_le, e] at b
      have a1 : 0 ≤ d.toInt := by omega
      have a2 : d.toInt < (w : Int) := by omega
      exact fin true 1 (by rw [hf]; simp [a1, a2, c]) rfl
    · exact fin false 0 (by rw [hf]; simp [c]) rfl
  · have hf : fitsB w op d m = (decide (d = 0) && decide (m = 0)) := by unfold fitsB; rw [if_neg h0, if_neg h01, if_pos (Or.inl h3)]
    refine bs_ifc (fun a => bs_ifc (fun c => ?_) (fun c => ?_)) (fun a => ?_)
    · exact fin true 1 (by rw [hf]; simp [a, c]) rfl
    · exact fin false 0 (by rw [hf]; simp [c]) rfl
    · exact fin false 0 (by rw [hf]; simp [a]) rfl
  · have hf : fitsB w op d m = swB w d m := by unfold fitsB; rw [if_neg h0, if_neg h01, if_neg (by rw [h5]; decide), if_pos h5]
    exact s_B_fitsSwap h1 hw d (bs_kI_i (bs_rZ_b (by rw [← hf]; exact k)))
  · have hf : fitsB w op d m = (decide (d = 0) && decide (m = 0)) := by unfold fitsB; rw [if_neg h0, if_neg h01, if_pos (Or.inr h6)]
    refine bs_ifc (fun a => bs_ifc (fun c => ?_) (fun c => ?_)) (fun a => ?_)
    · exact fin true 1 (by rw [hf]; simp [a, c]) rfl
    · exact fin false 0 (by rw [hf]; simp [c]) rfl
    · exact fin false 0 (by rw [hf]; simp [a]) rfl
  · have hf : fitsB w op d m = (decide (d = 0) && inW m w) := by unfold fitsB; rw [if_neg h0, if_neg h01, if_neg (fun q => q.elim h3 h6), if_neg h5]
    refine bs_ifc (fun a => s_B_fitsWidth h1 hw (bs_kI_i (bs_ifz (fun c => ?_) (fun c => ?_)))) (fun a => ?_)
    · exact fin false 0 (by rw [hf]; simp [c]) rfl
    · exact fin true 1 (by rw [hf]; simp [a, c]) rfl
    · exact fin false 0 (by rw [hf]; simp [a]) rfl
theorem s_B_patch (i : IC X w f kc ks n st h) (x d : Int32) (m : Int64) (ke : ¬ (0 ≤ x.toInt ∧ x.toInt < n) → bud h 1 ∧ Φ (.error "java/lang/IndexOutOfBoundsException") (bs_thrown h)) (kw : ∀ j, j < n → x = nI j → fitsB w (st j).1 d m = false → bud h 1 ∧ Φ (.error "java/lang/IllegalArgumentException") (bs_thrown h))
    (ko : ∀ j, j < n → x = nI j → fitsB w (st j).1 d m = true → ∀ h', IC X w f kc ks n (va_up st j ((st j).1, d, m)) h' → offC X h h' → Φ (.ok none) h') : w_B_patch Φ X x d m h := by
  refine ⟨⟨_, i.2.1⟩, s_B_requireStep i x (fun hc => ⟨(ke hc).1, bs_kV_e (ke hc).2⟩) (fun j hj hx => bs_kV_i ?_)⟩
  have hn := i.1.2.2.2.2
  obtain ⟨o, am, mm, p, q⟩ := i.2.2.2.2.2.2.1
  obtain ⟨gm, pm, qm⟩ := i.2.2.1
  subst hx
  refine bs_fA_i i.2.1 rfl ⟨⟨_, p.1⟩, s_P_opAt p (by omega) (bs_kI_i (bs_fA_i i.2.1 rfl ⟨⟨_, pm.1⟩, s_M_bits pm (bs_kI_i ?_)⟩))⟩
  rw [(q j hj).1]
  refine s_B_fitsOp i.1.1 i.1.2.1 _ _ (bs_kI_i (bs_ifz (fun hb => ?_) (fun hb => ?_)))
  · exact bs_th_i (kw j hj rfl hb).1 (kw j hj rfl hb).2
  · refine bs_fA_i i.2.1 rfl ⟨⟨_, p.1⟩, s_P_change p (by omega) (bs_kV_i ?_)⟩
    refine ko j hj rfl hb _ (i.pro hn ⟨o, va_up am j d, va_up mm j m, ⟨by rw [bs_set_ne (by omega), bs_set_ne (by omega)]; exact p.1, by rw [bs_set_ne (by omega), bs_set_ne (by omega)]; exact p.2.1, by rw [bs_set_ne (by omega), bs_set_eq], bs_set_eq⟩, fun z hz => ?_⟩ ((same.set (by omega)).trans (same.set (by omega))) ((same.set (by omega)).trans (same.set (by omega)))) (((offC.refl X h).set (by omega)).set (by omega))
    by_cases hzj : z = j
    · subst hzj; rw [bs_up_eq, bs_up_eq, bs_up_eq]; exact ⟨(q z hz).1, rfl, rfl⟩
    · rw [bs_up_ne _ _ hzj, bs_up_ne _ _ hzj, bs_up_ne _ _ hzj]; exact q z hz
theorem s_R_fits (i : IR Y th w f kc ks n st h) (op d : Int32) (m : Int64) (k : Φ (.ok (some (.int (bz (fitsB w op d m))))) h) : w_R_fits Φ Y op d m h := by
  have h1 := i.1.1
  have hw := i.1.2.1
  have e : (nI w).toInt = (w : Int) := nI_toInt (by omega)
  have en : (-nI w).toInt = -(w : Int) := sb_negT (by omega)
  have z : (0 : Int32).toInt = 0 := rfl
  have fin : ∀ (b : Bool) (v : Int32), fitsB w op d m = b → bz b = v → bs_rZ Φ v h := fun b v hb hv => bz_rZ (b := fitsB w op d m) (by rw [hb]; exact hv) k
  refine bs_fI_i i.2.1 rfl ?_
  refine bs_for (σ := Bool) (fun q c s => w_R_fits_9 Φ q Y op d m (bz s) (nI c) h) (fun c s => w ≤ c ∧ (s = true ↔ ∀ z, w ≤ z → z < c → lb m z = false)) 64 ?_ ?_ (64 - w) w true 1000 (by omega) (by omega) ⟨Nat.le_refl _, fun _ z h2 h3 => by omega, fun _ => rfl⟩
  · rintro q c s hc ⟨hwc, hs⟩ nx
    have stp : ∀ b : Bool, (b = true ↔ ∀ z, w ≤ z → z < c + 1 → lb m z = false) → w_R_fits_36 Φ (w_R_fits_9 Φ q) Y op d m (nI c) (bz b) h := by
      intro b hb
      show w_R_fits_9 Φ q Y op d m (bz b) (nI c + 1) h
      rw [← nI_succ]
      exact nx b ⟨by omega, hb⟩
    refine bs_iff (nI_ge (b := 64) hc (by omega)) (bs_ifz (fun hb => ?_) (fun hb => ⟨⟨_, i.2.1⟩, s_R_isIn (by omega) (bs_kI_i (bs_ifz (fun hl => ?_) (fun hl => ?_)))⟩))
    · refine stp false ⟨(fun q => by cases q), fun q => ?_⟩
      have : s = true := hs.mpr (fun z h2 h3 => q z h2 (by omega))
      rw [hb] at this; cases this
    · refine stp true ⟨fun _ z h2 h3 => ?_, fun _ => rfl⟩
      by_cases hzc : z = c
      · subst hzc; exact hl
      · exact hs.mp hb z h2 (by omega)
    · by_cases hcw : w ≤ c
      · refine stp false ⟨(fun q => by cases q), fun q => ?_⟩
        have := q c hcw (by omega)
        rw [hl] at this; cases this
      · omega
  · rintro q s ⟨-, hs⟩
    have hin : s = inW m w := by
      have e1 : s = true ↔ inW m w = true := by
        rw [hs, inW_iff]
        exact ⟨fun q z h2 h3 => q z h3 h2, fun q z h2 h3 => q z h3 h2⟩
      cases s <;> cases hq : inW m w <;> simp_all
    refine bs_ift (nI_le (a := 64) (b := 64) (by omega) (by omega)) ?_
    refine bs_ifc (fun h0 => ?_) (fun h0 => bs_ifc (fun h01 => ?_) (fun h01 => bs_ifc (fun h3 => ?_) (fun h3 => bs_ifc (fun h6 => ?_) (fun h6 => bs_ifc (fun h5 => ?_) (fun h5 => ?_)))))
    · have hf : fitsB w op d m = (decide (-(w : Int) < d.toInt) && decide (d.toInt < w) && decide (m = 0)) := by unfold fitsB; rw [if_pos h0]
      refine bs_fI_i i.2.1 rfl (bs_ifc (fun a => ?_) (fun a => bs_fI_i i.2.1 rfl (bs_ifc (fun b => ?_) (fun b => bs_ifc (fun c => ?_) (fun c => ?_)))))
      · rw [Int32.le_iff_toInt_le, en] at a
        have : ¬ -(w : Int) < d.toInt := by omega
        exact fin false 0 (by rw [hf]; simp [this]) rfl
      · rw [Int32.le_iff_toInt_le, e] at b
        have : ¬ d.toInt < (w : Int) := by omega
        exact fin false 0 (by rw [hf]; simp [this]) rfl
      · rw [Int32.le_iff_toInt_le, en] at a
        rw [Int32.le_iff_toInt_le, e] at b
        have a1 : -(w : Int) < d.toInt := by omega
        have a2 : d.toInt < (w : Int) := by omega
        exact fin true 1 (by rw [hf]; simp [a1, a2, c]) rfl
      · exact fin false 0 (by rw [hf]; simp [c]) rfl
    · have hf : fitsB w op d m = (decide (0 ≤ d.toInt) && decide (d.toInt < w) && decide (m = 0)) := by unfold fitsB; rw [if_neg h0, if_pos h01]
      refine bs_ifc (fun a => ?_) (fun a => bs_fI_i i.2.1 rfl (bs_ifc (fun b => ?_) (fun b => bs_ifc (fun c => ?_) (fun c => ?_))))
      · rw [Int32.lt_iff_toInt_lt] at a
        have : ¬ 0 ≤ d.toInt := by omega
        exact fin false 0 (by rw [hf]; simp [this]) rfl
      · rw [Int32.le_iff_toInt_le, e] at b
        have : ¬ d.toInt < (w : Int) := by omega
        exact fin false 0 (by rw [hf]; simp [this]) rfl
      · rw [Int32.lt_iff_toInt_lt] at a
        rw [Int32.le_iff_toInt_le, e] at b
        have a1 : 0 ≤ d.toInt := by omega
        have a2 : d.toInt < (w : Int) := by omega
        exact fin true 1 (by rw [hf]; simp [a1, a2, c]) rfl
      · exact fin false 0 (by rw [hf]; simp [c]) rfl
    · have hf : fitsB w op d m = (decide (d = 0) && decide (m = 0)) := by unfold fitsB; rw [if_neg h0, if_neg h01, if_pos (Or.inl h3)]
      refine bs_ifc (fun a => bs_ifc (fun c => ?_) (fun c => ?_)) (fun a => ?_)
      · exact fin true 1 (by rw [hf]; simp [a, c]) rfl
      · exact fin false 0 (by rw [hf]; simp [c]) rfl
      · exact fin false 0 (by rw [hf]; simp [a]) rfl
    · have hf : fitsB w op d m = (decide (d = 0) && decide (m = 0)) := by unfold fitsB; rw [if_neg h0, if_neg h01, if_pos (Or.inr h6)]
      refine bs_ifc (fun a => bs_ifc (fun c => ?_) (fun c => ?_)) (fun a => ?_)
      · exact fin true 1 (by rw [hf]; simp [a, c]) rfl
      · exact fin false 0 (by rw [hf]; simp [c]) rfl
      · exact fin false 0 (by rw [hf]; simp [a]) rfl
    · have hf : fitsB w op d m = swB w d m := by unfold fitsB; rw [if_neg h0, if_neg h01, if_neg (fun q => q.elim h3 h6), if_pos h5]
      have no : swB w d m = false → w_R_fits_174 Φ Y d m h := by
        intro hn
        show w_R_fits_180 Φ (999 + 1) Y d m 0 (nI 0) h
        refine bs_fI_i i.2.1 rfl (bs_iff (nI_ge (by omega) (by omega)) (bs_ift rfl ?_))
        exact fin false 0 (by rw [hf, hn]) rfl
      refine bs_ifc (fun a => no ?_) (fun a => bs_fI_i i.2.1 rfl (bs_ifc (fun b => no ?_) (fun b => bs_ifz (fun c => no ?_) (fun c => ?_))))
      · rw [Int32.le_iff_toInt_le] at a
        have : ¬ 0 < d.toInt := by omega
        simp [swB, this]
      · rw [Int32.le_iff_toInt_le, e] at b
        have : ¬ d.toInt < (w : Int) := by omega
        simp [swB, this]
      · rw [hin] at c
        simp [swB, c]
      · rw [Int32.le_iff_toInt_le] at a
        rw [Int32.le_iff_toInt_le, e] at b
        obtain ⟨j, hj, rfl⟩ := nI_between (x := d) (m := w) ⟨by omega, by omega⟩
        rw [nI_toInt (by omega)] at a b
        have hcl : (nI j).toNatClampNeg = j := nI_clamp (by omega)
        have hsw : swB w (nI j) m = swP j w m w := by
          unfold swB
          rw [nI_toInt (by omega), hcl, ← hin, c]
          have a3 : 0 < j := by omega
          simp [a3, hj]
        rw [hsw] at hf
        show w_R_fits_180 Φ 1000 Y (nI j) m (bz true) (nI 0) h
        refine bs_for (σ := Bool) (fun q c s => w_R_fits_180 Φ q Y (nI j) m (bz s) (nI c) h) (fun c s => s = swP j w m c) w ?_ ?_ w 0 true 1000 (by omega) (by omega) rfl
        · intro q c s hc2 hs2 nx
          have stp : ∀ b : Bool, b = swP j w m (c + 1) → w_R_fits_232 Φ (w_R_fits_180 Φ q) Y (nI j) m (nI c) (bz b) h := by
            intro b hb
            show w_R_fits_180 Φ q Y (nI j) m (bz b) (nI c + 1) h
            rw [← nI_succ]
            exact nx b hb
          have hsucc : swP j w m (c + 1) = (swP j w m c && (!lb m c || (decide (c + j < w) && !lb m (c + j)))) := by
            unfold swP
            rw [List.range_succ, List.all_append]
            simp
          refine bs_fI_i i.2.1 rfl (bs_iff (nI_ge (by omega) (by omega)) (bs_ifz (fun hb => ?_) (fun hb => ⟨⟨_, i.2.1⟩, s_R_isIn (by omega) (bs_kI_i (bs_ifz (fun hl => ?_) (fun hl => bs_fI_i i.2.1 rfl ?_)))⟩)))
          · have : swP j w m w = false := swP_mono (show c ≤ w by omega) (by rw [← hs2, hb])
            exact fin false _ (by rw [hf, this]) (by rw [hb])
          · exact stp true (by rw [hsucc, ← hs2, hb, hl]; simp)
          · rw [nI_add]
            refine bs_ife (nI_leI (a := w) (b := c + j) (by omega) (by omega)) (fun h7 => ?_) (fun h7 => ⟨⟨_, i.2.1⟩, s_R_isIn (by omega) (bs_kI_i (bs_ifz (fun hl2 => ?_) (fun hl2 => ?_)))⟩)
            · have : ¬ c + j < w := by omega
              exact stp false (by rw [hsucc, hl]; simp [this])
            · have : c + j < w := by omega
              exact stp true (by rw [hsucc, ← hs2, hb, hl, hl2]; simp [this])
            · exact stp false (by rw [hsucc, hl, hl2]; simp)
        · intro q s hs2
          refine bs_fI_i i.2.1 rfl (bs_ift (nI_le (by omega) (by omega)) ?_)
          exact fin (swP j w m w) _ hf (by rw [← hs2])
    · have hf : fitsB w op d m = (decide (d = 0) && inW m w) := by unfold fitsB; rw [if_neg h0, if_neg h01, if_neg (fun q => q.elim h3 h6), if_neg h5]
      refine bs_ifc (fun a => bs_ifz (fun c => ?_) (fun c => ?_)) (fun a => ?_)
      · rw [hin] at c
        exact fin false 0 (by rw [hf]; simp [c]) rfl
      · rw [hin] at c
        exact fin true 1 (by rw [hf]; simp [a, c]) rfl
      · exact fin false 0 (by rw [hf]; simp [a]) rfl
theorem s_R_patch (i : IR Y th w f kc ks n st h) (x d : Int32) (m : Int64) (ke : ¬ (0 ≤ x.toInt ∧ x.toInt < n) → ∀ h', IR Y 1 w f kc ks n st h' → offR Y h h' → Φ (.ok none) h') (kw : ∀ j, j < n → x = nI j → fitsB w (st j).1 d m = false → ∀ h', IR Y 2 w f kc ks n st h' → offR Y h h' → Φ (.ok none) h')
    (ko : ∀ j, j < n → x = nI j → fitsB w (st j).1 d m = true → ∀ h', IR Y 0 w f kc ks n (va_up st j ((st j).1, d, m)) h' → offR Y h h' → Φ (.ok none) h') : w_R_patch Φ Y x d m h := by
  have hn := i.1.2.2.2.2
  refine ⟨⟨_, i.2.1⟩, s_R_noStep i x (bs_kI_i (bs_ifz (fun hc => ?_) (fun hc => ?_)))⟩
  · obtain ⟨j, hj, rfl⟩ := nI_between (Decidable.not_not.mp (of_decide_eq_false hc))
    obtain ⟨o, am, mm, p1, p2, p3, q⟩ := i.2.2.2.1
    refine bs_fA_i i.2.1 rfl (bs_lI_i j p1 rfl (by omega) (by decide) ⟨⟨_, i.2.1⟩, ?_⟩)
    rw [(q j hj).1]
    refine s_R_fits i _ _ _ (bs_kI_i (bs_ifz (fun hb => ?_) (fun hb => ?_)))
    · exact s_R_th i 2 fun i' o' => bs_fI_i i'.2.1 rfl (bs_iff (by decide) (kw j hj rfl hb _ i' o'))
    · refine s_R_th i 0 fun i' o' => bs_fI_i i'.2.1 rfl (bs_ift rfl ?_)
      generalize bs_set h Y (bs_obj 7 (rF Y 0 w n kc)) = h2 at i' o' ⊢
      obtain ⟨i0, i1, i2, ⟨o2, am2, mm2, r1, r2, r3, r4⟩, i4, i5, i6, i7, i8⟩ := i'
      refine bs_fA_i i1 rfl (bs_sI_i j r2 rfl (by omega) (by decide) (bs_fA_i (by rw [bs_set_ne (by omega)]; exact i1) rfl (bs_sL_i j (by rw [bs_set_ne (by omega)]; exact r3) rfl (by omega) (by decide) ?_)))
      have s : same (Y + 5) (Y + 23) h2 (bs_set (bs_set h2 (Y + 3) (bs_ia 400 (va_up am2 j d))) (Y + 4) (bs_la 400 (va_up mm2 j m))) := (same.set (by omega)).trans (same.set (by omega))
      refine ko j hj rfl hb _ ⟨i0, i1.kept (by rw [bs_set_ne (by omega), bs_set_ne (by omega)]), i2.kept (by rw [bs_set_ne (by omega), bs_set_ne (by omega)]), ⟨o2, va_up am2 j d, va_up mm2 j m, by rw [bs_set_ne (by omega), bs_set_ne (by omega)]; exact r1, by rw [bs_set_ne (by omega), bs_set_eq], bs_set_eq, fun z hz => ?_⟩, i4.kept (s.sub (by omega) (by omega)), i5.kept (s.sub (by omega) (by omega)), i6.kept (s.sub (by omega) (by omega)), i7.kept (s.sub (by omega) (by omega)), i8.kept (s.sub (by omega) (by omega))⟩ ((o'.set (by omega)).set (by omega))
      by_cases hzj : z = j
      · subst hzj; rw [bs_up_eq, bs_up_eq, bs_up_eq]; exact ⟨(r4 z hz).1, rfl, rfl⟩
      · rw [bs_up_ne _ _ hzj, bs_up_ne _ _ hzj, bs_up_ne _ _ hzj]; exact r4 z hz
  · exact s_R_th i 1 fun i' o' => bs_fI_i i'.2.1 rfl (bs_iff (by decide) (ke (of_decide_eq_true hc) _ i' o'))
end SF
