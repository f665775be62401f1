/-! Symbols: one step of a program, as both sides do it. A state: the sets of A, T, R and the places of R that are or with 1. -/
abbrev sy_S : Type := (Nat → Int64) × (Nat → Int64) × (Nat → Int64) × (Nat → Bool)
/-- how many bits of m lie below k -/
def rk (m : Int64) : Nat → Nat
  | 0 => 0
  | k + 1 => if lb m k = true then rk m k + 1 else rk m k
theorem rk_le (m : Int64) (k : Nat) : rk m k ≤ k := by
  induction k with
  | zero => exact Nat.le_refl _
  | succ k ih => unfold rk; split <;> omega
theorem rk_t {m : Int64} {k : Nat} (h : lb m k = true) : rk m (k + 1) = rk m k + 1 := if_pos h
theorem rk_f {m : Int64} {k : Nat} (h : lb m k = false) : rk m (k + 1) = rk m k := if_neg (by rw [h]; exact (fun q => by cases q))
theorem rk_top {m : Int64} {w : Nat} (hm : ∀ k, k < 64 → w ≤ k → lb m k = false) : ∀ j, rk m (w + j) = rk m w := by
  intro j
  induction j with
  | zero => rfl
  | succ j ih =>
    show rk m (w + j + 1) = _
    by_cases h : w + j < 64
    · rw [rk_f (hm _ h (by omega)), ih]
    · rw [rk_f (lb_big (by omega)), ih]
def gat (m : Int64) (A : Nat → Int64) : Nat → Nat → Int64
  | 0, _ => 0
  | k + 1, z => if lb m k = true ∧ z = rk m k then A k else gat m A k z
theorem gat_hi (m : Int64) (A : Nat → Int64) : ∀ k z, rk m k ≤ z → gat m A k z = 0 := by
  intro k
  induction k with
  | zero => intro z _; rfl
  | succ k ih =>
    intro z hz
    unfold gat
    cases hb : lb m k with
    | true =>
      rw [rk_t hb] at hz
      rw [if_neg (fun q => by omega)]
      exact ih z (by omega)
    | false =>
      rw [rk_f hb] at hz
      rw [if_neg (fun q => by cases q.1)]
      exact ih z hz
def shT (w : Nat) (d : Int) (A : Nat → Int64) (z : Nat) : Int64 := if 0 ≤ (z : Int) - d ∧ (z : Int) - d < w then A ((z : Int) - d).toNat else 0
def roT (w d : Nat) (A : Nat → Int64) (z : Nat) : Int64 := A (if d ≤ z then z - d else z + w - d)
def swC (w d : Nat) (m : Int64) (A : Nat → Int64) (c z : Nat) : Int64 := if lb m z = true ∧ z + d < w ∧ z < c then A (z + d) else if d ≤ z ∧ lb m (z - d) = true ∧ z - d < c then A (z - d) else A z
/-- one step -/
def sy (w : Nat) (op d : Int32) (m : Int64) (s : sy_S) : sy_S :=
  if op = 0 then (s.1, shT w d.toInt s.1, s.2.2)
  else if op = 1 then (s.1, roT w d.toNatClampNeg s.1, s.2.2)
  else if op = 2 then (s.1, fun k => if lb m k = true then s.2.1 k else 0, s.2.2)
  else if op = 3 then (s.1, s.2.1, fun k => s.2.2.1 k ||| s.2.1 k, s.2.2.2)
  else if op = 4 then (s.1, s.2.1, s.2.2.1, fun k => s.2.2.2 k || lb m k)
  else if op = 5 then (swC w d.toNatClampNeg m s.1 (w - d.toNatClampNeg), s.2)
  else if op = 6 then (s.1, s.2.1, fun k => s.2.2.1 k ||| s.1 k, s.2.2.2)
  else if op = 7 then (s.1, gat m s.1 w, s.2.2)
  else (s.1, fun k => if lb m k = true then s.2.1 (rk m k) else 0, s.2.2)
theorem up_below {α : Type} {c : Nat} {T : Nat → α} {F : Nat → α} {v : α} (hT : ∀ z, z < c → T z = F z) (hv : v = F c) : ∀ z, z < c + 1 → va_up T c v z = F z := by
  intro z hz
  by_cases h : z = c
  · subst h; rw [bs_up_eq]; exact hv
  · rw [bs_up_ne _ _ h]; exact hT z (by omega)
theorem i32_sub {a b : Int32} (h : -1000 ≤ a.toInt - b.toInt ∧ a.toInt - b.toInt ≤ 1000) : (a - b).toInt = a.toInt - b.toInt := by
  rw [Int32.toInt_sub, Int.bmod_def]
  split <;> omega
theorem sub_addw {c j w : Nat} (h : j ≤ c + w) : nI c - nI j + nI w = nI (c + w - j) := by
  rw [Int32.sub_eq_add_neg, Int32.add_assoc, Int32.add_comm (-nI j), ← Int32.add_assoc, nI_add, ← Int32.sub_eq_add_neg, pk_sub h]
/-- the class's symbols at s -/
def pS (h : bs_H) (s w : Nat) (ga gt gr : Nat → Int64) (o : Int64) : Prop := h.1 s = some (bs_obj 4 [.ref (s + 1), .ref (s + 2), .ref (s + 3), .long o, .int (nI w)]) ∧ h.1 (s + 1) = some (bs_la 64 ga) ∧ h.1 (s + 2) = some (bs_la 64 gt) ∧ h.1 (s + 3) = some (bs_la 64 gr)
section SS
variable {Φ : bs_R → bs_H → Prop} {h : bs_H} {s w : Nat} {ga gt gr : Nat → Int64} {o : Int64}
theorem pS.a (p : pS h s w ga gt gr o) (g : Nat → Int64) : pS (bs_set h (s + 1) (bs_la 64 g)) s w g gt gr o := ⟨by rw [bs_set_ne (by omega)]; exact p.1, bs_set_eq, by rw [bs_set_ne (by omega)]; exact p.2.2.1, by rw [bs_set_ne (by omega)]; exact p.2.2.2⟩
theorem pS.t (p : pS h s w ga gt gr o) (g : Nat → Int64) : pS (bs_set h (s + 2) (bs_la 64 g)) s w ga g gr o := ⟨by rw [bs_set_ne (by omega)]; exact p.1, by rw [bs_set_ne (by omega)]; exact p.2.1, bs_set_eq, by rw [bs_set_ne (by omega)]; exact p.2.2.2⟩
theorem pS.r (p : pS h s w ga gt gr o) (g : Nat → Int64) : pS (bs_set h (s + 3) (bs_la 64 g)) s w ga gt g o := ⟨by rw [bs_set_ne (by omega)]; exact p.1, by rw [bs_set_ne (by omega)]; exact p.2.1, by rw [bs_set_ne (by omega)]; exact p.2.2.1, bs_set_eq⟩
theorem pS.own (p : pS h s w ga gt gr o) (o' : Int64) (w' : Nat) : pS (bs_set h s (bs_obj 4 [.ref (s + 1), .ref (s + 2), .ref (s + 3), .long o', .int (nI w')])) s w' ga gt gr o' := ⟨bs_set_eq, by rw [bs_set_ne (by omega)]; exact p.2.1, by rw [bs_set_ne (by omega)]; exact p.2.2.1, by rw [bs_set_ne (by omega)]; exact p.2.2.2⟩
theorem s_S_shift (p : pS h s w ga gt gr o) (hw : w ≤ 64) (d : Int32) (hd : -(w : Int) < d.toInt ∧ d.toInt < w) (k : ∀ T, (∀ z, z < w → T z = shT w d.toInt ga z) → Φ (.ok none) (bs_set h (s + 2) (bs_la 64 T))) : w_S_shift Φ s d h := by
  rw [← bs_set_get p.2.2.1]
  refine bs_for (σ := Nat → Int64) (fun q c T => w_S_shift_2 Φ q s d (nI c) (bs_set h (s + 2) (bs_la 64 T))) (fun c T => ∀ z, z < c → T z = shT w d.toInt ga z) w ?_ ?_ w 0 gt 1000 (by omega) (by omega) (fun z hz => by omega)
  · intro q c T hc hT nx
    have p' := p.t T
    have stp : ∀ v, v = shT w d.toInt ga c → w_S_shift_41 Φ (w_S_shift_2 Φ q) s d (nI c) (s + 2) (nI c) v (bs_set h (s + 2) (bs_la 64 T)) := by
      intro v hv
      refine bs_sL_i c p'.2.2.1 rfl (by omega) (by decide) ?_
      rw [bs_set_set, ← nI_succ]
      exact nx _ (up_below hT hv)
    have ec : (nI c).toInt = (c : Int) := nI_toInt (by omega)
    have e : (nI c - d).toInt = (c : Int) - d.toInt := by rw [i32_sub (by omega), ec]
    have ew : (nI w).toInt = (w : Int) := nI_toInt (by omega)
    have z0 : (0 : Int32).toInt = 0 := rfl
    refine bs_fI_i p'.1 rfl (bs_iff (nI_ge hc (by omega)) (bs_fA_i p'.1 rfl (bs_ifc (fun h1 => stp 0 ?_) (fun h1 => bs_fI_i p'.1 rfl (bs_ifc (fun h2 => stp 0 ?_) (fun h2 => bs_fA_i p'.1 rfl ?_))))))
    · rw [Int32.lt_iff_toInt_lt, e] at h1
      unfold shT; rw [if_neg (by omega)]
    · rw [Int32.le_iff_toInt_le, e, ew] at h2
      unfold shT; rw [if_neg (by omega)]
    · rw [Int32.lt_iff_toInt_lt, e] at h1
      rw [Int32.le_iff_toInt_le, e, ew] at h2
      obtain ⟨j, hj, hx⟩ := nI_between (x := nI c - d) (m := w) (by omega)
      refine bs_lL_i j p'.2.1 hx (by omega) (by decide) (stp _ ?_)
      rw [hx, nI_toInt (by omega)] at e
      unfold shT; rw [if_pos (by omega), ← e]; rfl
  · intro q T hT
    exact bs_fI_i (p.t T).1 rfl (bs_ift (nI_le (by omega) (by omega)) (k T hT))
theorem s_S_rotate (p : pS h s w ga gt gr o) (hw : w ≤ 64) {j : Nat} (hj : j < w) (k : ∀ T, (∀ z, z < w → T z = roT w j ga z) → Φ (.ok none) (bs_set h (s + 2) (bs_la 64 T))) : w_S_rotate Φ s (nI j) h := by
  rw [← bs_set_get p.2.2.1]
  refine bs_for (σ := Nat → Int64) (fun q c T => w_S_rotate_2 Φ q s (nI j) (nI c) (bs_set h (s + 2) (bs_la 64 T))) (fun c T => ∀ z, z < c → T z = roT w j ga z) w ?_ ?_ w 0 gt 1000 (by omega) (by omega) (fun z hz => by omega)
  · intro q c T hc hT nx
    have p' := p.t T
    have stp : ∀ x, x < 64 → x = (if j ≤ c then c - j else c + w - j) → w_S_rotate_38 Φ (w_S_rotate_2 Φ q) s (nI j) (nI c) (s + 2) (nI c) (s + 1) (nI x) (bs_set h (s + 2) (bs_la 64 T)) := by
      intro x hx hv
      refine bs_lL_i x p'.2.1 rfl hx (by decide) (bs_sL_i c p'.2.2.1 rfl (by omega) (by decide) ?_)
      rw [bs_set_set, ← nI_succ]
      exact nx _ (up_below hT (by unfold roT; rw [← hv]))
    refine bs_fI_i p'.1 rfl (bs_iff (nI_ge hc (by omega)) (bs_fA_i p'.1 rfl (bs_fA_i p'.1 rfl (bs_ife (nI_ltI (a := c) (b := j) (by omega) (by omega)) (fun h1 => bs_fI_i p'.1 rfl ?_) (fun h1 => ?_)))))
    · rw [sub_addw (by omega)]
      exact stp _ (by omega) (by rw [if_neg (by omega)])
    · rw [pk_sub (by omega)]
      exact stp _ (by omega) (by rw [if_pos (by omega)])
  · intro q T hT
    exact bs_fI_i (p.t T).1 rfl (bs_ift (nI_le (by omega) (by omega)) (k T hT))
theorem s_S_clearOutside (p : pS h s w ga gt gr o) (hw : w ≤ 64) (m : Int64) (k : ∀ T, (∀ z, z < w → T z = if lb m z = true then gt z else 0) → Φ (.ok none) (bs_set h (s + 2) (bs_la 64 T))) : w_S_clearOutside Φ s m h := by
  rw [← bs_set_get p.2.2.1]
  refine bs_for (σ := Nat → Int64) (fun q c T => w_S_clearOutside_2 Φ q s m (nI c) (bs_set h (s + 2) (bs_la 64 T))) (fun c T => (∀ z, z < c → T z = if lb m z = true then gt z else 0) ∧ ∀ z, c ≤ z → T z = gt z) w ?_ ?_ w 0 gt 1000 (by omega) (by omega) ⟨fun z hz => by omega, fun _ _ => rfl⟩
  · rintro q c T hc ⟨hT, hU⟩ nx
    have p' := p.t T
    refine bs_fI_i p'.1 rfl (bs_iff (nI_ge hc (by omega)) (s_B_holds (by omega) (bs_kI_i (bs_ifz (fun hb => bs_fA_i p'.1 rfl (bs_sL_i c p'.2.2.1 rfl (by omega) (by decide) ?_)) (fun hb => ?_)))))
    · show w_S_clearOutside_2 Φ q s m (nI c + 1) _
      rw [bs_set_set, ← nI_succ]
      refine nx _ ⟨up_below hT (by simp [hb]), fun z hz => ?_⟩
      rw [bs_up_ne _ _ (by omega)]; exact hU z (by omega)
    · show w_S_clearOutside_2 Φ q s m (nI c + 1) _
      rw [← nI_succ]
      refine nx _ ⟨fun z hz => ?_, fun z hz => hU z (by omega)⟩
      by_cases hzc : z = c
      · subst hzc; rw [hb, if_pos rfl]; exact hU z (Nat.le_refl _)
      · exact hT z (by omega)
  · rintro q T ⟨hT, -⟩
    exact bs_fI_i (p.t T).1 rfl (bs_ift (nI_le (by omega) (by omega)) (k T hT))
theorem s_S_addToResult (p : pS h s w ga gt gr o) (hw : w ≤ 64) {x : Nat} {row : Nat → Int64} (hx : h.1 x = some (bs_la 64 row)) (hne : x ≠ s + 3) (k : ∀ G, (∀ z, z < w → G z = gr z ||| row z) → Φ (.ok none) (bs_set h (s + 3) (bs_la 64 G))) : w_S_addToResult Φ s x h := by
  rw [← bs_set_get p.2.2.2]
  refine bs_for (σ := Nat → Int64) (fun q c G => w_S_addToResult_2 Φ q s x (nI c) (bs_set h (s + 3) (bs_la 64 G))) (fun c G => (∀ z, z < c → G z = gr z ||| row z) ∧ ∀ z, c ≤ z → G z = gr z) w ?_ ?_ w 0 gr 1000 (by omega) (by omega) ⟨fun z hz => by omega, fun _ _ => rfl⟩
  · rintro q c G hc ⟨hT, hU⟩ nx
    have p' := p.r G
    refine bs_fI_i p'.1 rfl (bs_iff (nI_ge hc (by omega)) (bs_fA_i p'.1 rfl (bs_lL_i c p'.2.2.2 rfl (by omega) (by decide) (bs_lL_i c (by rw [bs_set_ne hne]; exact hx) rfl (by omega) (by decide) (bs_sL_i c p'.2.2.2 rfl (by omega) (by decide) ?_)))))
    show w_S_addToResult_2 Φ q s x (nI c + 1) _
    rw [bs_set_set, ← nI_succ]
    refine nx _ ⟨up_below hT (by rw [hU c (Nat.le_refl _)]), fun z hz => ?_⟩
    rw [bs_up_ne _ _ (by omega)]; exact hU z (by omega)
  · rintro q T ⟨hT, -⟩
    exact bs_fI_i (p.r T).1 rfl (bs_ift (nI_le (by omega) (by omega)) (k T hT))
theorem swC_0 (w d : Nat) (m : Int64) (A : Nat → Int64) (z : Nat) : swC w d m A 0 z = A z := by
  unfold swC; rw [if_neg (by omega), if_neg (by omega)]
theorem swC_f {w d : Nat} {m : Int64} {A : Nat → Int64} {c z : Nat} (hb : lb m c = false) : swC w d m A (c + 1) z = swC w d m A c z := by
  unfold swC
  by_cases h1 : lb m z = true ∧ z + d < w ∧ z < c
  · rw [if_pos h1, if_pos ⟨h1.1, h1.2.1, by omega⟩]
  · have n1 : ¬ (lb m z = true ∧ z + d < w ∧ z < c + 1) := by
      rintro ⟨a, b, e⟩
      by_cases hz : z = c
      · subst hz; rw [hb] at a; cases a
      · exact h1 ⟨a, b, by omega⟩
    rw [if_neg h1, if_neg n1]
    by_cases h2 : d ≤ z ∧ lb m (z - d) = true ∧ z - d < c
    · rw [if_pos h2, if_pos ⟨h2.1, h2.2.1, by omega⟩]
    · have n2 : ¬ (d ≤ z ∧ lb m (z - d) = true ∧ z - d < c + 1) := by
        rintro ⟨a, b, e⟩
        by_cases hz : z - d = c
        · rw [hz, hb] at b; cases b
        · exact h2 ⟨a, b, by omega⟩
      rw [if_neg h2, if_neg n2]
/-- a mask that fits -/
def swOk (w d : Nat) (m : Int64) : Prop := 0 < d ∧ d < w ∧ ∀ k, k < w → lb m k = true → k + d < w ∧ lb m (k + d) = false
theorem swC_at {w d : Nat} {m : Int64} {A : Nat → Int64} {c : Nat} (ok : swOk w d m) (hb : lb m c = true) (hc : c + d < w) : swC w d m A c c = A c ∧ swC w d m A c (c + d) = A (c + d) := by
  constructor
  · unfold swC
    rw [if_neg (by omega), if_neg]
    rintro ⟨a, b, e⟩
    have := (ok.2.2 (c - d) (by omega) b).2
    rw [Nat.sub_add_cancel a, hb] at this; cases this
  · have := (ok.2.2 c (by omega) hb).2
    unfold swC
    rw [if_neg (by rw [this]; exact (fun q => by cases q.1)), if_neg]
    rintro ⟨a, b, e⟩
    omega
theorem swC_t {w d : Nat} {m : Int64} {A : Nat → Int64} {c z : Nat} (ok : swOk w d m) (hb : lb m c = true) (hc : c + d < w) : swC w d m A (c + 1) z = if z = c + d then A c else if z = c then A (c + d) else swC w d m A c z := by
  have d0 := ok.1
  have hcd := (ok.2.2 c (by omega) hb).2
  by_cases h1 : z = c + d
  · subst h1
    unfold swC
    rw [if_pos rfl, if_neg (by rw [hcd]; exact (fun q => by cases q.1)), if_pos ⟨by omega, by rw [Nat.add_sub_cancel]; exact hb, by omega⟩, Nat.add_sub_cancel]
  · rw [if_neg h1]
    by_cases h2 : z = c
    · subst h2
      unfold swC
      rw [if_pos rfl, if_pos ⟨hb, hc, by omega⟩]
    · rw [if_neg h2]
      unfold swC
      have e1 : (lb m z = true ∧ z + d < w ∧ z < c + 1) ↔ (lb m z = true ∧ z + d < w ∧ z < c) := ⟨fun q => ⟨q.1, q.2.1, by omega⟩, fun q => ⟨q.1, q.2.1, by omega⟩⟩
      have e2 : (d ≤ z ∧ lb m (z - d) = true ∧ z - d < c + 1) ↔ (d ≤ z ∧ lb m (z - d) = true ∧ z - d < c) := ⟨fun q => ⟨q.1, q.2.1, by omega⟩, fun q => ⟨q.1, q.2.1, by omega⟩⟩
      simp only [e1, e2]
theorem swC_step {w d : Nat} {m : Int64} {A B : Nat → Int64} {c : Nat} (ok : swOk w d m) (hb : lb m c = true) (hc : c + d < w) (hB : ∀ z, z < w → B z = swC w d m A c z) : ∀ z, z < w → va_up (va_up B c (B (c + d))) (c + d) (B c) z = swC w d m A (c + 1) z := by
  intro z hz
  have d0 := ok.1
  have a := swC_at (A := A) ok hb hc
  rw [swC_t ok hb hc]
  by_cases h1 : z = c + d
  · subst h1; rw [bs_up_eq, if_pos rfl, hB _ (by omega), a.1]
  · rw [bs_up_ne _ _ h1, if_neg h1]
    by_cases h2 : z = c
    · subst h2; rw [bs_up_eq, if_pos rfl, hB _ hc, a.2]
    · rw [bs_up_ne _ _ h2, if_neg h2]; exact hB z hz
theorem s_S_swap (p : pS h s w ga gt gr o) (hw : w ≤ 64) {d : Nat} {m : Int64} (ok : swOk w d m) (k : ∀ T, (∀ z, z < w → T z = swC w d m ga (w - d) z) → Φ (.ok none) (bs_set h (s + 1) (bs_la 64 T))) : w_S_swap Φ s (nI d) m h := by
  rw [← bs_set_get p.2.1]
  have hd := ok.2.1
  refine bs_for (σ := Nat → Int64) (fun q c T => w_S_swap_3 Φ q s (nI d) m (nI c) (bs_set h (s + 1) (bs_la 64 T))) (fun c T => ∀ z, z < w → T z = swC w d m ga c z) (w - d) ?_ ?_ (w - d) 0 ga 1000 (by omega) (by omega) (fun z hz => (swC_0 w d m ga z).symm)
  · intro q c T hc hT nx
    have p' := p.a T
    refine bs_fI_i p'.1 rfl ?_
    rw [nI_add]
    refine bs_iff (nI_ge (a := c + d) (b := w) (by omega) (by omega)) (s_B_holds (by omega) (bs_kI_i (bs_ifz (fun hb => ?_) (fun hb => ?_))))
    · show w_S_swap_3 Φ q s (nI d) m (nI c + 1) _
      rw [← nI_succ]
      exact nx _ (fun z hz => by rw [swC_f hb]; exact hT z hz)
    · refine bs_fA_i p'.1 rfl (bs_lL_i c p'.2.1 rfl (by omega) (by decide) (bs_fA_i p'.1 rfl (bs_fA_i p'.1 rfl (bs_lL_i (c + d) p'.2.1 rfl (by omega) (by decide) (bs_sL_i c p'.2.1 rfl (by omega) (by decide) ?_)))))
      rw [bs_set_set]
      refine bs_fA_i (p.a _).1 rfl (bs_sL_i (c + d) (p.a _).2.1 rfl (by omega) (by decide) ?_)
      show w_S_swap_3 Φ q s (nI d) m (nI c + 1) _
      rw [bs_set_set, ← nI_succ]
      exact nx _ (swC_step ok hb (by omega) hT)
  · intro q T hT
    refine bs_fI_i (p.a T).1 rfl ?_
    rw [nI_add]
    exact bs_ift (nI_le (a := w) (b := w - d + d) (by omega) (by omega)) (k T hT)
theorem s_S_gather (p : pS h s w ga gt gr o) (hw : w ≤ 64) (m : Int64) (k : ∀ T, (∀ z, z < w → T z = gat m ga w z) → Φ (.ok none) (bs_set h (s + 2) (bs_la 64 T))) : w_S_gather Φ s m h := by
  rw [← bs_set_get p.2.2.1]
  show w_S_gather_5 Φ 1000 s m (nI (rk m 0)) (nI 0) _
  refine bs_for (σ := Nat → Int64) (fun q c T => w_S_gather_5 Φ q s m (nI (rk m c)) (nI c) (bs_set h (s + 2) (bs_la 64 T))) (fun c T => ∀ z, z < rk m c → T z = gat m ga c z) w ?_ ?_ w 0 gt 1000 (by omega) (by omega) (fun z hz => absurd hz (Nat.not_lt_zero z))
  · intro q c T hc hT nx
    have p' := p.t T
    have hr := rk_le m c
    refine bs_fI_i p'.1 rfl (bs_iff (nI_ge hc (by omega)) (s_B_holds (by omega) (bs_kI_i (bs_ifz (fun hb => ?_) (fun hb => bs_fA_i p'.1 rfl (bs_fA_i p'.1 rfl (bs_lL_i c p'.2.1 rfl (by omega) (by decide) (bs_sL_i (rk m c) p'.2.2.1 rfl (by omega) (by decide) ?_))))))))
    · show w_S_gather_5 Φ q s m (nI (rk m c)) (nI c + 1) _
      rw [← nI_succ, ← rk_f hb]
      refine nx _ (fun z hz => ?_)
      rw [rk_f hb] at hz
      unfold gat
      rw [if_neg (by rw [hb]; exact (fun q => by cases q.1))]
      exact hT z hz
    · show w_S_gather_5 Φ q s m (nI (rk m c) + 1) (nI c + 1) _
      rw [bs_set_set, ← nI_succ, ← nI_succ, ← rk_t hb]
      refine nx _ (fun z hz => ?_)
      rw [rk_t hb] at hz
      unfold gat
      by_cases hzc : z = rk m c
      · subst hzc; rw [bs_up_eq, if_pos ⟨hb, rfl⟩]
      · rw [bs_up_ne _ _ hzc, if_neg (fun q => hzc q.2)]; exact hT z (by omega)
  · intro q T hT
    have hr := rk_le m w
    refine bs_fI_i (p.t T).1 rfl (bs_ift (nI_le (by omega) (by omega)) ?_)
    refine bs_for (σ := Nat → Int64) (fun q c T => w_S_gather_48 Φ q s (nI c) (bs_set h (s + 2) (bs_la 64 T))) (fun c T => rk m w ≤ c ∧ ∀ z, z < c → T z = gat m ga w z) w ?_ ?_ (w - rk m w) (rk m w) T 1000 (by omega) (by omega) ⟨Nat.le_refl _, hT⟩
    · rintro q c T hc ⟨hcr, hT⟩ nx
      have p' := p.t T
      refine bs_fI_i p'.1 rfl (bs_iff (nI_ge hc (by omega)) (bs_fA_i p'.1 rfl (bs_sL_i c p'.2.2.1 rfl (by omega) (by decide) ?_)))
      rw [bs_set_set, ← nI_succ]
      exact nx _ ⟨by omega, up_below hT (gat_hi m ga w c hcr).symm⟩
    · rintro q T ⟨-, hT⟩
      exact bs_fI_i (p.t T).1 rfl (bs_ift (nI_le (by omega) (by omega)) (k T hT))
theorem s_S_scatter_13 (p : pS h s w ga gt gr o) (hw : w ≤ 64) (m : Int64) (k : ∀ T, (∀ z, z < w → T z = if lb m z = true then gt (rk m z) else 0) → Φ (.ok none) (bs_set h (s + 2) (bs_la 64 T))) : ∀ (c q : Nat) (T : Nat → Int64), c ≤ w → c < q → (∀ z, z < c → T z = gt z) → (∀ z, c ≤ z → z < w → T z = if lb m z = true then gt (rk m z) else 0) → w_S_scatter_13 Φ q s m (nI (rk m c)) (nI c - 1) (bs_set h (s + 2) (bs_la 64 T)) := by
  intro c
  induction c with
  | zero =>
    intro q T hc hq h1 h2
    obtain ⟨q, rfl⟩ : ∃ q', q = q' + 1 := ⟨q - 1, by omega⟩
    exact bs_ift (by decide) (k T (fun z hz => h2 z (by omega) hz))
  | succ c ih =>
    intro q T hc hq h1 h2
    obtain ⟨q, rfl⟩ : ∃ q', q = q' + 1 := ⟨q - 1, by omega⟩
    have p' := p.t T
    have hr := rk_le m c
    rw [nI_pred]
    have zero : ∀ v : Int64, (v = if lb m c = true then gt (rk m c) else 0) → w_S_scatter_13 Φ q s m (nI (rk m c)) (nI c + (-1)) (bs_set h (s + 2) (bs_la 64 (va_up T c v))) := by
      intro v hv
      rw [← Int32.sub_eq_add_neg]
      refine ih q _ (by omega) (by omega) (fun z hz => ?_) (fun z hz hz2 => ?_)
      · rw [bs_up_ne _ _ (by omega)]; exact h1 z (by omega)
      · by_cases hzc : z = c
        · subst hzc; rw [bs_up_eq]; exact hv
        · rw [bs_up_ne _ _ hzc]; exact h2 z (by omega) hz2
    refine bs_iff (nI_pos (by omega)) (s_B_holds (by omega) (bs_kI_i (bs_ifz (fun hb => ?_) (fun hb => ?_))))
    · refine bs_fA_i p'.1 rfl (bs_sL_i c p'.2.2.1 rfl (by omega) (by decide) ?_)
      rw [bs_set_set, rk_f hb]
      exact zero 0 (by rw [hb, if_neg (fun q => by cases q)])
    · rw [rk_t hb]
      refine bs_iff (nI_nle (by omega) (by omega)) (bs_fA_i p'.1 rfl (bs_fA_i p'.1 rfl ?_))
      rw [sb_m1 (by omega), Nat.add_sub_cancel]
      refine bs_lL_i (rk m c) p'.2.2.1 rfl (by omega) (by decide) (bs_sL_i c p'.2.2.1 rfl (by omega) (by decide) ?_)
      rw [bs_set_set]
      exact zero _ (by rw [hb, if_pos rfl]; exact h1 _ (by omega))
end SS
