/-! make(2) of the reference: split. -/
theorem nI_rem : ∀ i, i < 6 → ∀ v, v < 64 → nI v - nI v / nI (2 ^ i) * nI (2 ^ i) = nI (v % 2 ^ i) := by decide +kernel
def loB (j : Nat) (x : Int64) (p : Nat) : Bool := decide (p &&& 2 ^ j = 0) && lb x p
theorem loB_up {L j B : Nat} (hL : L < 7) (hj : j < L) (hB : (2 * 2 ^ j) * (B + 1) ≤ 2 ^ L) (x : Int64) : ∀ m, m ≤ 2 ^ j → lb_of (loB j x) ((2 * 2 ^ j) * B + 2 ^ j + m) = lb_of (loB j x) ((2 * 2 ^ j) * B + 2 ^ j) := by
  have w64 := pow_le64 L hL
  have e0 : (2 * 2 ^ j) * (B + 1) = (2 * 2 ^ j) * B + 2 * 2 ^ j := by rw [Nat.mul_add, Nat.mul_one]
  intro m
  induction m with
  | zero => intro _; rfl
  | succ m ih =>
    intro hm
    have hn : loB j x ((2 * 2 ^ j) * B + 2 ^ j + m) = false := by
      have : ¬ ((2 * 2 ^ j) * B + 2 ^ j + m) &&& 2 ^ j = 0 := by
        intro z
        have q := (xo_b j (by omega) ((2 * 2 ^ j) * B + 2 ^ j + m) (by omega)).1.mp z
        rw [Nat.add_assoc, Nat.mul_add_mod, Nat.mod_eq_of_lt (by omega)] at q
        omega
      unfold loB
      simp [this]
    show lb_of (loB j x) (((2 * 2 ^ j) * B + 2 ^ j + m) + 1) = _
    rw [lb_of, hn, if_neg (fun q => by cases q), ih (by omega)]
theorem lwN_lo {L j q : Nat} (hL : L < 7) (hj : j < L) (hq : q < 2 ^ L) : lwN (2 ^ j) q &&& 2 ^ j = 0 ∧ lwN (2 ^ j) q < 2 ^ L := by
  have w64 := pow_le64 L hL
  unfold lwN
  by_cases h : q &&& 2 ^ j = 0
  · rw [if_pos h]; exact ⟨h, hq⟩
  · rw [if_neg h]; exact ⟨(xo_b j (by omega) q (by omega)).2.2.mpr h, (xo_i L hL j hj q hq).1⟩
def ltO (L j : Nat) (P : Nat → Nat) (c : Int64) (z : Nat) (Lt : Nat → Int32) : Prop := ∀ q, q < 2 ^ L → lwN (2 ^ j) q < z → Lt q = nI (dvP P c (2 ^ j) q % 2 ^ j)
section WS
variable {Φ : bs_R → bs_H → Prop} {h : bs_H} {Y w n kc L j B : Nat} {th : Int32} {W Lt Co Go : Nat → Int32} {Fi La : Nat → Int64} {P Q : Nat → Nat}
theorem s_R_split (hL : L < 7) (hj : j < L) (k : pq (2 ^ L) P Q) (b : blk (2 ^ L) (2 * 2 ^ j) P) (hB : (2 * 2 ^ j) * (B + 1) ≤ 2 ^ L) (hW : ∀ q, q < 2 ^ L → W q = nI (P q % (2 * 2 ^ j))) (p : qW Y th w n kc h W Lt Co Go Fi La) {S : bs_W3} (hS : S = dwN P Q (2 ^ j) (2 ^ L) (2 ^ L)) {lv : Nat} (hlv : lv < 7) (hF : Fi lv = lb_of (loB j S.2.1) ((2 * 2 ^ j) * B)) (hA : La lv = lb_of (loB j S.2.2) ((2 * 2 ^ j) * B)) (hLt : ltO L j P S.2.2 ((2 * 2 ^ j) * B) Lt)
    (ko : ∀ h' Lt' Co' Go' Fi' La', qW Y th w n kc h' W Lt' Co' Go' Fi' La' → Fi' lv = lb_of (loB j S.2.1) ((2 * 2 ^ j) * (B + 1)) → La' lv = lb_of (loB j S.2.2) ((2 * 2 ^ j) * (B + 1)) → ltO L j P S.2.2 ((2 * 2 ^ j) * (B + 1)) Lt' → (∀ z, z ≠ lv → Fi' z = Fi z ∧ La' z = La z) → offW Y h h' → Φ (.ok none) h') : w_R_split Φ Y (nI ((2 * 2 ^ j) * B)) (nI (2 ^ j)) (nI lv) h := by
  have w64 := pow_le64 L hL
  have j64 := pow_lt64 (show j < 6 by omega)
  have j0 : 0 < 2 ^ j := Nat.two_pow_pos j
  have e0 : (2 * 2 ^ j) * (B + 1) = (2 * 2 ^ j) * B + 2 * 2 ^ j := by rw [Nat.mul_add, Nat.mul_one]
  have p0 : 0 < 2 * 2 ^ j := by omega
  have y := dwN_ways hL hj k
  rw [← hS] at y
  refine ⟨⟨_, p.1⟩, s_R_decide hL hj k b hB hW p (fun h1 Co Go p1 r o1 => bs_kV_i ?_)⟩
  rw [← hS] at r
  show w_R_split_9 Φ 1000 Y (nI ((2 * 2 ^ j) * B)) (nI (2 ^ j)) (nI lv) (nI 0) h1
  refine bs_for (σ := bs_H) (fun v z H => w_R_split_9 Φ v Y (nI ((2 * 2 ^ j) * B)) (nI (2 ^ j)) (nI lv) (nI z) H) (fun z H => offW Y h H ∧ ∃ Lt' Fi' La', qW Y th w n kc H W Lt' Co Go Fi' La' ∧ Fi' lv = lb_of (loB j S.2.1) ((2 * 2 ^ j) * B + z) ∧ La' lv = lb_of (loB j S.2.2) ((2 * 2 ^ j) * B + z) ∧ ltO L j P S.2.2 ((2 * 2 ^ j) * B + z) Lt' ∧ ∀ y, y ≠ lv → Fi' y = Fi y ∧ La' y = La y) (2 ^ j) ?_ ?_ (2 ^ j) 0 h1 1000 (by omega) (by omega) ⟨o1, Lt, Fi, La, p1, hF, hA, hLt, fun _ _ => ⟨rfl, rfl⟩⟩
  · rintro v z H hz ⟨oH, Lt', Fi', La', pH, hF', hA', hLt', hO⟩ nx
    have hxw : (2 * 2 ^ j) * B + z < 2 ^ L := by omega
    have hxB : ((2 * 2 ^ j) * B + z) / (2 * 2 ^ j) = B := by rw [Nat.mul_add_div p0, Nat.div_eq_of_lt (by omega), Nat.add_zero]
    have xb := xo_b j (by omega) ((2 * 2 ^ j) * B + z) (by omega)
    have hz0 : ((2 * 2 ^ j) * B + z) &&& 2 ^ j = 0 := by
      rw [xb.1, Nat.mul_add_mod, Nat.mod_eq_of_lt (by omega)]; exact hz
    obtain ⟨u1, u2, u3, u4⟩ := xo_i L hL j hj _ hxw
    have hup : ((2 * 2 ^ j) * B + z) ^^^ 2 ^ j = (2 * 2 ^ j) * B + z + 2 ^ j := by rw [xb.2.1, if_pos (xb.1.mp hz0)]
    have hnb : ¬ (((2 * 2 ^ j) * B + z) ^^^ 2 ^ j) &&& 2 ^ j = 0 := fun q => (xb.2.2.mp q) hz0
    obtain ⟨r1, r2⟩ := r _ hxw hxB
    obtain ⟨y1, y2, y3, y4⟩ := y _ hxw
    rw [y1, if_pos rfl] at r1
    have ix : nI ((2 * 2 ^ j) * B) + nI z = nI ((2 * 2 ^ j) * B + z) := nI_add _ _
    -- the last part
    have t119 : ∀ (m : Nat) (K : bs_H) (Fi2 La2 : Nat → Int64), m < 2 * 2 ^ j → (2 * 2 ^ j) * B + m = selN S.2.2 (2 ^ j) ((2 * 2 ^ j) * B + z) → qW Y th w n kc K W Lt' Co Go Fi2 La2 → Fi2 lv = lb_of (loB j S.2.1) ((2 * 2 ^ j) * B + z + 1) → La2 lv = lb_of (loB j S.2.2) ((2 * 2 ^ j) * B + z + 1) → (∀ y, y ≠ lv → Fi2 y = Fi y ∧ La2 y = La y) → offW Y h K → w_R_split_119 Φ (w_R_split_9 Φ v) Y (nI ((2 * 2 ^ j) * B)) (nI (2 ^ j)) (nI lv) (nI z) (nI m) K := by
      intro m K Fi2 La2 hm hsel pK f2 l2 o2 oK
      have hmw : (2 * 2 ^ j) * B + m < 2 ^ L := by omega
      have ac := acr_x hL hj hB hm
      have haw : (2 * 2 ^ j) * B + acr j m < 2 ^ L := by omega
      have hne : ¬ nI (2 ^ j) = 0 := nI_ne0 j0 (by omega)
      have q1 : P ((2 * 2 ^ j) * B + m) % (2 * 2 ^ j) < 64 := by have := Nat.mod_lt (P ((2 * 2 ^ j) * B + m)) p0; have := Nat.mod_le (P ((2 * 2 ^ j) * B + m)) (2 * 2 ^ j); have := (k _ hmw).1; omega
      have q2 : P ((2 * 2 ^ j) * B + acr j m) % (2 * 2 ^ j) < 64 := by have := Nat.mod_le (P ((2 * 2 ^ j) * B + acr j m)) (2 * 2 ^ j); have := (k _ haw).1; omega
      have mm : ∀ s, s % (2 * 2 ^ j) % 2 ^ j = s % 2 ^ j := fun s => Nat.mod_mod_of_dvd s (Nat.dvd_mul_left _ _)
      have sel2 : selN S.2.2 (2 ^ j) (((2 * 2 ^ j) * B + z) ^^^ 2 ^ j) = (2 * 2 ^ j) * B + acr j m := by
        rw [ac.1, hsel]
        unfold selN
        rw [if_pos hz0, if_neg hnb, u2]
        by_cases hc : lb S.2.2 ((2 * 2 ^ j) * B + z) = true
        · rw [if_pos hc, if_pos hc, u2]
        · rw [if_neg hc, if_neg hc]
      refine bs_fA_i pK.1 rfl (bs_fA_i pK.1 rfl (bs_lI_i ((2 * 2 ^ j) * B + m) pK.2.1 (nI_add _ _) (by omega) (by decide) ⟨hne, ?_⟩))
      rw [hW _ hmw, nI_rem j (by omega) _ q1, mm]
      refine bs_sI_i ((2 * 2 ^ j) * B + z) pK.2.2.1 ix (by omega) (by decide) ?_
      have p2 := pK.l (va_up Lt' ((2 * 2 ^ j) * B + z) (nI (P ((2 * 2 ^ j) * B + m) % 2 ^ j)))
      refine bs_fA_i p2.1 rfl (bs_fA_i p2.1 rfl ⟨⟨_, p2.1⟩, s_R_across (by omega) hm (bs_kI_i (bs_lI_i ((2 * 2 ^ j) * B + acr j m) p2.2.1 (nI_add _ _) (by omega) (by decide) ⟨hne, ?_⟩))⟩)
      rw [hW _ haw, nI_rem j (by omega) _ q2, mm]
      refine bs_sI_i ((2 * 2 ^ j) * B + z + 2 ^ j) p2.2.2.1 (by rw [nI_add, nI_add]; congr 1; omega) (by omega) (by decide) ?_
      have p3 := p2.l (va_up (va_up Lt' ((2 * 2 ^ j) * B + z) (nI (P ((2 * 2 ^ j) * B + m) % 2 ^ j))) ((2 * 2 ^ j) * B + z + 2 ^ j) (nI (P ((2 * 2 ^ j) * B + acr j m) % 2 ^ j)))
      rw [← nI_succ]
      refine nx _ ⟨(oK.set (by omega)).set (by omega), _, _, _, p3, f2, l2, fun q hq hql => ?_, o2⟩
      have hql : lwN (2 ^ j) q < (2 * 2 ^ j) * B + z + 1 := hql
      by_cases e1 : q = (2 * 2 ^ j) * B + z + 2 ^ j
      · rw [e1, bs_up_eq, ← hup]
        unfold dvP
        rw [if_neg hnb, sel2, (xo_d j (by omega) _ (by have := (k _ haw).1; omega)).2.2.2.1]
      · rw [bs_up_ne _ _ e1]
        by_cases e2 : q = (2 * 2 ^ j) * B + z
        · rw [e2, bs_up_eq]
          unfold dvP
          rw [if_pos hz0, ← hsel, (xo_d j (by omega) _ (by have := (k _ hmw).1; omega)).2.2.1]
        · rw [bs_up_ne _ _ e2]
          refine hLt' q hq ?_
          have : lwN (2 ^ j) q ≠ (2 * 2 ^ j) * B + z := by
            unfold lwN
            by_cases e3 : q &&& 2 ^ j = 0
            · rw [if_pos e3]; exact e2
            · rw [if_neg e3]
              intro q3
              apply e1
              rw [← hup, ← q3, (xo_i L hL j hj q hq).2.1]
          omega
    have t96 : ∀ (x : Int64) (K : bs_H) (Fi2 : Nat → Int64), x = lb_of (loB j S.2.2) ((2 * 2 ^ j) * B + z + 1) → qW Y th w n kc K W Lt' Co Go Fi2 La' → Fi2 lv = lb_of (loB j S.2.1) ((2 * 2 ^ j) * B + z + 1) → (∀ y, y ≠ lv → Fi2 y = Fi y) → offW Y h K → w_R_split_96 Φ (w_R_split_9 Φ v) Y (nI ((2 * 2 ^ j) * B)) (nI (2 ^ j)) (nI lv) (nI z) (Y + 17) (nI lv) x K := by
      intro x K Fi2 hx pK f2 o2 oK
      refine bs_sL_i lv pK.2.2.2.2.2.2 rfl hlv (by decide) ?_
      have p2 := pK.s (va_up La' lv x)
      have o3 : ∀ y, y ≠ lv → Fi2 y = Fi y ∧ va_up La' lv x y = La y := fun y hy => ⟨o2 y hy, by rw [bs_up_ne _ _ hy]; exact (hO y hy).2⟩
      refine bs_fA_i p2.1 rfl (bs_lI_i ((2 * 2 ^ j) * B + z) p2.2.2.2.1 ix (by omega) (by decide) ?_)
      rw [r1]
      cases hc : lb S.2.2 ((2 * 2 ^ j) * B + z) with
      | true =>
        rw [if_pos rfl]
        refine bs_iff (by decide) ?_
        rw [nI_add]
        refine t119 (z + 2 ^ j) _ _ _ (by omega) ?_ p2 f2 (by rw [bs_up_eq]; exact hx) o3 (oK.set (by omega))
        unfold selN
        rw [if_pos hz0, if_pos hc, hup]; omega
      | false =>
        rw [if_neg (fun q => by cases q)]
        refine bs_ift rfl (t119 z _ _ _ (by omega) ?_ p2 f2 (by rw [bs_up_eq]; exact hx) o3 (oK.set (by omega)))
        unfold selN
        rw [if_pos hz0, if_neg (by rw [hc]; exact (fun q => by cases q))]
    have t55 : ∀ x : Int64, x = lb_of (loB j S.2.1) ((2 * 2 ^ j) * B + z + 1) → w_R_split_55 Φ (w_R_split_9 Φ v) Y (nI ((2 * 2 ^ j) * B)) (nI (2 ^ j)) (nI lv) (nI z) (Y + 16) (nI lv) x H := by
      intro x hx
      refine bs_sL_i lv pH.2.2.2.2.2.1 rfl hlv (by decide) ?_
      have p2 := pH.f (va_up Fi' lv x)
      have f2 : va_up Fi' lv x lv = lb_of (loB j S.2.1) ((2 * 2 ^ j) * B + z + 1) := by rw [bs_up_eq]; exact hx
      have o2 : ∀ y, y ≠ lv → va_up Fi' lv x y = Fi y := fun y hy => by rw [bs_up_ne _ _ hy]; exact (hO y hy).1
      refine bs_fA_i p2.1 rfl (bs_fA_i p2.1 rfl (bs_lI_i ((2 * 2 ^ j) * B + z) p2.2.2.2.1 ix (by omega) (by decide) ?_))
      rw [r1]
      cases hc : lb S.2.2 ((2 * 2 ^ j) * B + z) with
      | true =>
        rw [if_pos rfl]
        refine bs_ift rfl (bs_fA_i p2.1 rfl (bs_lL_i lv p2.2.2.2.2.2.2 rfl hlv (by decide) ?_))
        refine t96 _ _ _ ?_ p2 f2 o2 (oH.set (by omega))
        rw [lb_of, if_pos (by unfold loB; simp [hz0, hc]), hA', ix]
      | false =>
        rw [if_neg (fun q => by cases q)]
        refine bs_iff (by decide) (bs_fA_i p2.1 rfl (bs_lL_i lv p2.2.2.2.2.2.2 rfl hlv (by decide) ?_))
        refine t96 _ _ _ ?_ p2 f2 o2 (oH.set (by omega))
        rw [lb_of, if_neg (by unfold loB; simp [hc]), hA']
    refine bs_iff (nI_ge hz (by omega)) (bs_fA_i pH.1 rfl (bs_fA_i pH.1 rfl (bs_lI_i ((2 * 2 ^ j) * B + z) pH.2.2.2.2.1 ix (by omega) (by decide) (bs_ife r2 (fun hg => ?_) (fun hg => ?_)))))
    · refine bs_fA_i pH.1 rfl (bs_lL_i lv pH.2.2.2.2.2.1 rfl hlv (by decide) (t55 _ ?_))
      rw [lb_of, if_pos (by unfold loB; simp [hz0, hg]), hF', ix]
    · refine bs_fA_i pH.1 rfl (bs_lL_i lv pH.2.2.2.2.2.1 rfl hlv (by decide) (t55 _ ?_))
      rw [lb_of, if_neg (by unfold loB; simp [hg]), hF']
  · rintro v H ⟨oH, Lt', Fi', La', pH, hF', hA', hLt', hO⟩
    have e2 : (2 * 2 ^ j) * (B + 1) = (2 * 2 ^ j) * B + 2 ^ j + 2 ^ j := by omega
    refine bs_ift (nI_le (by omega) (by omega)) (ko H _ _ _ _ _ pH ?_ ?_ (fun q hq hql => hLt' q hq ?_) hO oH)
    · rw [e2, loB_up hL hj hB _ (2 ^ j) (Nat.le_refl _)]; exact hF'
    · rw [e2, loB_up hL hj hB _ (2 ^ j) (Nat.le_refl _)]; exact hA'
    · have l := lwN_lo hL hj hq
      have m := (xo_b j (by omega) (lwN (2 ^ j) q) (by omega)).1.mp l.1
      rcases Nat.lt_or_ge (lwN (2 ^ j) q) ((2 * 2 ^ j) * B) with g | g
      · omega
      · have d : lwN (2 ^ j) q = (2 * 2 ^ j) * B + (lwN (2 ^ j) q - (2 * 2 ^ j) * B) := by omega
        rw [d, Nat.mul_add_mod, Nat.mod_eq_of_lt (by omega)] at m
        omega
end WS
