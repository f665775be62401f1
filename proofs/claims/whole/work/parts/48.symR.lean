/-! The reference's symbols: a step, all steps. -/
def qS (Y : Nat) (th : Int32) (w n kc : Nat) (h : bs_H) (ga gt gr : Nat → Int64) (go : Nat → Bool) (gl : Nat → Int64) : Prop := rO Y th w n kc h ∧ h.1 (Y + 7) = some (bs_la 64 ga) ∧ h.1 (Y + 8) = some (bs_la 64 gt) ∧ h.1 (Y + 9) = some (bs_la 64 gr) ∧ h.1 (Y + 10) = some (bs_za 64 (fun k => bz (go k))) ∧ h.1 (Y + 11) = some (bs_la 64 gl)
section SQ
variable {Φ : bs_R → bs_H → Prop} {h : bs_H} {Y w n kc : Nat} {th : Int32} {ga gt gr gl : Nat → Int64} {go : Nat → Bool}
theorem qS.a (p : qS Y th w n kc h ga gt gr go gl) (g : Nat → Int64) : qS Y th w n kc (bs_set h (Y + 7) (bs_la 64 g)) g gt gr go gl := ⟨by unfold rO; rw [bs_set_ne (by omega)]; exact p.1, bs_set_eq, by rw [bs_set_ne (by omega)]; exact p.2.2.1, by rw [bs_set_ne (by omega)]; exact p.2.2.2.1, by rw [bs_set_ne (by omega)]; exact p.2.2.2.2.1, by rw [bs_set_ne (by omega)]; exact p.2.2.2.2.2⟩
theorem qS.t (p : qS Y th w n kc h ga gt gr go gl) (g : Nat → Int64) : qS Y th w n kc (bs_set h (Y + 8) (bs_la 64 g)) ga g gr go gl := ⟨by unfold rO; rw [bs_set_ne (by omega)]; exact p.1, by rw [bs_set_ne (by omega)]; exact p.2.1, bs_set_eq, by rw [bs_set_ne (by omega)]; exact p.2.2.2.1, by rw [bs_set_ne (by omega)]; exact p.2.2.2.2.1, by rw [bs_set_ne (by omega)]; exact p.2.2.2.2.2⟩
theorem qS.r (p : qS Y th w n kc h ga gt gr go gl) (g : Nat → Int64) : qS Y th w n kc (bs_set h (Y + 9) (bs_la 64 g)) ga gt g go gl := ⟨by unfold rO; rw [bs_set_ne (by omega)]; exact p.1, by rw [bs_set_ne (by omega)]; exact p.2.1, by rw [bs_set_ne (by omega)]; exact p.2.2.1, bs_set_eq, by rw [bs_set_ne (by omega)]; exact p.2.2.2.2.1, by rw [bs_set_ne (by omega)]; exact p.2.2.2.2.2⟩
theorem qS.l (p : qS Y th w n kc h ga gt gr go gl) (g : Nat → Int64) : qS Y th w n kc (bs_set h (Y + 11) (bs_la 64 g)) ga gt gr go g := ⟨by unfold rO; rw [bs_set_ne (by omega)]; exact p.1, by rw [bs_set_ne (by omega)]; exact p.2.1, by rw [bs_set_ne (by omega)]; exact p.2.2.1, by rw [bs_set_ne (by omega)]; exact p.2.2.2.1, by rw [bs_set_ne (by omega)]; exact p.2.2.2.2.1, bs_set_eq⟩
theorem bz_up (go : Nat → Bool) (c : Nat) (b : Bool) : va_up (fun k => bz (go k)) c (bz b) = fun k => bz (va_up go c b k) := by
  funext k
  by_cases hk : k = c
  · subst hk; rw [bs_up_eq, bs_up_eq]
  · rw [bs_up_ne _ _ hk, bs_up_ne _ _ hk]
theorem qS.o (p : qS Y th w n kc h ga gt gr go gl) (g : Nat → Bool) : qS Y th w n kc (bs_set h (Y + 10) (bs_za 64 (fun k => bz (g k)))) ga gt gr g gl := ⟨by unfold rO; rw [bs_set_ne (by omega)]; exact p.1, by rw [bs_set_ne (by omega)]; exact p.2.1, by rw [bs_set_ne (by omega)]; exact p.2.2.1, by rw [bs_set_ne (by omega)]; exact p.2.2.2.1, bs_set_eq, by rw [bs_set_ne (by omega)]; exact p.2.2.2.2.2⟩
theorem s_R_moveBits (p : qS Y th w n kc h ga gt gr go gl) (hw : w ≤ 64) (d : Int32) (hd : -(w : Int) < d.toInt ∧ d.toInt < w) (b : Bool) (hb : b = true → 0 ≤ d.toInt) (k : ∀ T, (∀ z, z < w → T z = if b = true then roT w d.toNatClampNeg ga z else shT w d.toInt ga z) → Φ (.ok none) (bs_set h (Y + 8) (bs_la 64 T))) : w_R_moveBits Φ Y d (bz b) h := by
  rw [← bs_set_get p.2.2.1]
  refine bs_for (σ := Nat → Int64) (fun q c T => w_R_moveBits_2 Φ q Y d (bz b) (nI c) (bs_set h (Y + 8) (bs_la 64 T))) (fun c T => ∀ z, z < c → T z = if b = true then roT w d.toNatClampNeg ga z else shT w d.toInt ga z) w ?_ ?_ w 0 gt 1000 (by omega) (by omega) (fun z hz => by omega)
  · intro q c T hc hT nx
    have p' := p.t T
    have stp : ∀ v, (v = if b = true then roT w d.toNatClampNeg ga c else shT w d.toInt ga c) → w_R_moveBits_80 Φ (w_R_moveBits_2 Φ q) Y d (bz b) (nI c) (Y + 8) (nI c) v (bs_set h (Y + 8) (bs_la 64 T)) := by
      intro v hv
      refine bs_sL_i c p'.2.2.1 rfl (by omega) (by decide) ?_
      rw [bs_set_set, ← nI_succ]
      exact nx _ (up_below hT hv)
    have ec : (nI c).toInt = (c : Int) := nI_toInt (by omega)
    have e : (nI c - d).toInt = (c : Int) - d.toInt := by rw [i32_sub (by omega), ec]
    have ew : (nI w).toInt = (w : Int) := nI_toInt (by omega)
    have z0 : (0 : Int32).toInt = 0 := rfl
    have non : ∀ x : Int32, (x.toInt < 0 ∨ (w : Int) ≤ x.toInt) → ((0 : Int64) = if b = true then roT w d.toNatClampNeg ga c else shT w d.toInt ga c) → w_R_moveBits_36 Φ (w_R_moveBits_2 Φ q) Y d (bz b) (nI c) x (bs_set h (Y + 8) (bs_la 64 T)) := by
      intro x hx hv
      have fin : w_R_moveBits_56 Φ (w_R_moveBits_2 Φ q) Y d (bz b) (nI c) x (bs_set h (Y + 8) (bs_la 64 T)) := bs_fA_i p'.1 rfl (bs_ift rfl (stp 0 hv))
      refine bs_ifc (fun _ => fin) (fun h1 => bs_fI_i p'.1 rfl (bs_ift ?_ fin))
      rw [Int32.lt_iff_toInt_lt] at h1
      rw [Int32.le_iff_toInt_le, ew]
      omega
    have yes : ∀ j : Nat, j < w → (ga j = if b = true then roT w d.toNatClampNeg ga c else shT w d.toInt ga c) → w_R_moveBits_36 Φ (w_R_moveBits_2 Φ q) Y d (bz b) (nI c) (nI j) (bs_set h (Y + 8) (bs_la 64 T)) := by
      intro j hj hv
      exact bs_iff (nI_pos (by omega)) (bs_fI_i p'.1 rfl (bs_iff (nI_ge hj (by omega)) (bs_fA_i p'.1 rfl (bs_iff (by decide) (bs_fA_i p'.1 rfl (bs_lL_i j p'.2.1 rfl (by omega) (by decide) (stp _ hv)))))))
    refine bs_fI_i p'.1 rfl (bs_iff (nI_ge hc (by omega)) (bs_ifz (fun hbf => ?_) (fun hbt => bs_ifc (fun h1 => ?_) (fun h1 => bs_fI_i p'.1 rfl ?_))))
    · show w_R_moveBits_36 Φ (w_R_moveBits_2 Φ q) Y d (bz b) (nI c) (nI c - d) (bs_set h (Y + 8) (bs_la 64 T))
      have hv : (if b = true then roT w d.toNatClampNeg ga c else shT w d.toInt ga c) = shT w d.toInt ga c := by rw [hbf]; rfl
      by_cases hin : 0 ≤ (c : Int) - d.toInt ∧ (c : Int) - d.toInt < w
      · obtain ⟨j, hj, hx⟩ := nI_between (x := nI c - d) (m := w) (by omega)
        rw [hx, nI_toInt (by omega)] at e
        rw [hx]
        refine yes j hj ?_
        rw [hv]; unfold shT; rw [if_pos hin, ← e]; rfl
      · refine non _ (by omega) ?_
        rw [hv]; unfold shT; rw [if_neg hin]
    · show w_R_moveBits_36 Φ (w_R_moveBits_2 Φ q) Y d (bz b) (nI c) (nI c - d) (bs_set h (Y + 8) (bs_la 64 T))
      rw [Int32.le_iff_toInt_le] at h1
      obtain ⟨j, hj, rfl⟩ := nI_between (x := d) (m := w) ⟨hb hbt, hd.2⟩
      rw [nI_toInt (by omega)] at e
      rw [pk_sub (by omega)]
      refine yes _ (by omega) ?_
      rw [hbt, if_pos rfl, nI_clamp (by omega)]; unfold roT; rw [if_pos (by omega)]
    · rw [Int32.le_iff_toInt_le] at h1
      obtain ⟨j, hj, rfl⟩ := nI_between (x := d) (m := w) ⟨hb hbt, hd.2⟩
      rw [nI_toInt (by omega)] at e
      rw [sub_addw (by omega)]
      refine yes _ (by omega) ?_
      rw [hbt, if_pos rfl, nI_clamp (by omega)]; unfold roT; rw [if_neg (by omega)]
  · intro q T hT
    exact bs_fI_i (p.t T).1 rfl (bs_ift (nI_le (by omega) (by omega)) (k T hT))
theorem s_R_swapBits (p : qS Y th w n kc h ga gt gr go gl) (hw : w ≤ 64) {d : Nat} {m : Int64} (ok : swOk w d m) (k : ∀ T, (∀ z, z < w → T z = swC w d m ga (w - d) z) → Φ (.ok none) (bs_set h (Y + 7) (bs_la 64 T))) : w_R_swapBits Φ Y (nI d) m h := by
  rw [← bs_set_get p.2.1]
  have hd := ok.2.1
  refine bs_for (σ := Nat → Int64) (fun q c T => w_R_swapBits_3 Φ q Y (nI d) m (nI c) (bs_set h (Y + 7) (bs_la 64 T))) (fun c T => ∀ z, z < w → T z = swC w d m ga c z) (w - d) ?_ ?_ (w - d) 0 ga 1000 (by omega) (by omega) (fun z hz => (swC_0 w d m ga z).symm)
  · intro q c T hc hT nx
    have p' := p.a T
    refine bs_fI_i p'.1 rfl ?_
    rw [nI_add]
    refine bs_iff (nI_ge (a := c + d) (b := w) (by omega) (by omega)) ⟨⟨_, p'.1⟩, s_R_isIn (by omega) (bs_kI_i (bs_ifz (fun hb => ?_) (fun hb => ?_)))⟩
    · show w_R_swapBits_3 Φ q Y (nI d) m (nI c + 1) _
      rw [← nI_succ]
      exact nx _ (fun z hz => by rw [swC_f hb]; exact hT z hz)
    · refine bs_fA_i p'.1 rfl (bs_lL_i c p'.2.1 rfl (by omega) (by decide) (bs_fA_i p'.1 rfl (bs_fA_i p'.1 rfl (bs_lL_i (c + d) p'.2.1 rfl (by omega) (by decide) (bs_sL_i c p'.2.1 rfl (by omega) (by decide) ?_)))))
      rw [bs_set_set]
      refine bs_fA_i (p.a _).1 rfl (bs_sL_i (c + d) (p.a _).2.1 rfl (by omega) (by decide) ?_)
      show w_R_swapBits_3 Φ q Y (nI d) m (nI c + 1) _
      rw [bs_set_set, ← nI_succ]
      exact nx _ (swC_step ok hb (by omega) hT)
  · intro q T hT
    refine bs_fI_i (p.a T).1 rfl ?_
    rw [nI_add]
    exact bs_ift (nI_le (a := w) (b := w - d + d) (by omega) (by omega)) (k T hT)
theorem s_R_gatherBits (p : qS Y th w n kc h ga gt gr go gl) (hw : w ≤ 64) (m : Int64) (k : ∀ T, (∀ z, z < w → T z = gat m ga w z) → Φ (.ok none) (bs_set h (Y + 8) (bs_la 64 T))) : w_R_gatherBits Φ Y m h := by
  rw [← bs_set_get p.2.2.1]
  show w_R_gatherBits_5 Φ 1000 Y m (nI (rk m 0)) (nI 0) _
  refine bs_for (σ := Nat → Int64) (fun q c T => w_R_gatherBits_5 Φ q Y m (nI (rk m c)) (nI c) (bs_set h (Y + 8) (bs_la 64 T))) (fun c T => ∀ z, z < rk m c → T z = gat m ga c z) w ?_ ?_ w 0 gt 1000 (by omega) (by omega) (fun z hz => absurd hz (Nat.not_lt_zero z))
  · intro q c T hc hT nx
    have p' := p.t T
    have hr := rk_le m c
    refine bs_fI_i p'.1 rfl (bs_iff (nI_ge hc (by omega)) ⟨⟨_, p'.1⟩, s_R_isIn (by omega) (bs_kI_i (bs_ifz (fun hb => ?_) (fun hb => bs_fA_i p'.1 rfl (bs_fA_i p'.1 rfl (bs_lL_i c p'.2.1 rfl (by omega) (by decide) (bs_sL_i (rk m c) p'.2.2.1 rfl (by omega) (by decide) ?_))))))⟩)
    · show w_R_gatherBits_5 Φ q Y m (nI (rk m c)) (nI c + 1) _
      rw [← nI_succ, ← rk_f hb]
      refine nx _ (fun z hz => ?_)
      rw [rk_f hb] at hz
      unfold gat
      rw [if_neg (by rw [hb]; exact (fun q => by cases q.1))]
      exact hT z hz
    · show w_R_gatherBits_5 Φ q Y m (nI (rk m c) + 1) (nI c + 1) _
      rw [bs_set_set, ← nI_succ, ← nI_succ, ← rk_t hb]
      refine nx _ (fun z hz => ?_)
      rw [rk_t hb] at hz
      unfold gat
      by_cases hzc : z = rk m c
      · subst hzc; rw [bs_up_eq, if_pos ⟨hb, rfl⟩]
      · rw [bs_up_ne _ _ hzc, if_neg (fun q => hzc q.2)]; exact hT z (by omega)
  · intro q T hT
    have hr := rk_le m w
    refine bs_fI_i (p.t T).1 rfl (bs_ift (nI_le (by omega) (by omega)) ?_)
    refine bs_for (σ := Nat → Int64) (fun q c T => w_R_gatherBits_49 Φ q Y (nI c) (bs_set h (Y + 8) (bs_la 64 T))) (fun c T => rk m w ≤ c ∧ ∀ z, z < c → T z = gat m ga w z) w ?_ ?_ (w - rk m w) (rk m w) T 1000 (by omega) (by omega) ⟨Nat.le_refl _, hT⟩
    · rintro q c T hc ⟨hcr, hT⟩ nx
      have p' := p.t T
      refine bs_fI_i p'.1 rfl (bs_iff (nI_ge hc (by omega)) (bs_fA_i p'.1 rfl (bs_sL_i c p'.2.2.1 rfl (by omega) (by decide) ?_)))
      rw [bs_set_set, ← nI_succ]
      exact nx _ ⟨by omega, up_below hT (gat_hi m ga w c hcr).symm⟩
    · rintro q T ⟨-, hT⟩
      exact bs_fI_i (p.t T).1 rfl (bs_ift (nI_le (by omega) (by omega)) (k T hT))
theorem s_R_scatterBits (p : qS Y th w n kc h ga gt gr go gl) (hw : w ≤ 64) (m : Int64) (k : ∀ T L, (∀ z, z < w → T z = if lb m z = true then gt (rk m z) else 0) → Φ (.ok none) (bs_set (bs_set h (Y + 11) (bs_la 64 L)) (Y + 8) (bs_la 64 T))) : w_R_scatterBits Φ Y m h := by
  rw [← bs_set_get p.2.2.2.2.2]
  refine bs_for (σ := Nat → Int64) (fun q c L => w_R_scatterBits_2 Φ q Y m (nI c) (bs_set h (Y + 11) (bs_la 64 L))) (fun c L => ∀ z, z < c → L z = gt z) w ?_ ?_ w 0 gl 1000 (by omega) (by omega) (fun z hz => by omega)
  · intro q c L hc hL nx
    have p' := p.l L
    refine bs_fI_i p'.1 rfl (bs_iff (nI_ge hc (by omega)) (bs_fA_i p'.1 rfl (bs_fA_i p'.1 rfl (bs_lL_i c p'.2.2.1 rfl (by omega) (by decide) (bs_sL_i c p'.2.2.2.2.2 rfl (by omega) (by decide) ?_)))))
    rw [bs_set_set, ← nI_succ]
    exact nx _ (up_below hL rfl)
  · intro q L hL
    have p1 := p.l L
    refine bs_fI_i p1.1 rfl (bs_ift (nI_le (by omega) (by omega)) ?_)
    rw [← bs_set_get p1.2.2.1]
    show w_R_scatterBits_33 Φ 1000 Y m (nI (rk m 0)) (nI 0) _
    refine bs_for (σ := Nat → Int64) (fun q c T => w_R_scatterBits_33 Φ q Y m (nI (rk m c)) (nI c) (bs_set (bs_set h (Y + 11) (bs_la 64 L)) (Y + 8) (bs_la 64 T))) (fun c T => ∀ z, z < c → T z = if lb m z = true then gt (rk m z) else 0) w ?_ ?_ w 0 gt 1000 (by omega) (by omega) (fun z hz => by omega)
    · intro q c T hc hT nx
      have p' := p1.t T
      have hr := rk_le m c
      have stp : ∀ v, (v = if lb m c = true then gt (rk m c) else 0) → w_R_scatterBits_68 Φ (w_R_scatterBits_33 Φ q) Y m (nI (rk m c)) (nI c) (Y + 8) (nI c) v (bs_set (bs_set h (Y + 11) (bs_la 64 L)) (Y + 8) (bs_la 64 T)) := by
        intro v hv
        refine bs_sL_i c p'.2.2.1 rfl (by omega) (by decide) ?_
        rw [bs_set_set]
        have p2 := p1.t (va_up T c v)
        refine ⟨⟨_, p2.1⟩, s_R_isIn (by omega) (bs_kI_i (bs_ifz (fun hb => ?_) (fun hb => ?_)))⟩
        · show w_R_scatterBits_33 Φ q Y m (nI (rk m c) + 0) (nI c + 1) _
          rw [Int32.add_zero, ← nI_succ, ← rk_f hb]
          exact nx _ (up_below hT hv)
        · show w_R_scatterBits_33 Φ q Y m (nI (rk m c) + 1) (nI c + 1) _
          rw [← nI_succ, ← nI_succ, ← rk_t hb]
          exact nx _ (up_below hT hv)
      refine bs_fI_i p'.1 rfl (bs_iff (nI_ge hc (by omega)) (bs_fA_i p'.1 rfl ⟨⟨_, p'.1⟩, s_R_isIn (by omega) (bs_kI_i (bs_ifz (fun hb => ?_) (fun hb => bs_fA_i p'.1 rfl (bs_lL_i (rk m c) p'.2.2.2.2.2 rfl (by omega) (by decide) ?_))))⟩))
      · exact stp 0 (by rw [hb, if_neg (fun q => by cases q)])
      · exact stp _ (by rw [hb, if_pos rfl]; exact hL _ (by omega))
    · intro q T hT
      exact bs_fI_i (p1.t T).1 rfl (bs_ift (nI_le (by omega) (by omega)) (k T L hT))
end SQ
