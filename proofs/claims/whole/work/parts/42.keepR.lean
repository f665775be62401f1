/-! keep, join, invert of the reference; ticks on both sides. -/
theorem nI_64 (a b : Nat) : (64 : Int32) * nI a + nI b = nI (64 * a + b) := by
  rw [show (64 : Int32) = nI 64 from rfl, pk_mul, nI_add]
def tkOf (o : Int32) : Int32 := if o = 5 then 6 else if o ≤ 6 then 1 else 3
def tkSum (st : bs_St) : Nat → Int32
  | 0 => 0
  | i + 1 => tkSum st i + tkOf (st i).1
section SKR
variable {Φ : bs_R → bs_H → Prop} {h : bs_H} {X Y w kc n : Nat} {th : Int32} {f : Nat → Nat} {ks : bs_Ks} {st : bs_St}
theorem s_R_keep (i : IR Y th w f kc ks n st h) (ke : kc = 8 → ∀ h', IR Y 1 w f kc ks n st h' → offR Y h h' → Φ (.ok (some (.int 0))) h') (ko : kc < 8 → ∀ h', IR Y 0 w f (kc + 1) (va_up ks kc (w, f)) n st h' → offR Y h h' → Φ (.ok (some (.int (nI kc)))) h') : w_R_keep Φ Y h := by
  have hk := i.1.2.2.2.1
  refine bs_fI_i i.2.1 rfl (bs_ife (nI_eq (a := kc) (b := 8) (by omega) (by decide)) (fun hc => ?_) (fun hc => ?_))
  · exact s_R_th i 1 fun i' o' => bs_fI_i i'.2.1 rfl (bs_iff (by decide) (ke hc _ i' o'))
  · refine s_R_th i 0 fun i' o' => bs_fI_i i'.2.1 rfl (bs_ift rfl ?_)
    have hw := i.1.2.1
    generalize bs_set h Y (bs_obj 7 (rF Y 0 w n kc)) = h1 at i' o' ⊢
    obtain ⟨i0, i1, ⟨g, p, q⟩, i3, ⟨kw, km, p1, p2, hkk⟩, i5, i6, i7, i8⟩ := i'
    refine bs_fA_i i1 rfl (bs_fI_i i1 rfl (bs_fI_i i1 rfl (bs_sI_i kc p1 rfl (by omega) (by decide) ?_)))
    have e : bs_set (bs_set h1 (Y + 5) (bs_ia 8 (va_up kw kc (nI w)))) (Y + 6) (bs_ia 512 km) = bs_set h1 (Y + 5) (bs_ia 8 (va_up kw kc (nI w))) := bs_set_get (by rw [bs_set_ne (by omega)]; exact p2)
    show w_R_keep_42 Φ 1000 Y (nI 0) (bs_set h1 (Y + 5) (bs_ia 8 (va_up kw kc (nI w))))
    rw [← e]
    refine bs_for (σ := Nat → Int32) (fun m c G => w_R_keep_42 Φ m Y (nI c) (bs_set (bs_set h1 (Y + 5) (bs_ia 8 (va_up kw kc (nI w)))) (Y + 6) (bs_ia 512 G))) (fun c G => (∀ z, z < c → G (64 * kc + z) = g z) ∧ ∀ z, z < 64 * kc → G z = km z) 64 ?_ ?_ 64 0 km 1000 (by omega) (by omega) ⟨fun z hz => by omega, fun z _ => rfl⟩
    · intro m c G hc hG nx
      have i1' : (bs_set (bs_set h1 (Y + 5) (bs_ia 8 (va_up kw kc (nI w)))) (Y + 6) (bs_ia 512 G)).1 Y = some (bs_obj 7 (rF Y 0 w n kc)) := by rw [bs_set_ne (by omega), bs_set_ne (by omega)]; exact i1
      have p' : (bs_set (bs_set h1 (Y + 5) (bs_ia 8 (va_up kw kc (nI w)))) (Y + 6) (bs_ia 512 G)).1 (Y + 1) = some (bs_ia 64 g) := by rw [bs_set_ne (by omega), bs_set_ne (by omega)]; exact p
      refine bs_iff (nI_ge (b := 64) hc (by omega)) (bs_fA_i i1' rfl (bs_fI_i i1' rfl (bs_fA_i i1' rfl (bs_lI_i c p' rfl (by omega) (by decide) (bs_sI_i (64 * kc + c) bs_set_eq (nI_64 kc c) (by omega) (by decide) ?_)))))
      rw [bs_set_set, ← nI_succ]
      refine nx _ ⟨fun z hz => ?_, fun z hz => ?_⟩
      · by_cases hzc : z = c
        · subst hzc; rw [bs_up_eq]
        · rw [bs_up_ne _ _ (by omega)]; exact hG.1 z (by omega)
      · rw [bs_up_ne _ _ (by omega)]; exact hG.2 z hz
    · intro m G hG
      have i1' : (bs_set (bs_set h1 (Y + 5) (bs_ia 8 (va_up kw kc (nI w)))) (Y + 6) (bs_ia 512 G)).1 Y = some (bs_obj 7 (rF Y 0 w n kc)) := by rw [bs_set_ne (by omega), bs_set_ne (by omega)]; exact i1
      refine bs_ift (nI_le (a := 64) (b := 64) (by omega) (by omega)) (bs_fI_i i1' rfl (bs_p_i i1' (by simp) rfl (bs_fI_i bs_set_eq rfl ?_)))
      rw [← nI_succ, nI_pred]
      have s1 : ∀ b, Y + 1 ≤ b → b ≤ Y + 4 → (bs_set (bs_set (bs_set h1 (Y + 5) (bs_ia 8 (va_up kw kc (nI w)))) (Y + 6) (bs_ia 512 G)) Y (bs_obj 7 (rF Y 0 w n (kc + 1)))).1 b = h1.1 b := fun b h2 h3 => by rw [bs_set_ne (by omega), bs_set_ne (by omega), bs_set_ne (by omega)]
      have s2 : same (Y + 7) (Y + 23) h1 (bs_set (bs_set (bs_set h1 (Y + 5) (bs_ia 8 (va_up kw kc (nI w)))) (Y + 6) (bs_ia 512 G)) Y (bs_obj 7 (rF Y 0 w n (kc + 1)))) := fun b h2 h3 => by rw [bs_set_ne (by omega), bs_set_ne (by omega), bs_set_ne (by omega)]
      refine ko (by omega) _ ⟨⟨i0.1, i0.2.1, i0.2.2.1, by omega, i0.2.2.2.2⟩, bs_set_eq, ⟨g, (s1 _ (by omega) (by omega)).trans p, q⟩, i3.kept (fun b h2 h3 => s1 b (by omega) (by omega)), ⟨va_up kw kc (nI w), G, by rw [bs_set_ne (by omega), bs_set_ne (by omega), bs_set_eq], by rw [bs_set_ne (by omega), bs_set_eq], fun k hk2 => ?_⟩, i5.kept (s2.sub (by omega) (by omega)), i6.kept (s2.sub (by omega) (by omega)), i7.kept (s2.sub (by omega) (by omega)), i8.kept (s2.sub (by omega) (by omega))⟩ (((o'.set (by omega)).set (by omega)).set (by omega))
      by_cases hkc : k = kc
      · subst hkc
        rw [bs_up_eq, bs_up_eq]
        exact ⟨rfl, i.1.1, hw, i.1.2.2.1, fun b hb => (hG.1 b (by have : b < w := hb; omega)).trans (q b hb).1⟩
      · rw [bs_up_ne _ _ hkc, bs_up_ne _ _ hkc]
        obtain ⟨z1, z2, z3, z4, z5⟩ := hkk k (by omega)
        exact ⟨z1, z2, z3, z4, fun b hb => (hG.2 _ (by omega)).trans (z5 b hb)⟩
/-- the second loop of join and of invert: what was wanted becomes the map -/
theorem rMap_new {h1 : bs_H} {f' : Nat → Nat} {wa G : Nat → Int32} (i : IR Y th w f kc ks n st h1) (hok : okF w f') (hwa : ∀ z, z < w → wa z = nI (f' z)) (hG : ∀ z, z < w → G z = wa z) : IR Y th w f' kc ks n st (bs_set h1 (Y + 1) (bs_ia 64 G)) := by
  obtain ⟨i0, i1, i2, i3, i4, i5, i6, i7, i8⟩ := i
  refine ⟨⟨i0.1, i0.2.1, hok, i0.2.2.2⟩, i1.kept (bs_set_ne (by omega)), ⟨G, bs_set_eq, fun z hz => ⟨(hG z hz).trans (hwa z hz), ?_⟩⟩, i3.kept (same.set (by omega)), i4.kept (same.set (by omega)), i5.kept (same.set (by omega)), i6.kept (same.set (by omega)), i7.kept (same.set (by omega)), i8.kept (same.set (by omega))⟩
  have := hok z hz
  have := i0.2.1
  omega
theorem IR.wants {h1 : bs_H} (i : IR Y th w f kc ks n st h1) (wa : Nat → Int32) : IR Y th w f kc ks n st (bs_set h1 (Y + 12) (bs_ia 64 wa)) := by
  obtain ⟨i0, i1, i2, i3, i4, i5, ⟨g1, g2, g3, g4, g5, g6, p1, p2, p3, p4, p5, p6⟩, i7, i8⟩ := i
  exact ⟨i0, i1.kept (bs_set_ne (by omega)), i2.kept (bs_set_ne (by omega)), i3.kept (same.set (by omega)), i4.kept (same.set (by omega)), i5.kept (same.set (by omega)), ⟨wa, g2, g3, g4, g5, g6, bs_set_eq, by rw [bs_set_ne (by omega)]; exact p2, by rw [bs_set_ne (by omega)]; exact p3, by rw [bs_set_ne (by omega)]; exact p4, by rw [bs_set_ne (by omega)]; exact p5, by rw [bs_set_ne (by omega)]; exact p6⟩, i7.kept (same.set (by omega)), i8.kept (same.set (by omega))⟩
theorem s_R_join_98 {h1 : bs_H} {f' : Nat → Nat} {wa : Nat → Int32} (i : IR Y th w f kc ks n st h1) (hwa0 : h1.1 (Y + 12) = some (bs_ia 64 wa)) (hok : okF w f') (hwa : ∀ z, z < w → wa z = nI (f' z)) (ko : ∀ h', IR Y th w f' kc ks n st h' → offR Y h1 h' → Φ (.ok none) h') : w_R_join_98 Φ 1000 Y (nI 0) h1 := by
  have hw := i.1.2.1
  obtain ⟨g, p, q⟩ := i.2.2.1
  have e : bs_set h1 (Y + 1) (bs_ia 64 g) = h1 := bs_set_get p
  rw [← e]
  refine bs_for (σ := Nat → Int32) (fun m c G => w_R_join_98 Φ m Y (nI c) (bs_set h1 (Y + 1) (bs_ia 64 G))) (fun c G => ∀ z, z < c → G z = wa z) w ?_ ?_ w 0 g 1000 (by omega) (by omega) (fun z hz => by omega)
  · intro m c G hc hG nx
    have i1 : (bs_set h1 (Y + 1) (bs_ia 64 G)).1 Y = some (bs_obj 7 (rF Y th w n kc)) := by rw [bs_set_ne (by omega)]; exact i.2.1
    refine bs_fI_i i1 rfl (bs_iff (nI_ge (by omega) (by omega)) (bs_fA_i i1 rfl (bs_fA_i i1 rfl (bs_lI_i c (by rw [bs_set_ne (by omega)]; exact hwa0) rfl (by omega) (by decide) (bs_sI_i c bs_set_eq rfl (by omega) (by decide) ?_)))))
    rw [bs_set_set, ← nI_succ]
    refine nx _ (fun z hz => ?_)
    by_cases hzc : z = c
    · subst hzc; rw [bs_up_eq]
    · rw [bs_up_ne _ _ hzc]; exact hG z (by omega)
  · intro m G hG
    have i1 : (bs_set h1 (Y + 1) (bs_ia 64 G)).1 Y = some (bs_obj 7 (rF Y th w n kc)) := by rw [bs_set_ne (by omega)]; exact i.2.1
    exact bs_fI_i i1 rfl (bs_ift (nI_le (by omega) (by omega)) (ko _ (rMap_new i hok hwa hG) ((offR.refl Y h1).set (by omega))))
theorem s_R_invert_54 {h1 : bs_H} {f' : Nat → Nat} {wa : Nat → Int32} (i : IR Y th w f kc ks n st h1) (hwa0 : h1.1 (Y + 12) = some (bs_ia 64 wa)) (hok : okF w f') (hwa : ∀ z, z < w → wa z = nI (f' z)) (ko : ∀ h', IR Y th w f' kc ks n st h' → offR Y h1 h' → Φ (.ok none) h') : w_R_invert_54 Φ 1000 Y (nI 0) h1 := by
  have hw := i.1.2.1
  obtain ⟨g, p, q⟩ := i.2.2.1
  have e : bs_set h1 (Y + 1) (bs_ia 64 g) = h1 := bs_set_get p
  rw [← e]
  refine bs_for (σ := Nat → Int32) (fun m c G => w_R_invert_54 Φ m Y (nI c) (bs_set h1 (Y + 1) (bs_ia 64 G))) (fun c G => ∀ z, z < c → G z = wa z) w ?_ ?_ w 0 g 1000 (by omega) (by omega) (fun z hz => by omega)
  · intro m c G hc hG nx
    have i1 : (bs_set h1 (Y + 1) (bs_ia 64 G)).1 Y = some (bs_obj 7 (rF Y th w n kc)) := by rw [bs_set_ne (by omega)]; exact i.2.1
    refine bs_fI_i i1 rfl (bs_iff (nI_ge (by omega) (by omega)) (bs_fA_i i1 rfl (bs_fA_i i1 rfl (bs_lI_i c (by rw [bs_set_ne (by omega)]; exact hwa0) rfl (by omega) (by decide) (bs_sI_i c bs_set_eq rfl (by omega) (by decide) ?_)))))
    rw [bs_set_set, ← nI_succ]
    refine nx _ (fun z hz => ?_)
    by_cases hzc : z = c
    · subst hzc; rw [bs_up_eq]
    · rw [bs_up_ne _ _ hzc]; exact hG z (by omega)
  · intro m G hG
    have i1 : (bs_set h1 (Y + 1) (bs_ia 64 G)).1 Y = some (bs_obj 7 (rF Y th w n kc)) := by rw [bs_set_ne (by omega)]; exact i.2.1
    exact bs_fI_i i1 rfl (bs_ift (nI_le (by omega) (by omega)) (ko _ (rMap_new i hok hwa hG) ((offR.refl Y h1).set (by omega))))
theorem s_R_join (i : IR Y th w f kc ks n st h) (x : Int32) (ke : ¬ (0 ≤ x.toInt ∧ x.toInt < kc) → ∀ h', IR Y 1 w f kc ks n st h' → offR Y h h' → Φ (.ok none) h') (kw : ∀ j, j < kc → x = nI j → (ks j).1 ≠ w → ∀ h', IR Y 2 w f kc ks n st h' → offR Y h h' → Φ (.ok none) h')
    (ko : ∀ j, j < kc → x = nI j → (ks j).1 = w → ∀ h', IR Y 0 w (joinF f (ks j).2) kc ks n st h' → offR Y h h' → Φ (.ok none) h') : w_R_join Φ Y x h := by
  have hk := i.1.2.2.2.1
  have hw := i.1.2.1
  have e : (nI kc).toInt = (kc : Int) := nI_toInt (by omega)
  have z : (0 : Int32).toInt = 0 := rfl
  have err : ¬ (0 ≤ x.toInt ∧ x.toInt < kc) → w_R_join_13 Φ Y x Y h := by
    intro hh
    show w_R_join_35 Φ Y x Y 1 h
    exact s_R_th i 1 fun i' o' => bs_fI_i i'.2.1 rfl (bs_iff (by decide) (ke hh _ i' o'))
  refine bs_ifc (fun hc => ?_) (fun hc => bs_fI_i i.2.1 rfl (bs_ifc (fun hd => ?_) (fun hd => ?_)))
  · rw [Int32.lt_iff_toInt_lt] at hc
    exact err (by omega)
  · rw [Int32.lt_iff_toInt_lt] at hc
    rw [Int32.lt_iff_toInt_lt, e] at hd
    obtain ⟨j, hj, rfl⟩ := nI_between (x := x) (m := kc) ⟨by omega, by omega⟩
    obtain ⟨kw', km, p1, p2, hkk⟩ := i.2.2.2.2.1
    obtain ⟨z1, z2, z3, z4, z5⟩ := hkk j hj
    refine bs_fA_i i.2.1 rfl (bs_lI_i j p1 rfl (by omega) (by decide) (bs_fI_i i.2.1 rfl ?_))
    rw [z1]
    refine bs_ife (nI_eq (a := (ks j).1) (b := w) (by omega) (by omega)) (fun he => ?_) (fun he => ?_)
    · refine s_R_th i 0 fun i' o' => bs_fI_i i'.2.1 rfl (bs_ift rfl ?_)
      rw [he] at z4 z5
      have p2' : (bs_set h Y (bs_obj 7 (rF Y 0 w n kc))).1 (Y + 6) = some (bs_ia 512 km) := by rw [bs_set_ne (by omega)]; exact p2
      generalize bs_set h Y (bs_obj 7 (rF Y 0 w n kc)) = h1 at i' o' p2' ⊢
      obtain ⟨g, p, q⟩ := i'.2.2.1
      obtain ⟨wa0, -, -, -, -, -, pw, -⟩ := i'.2.2.2.2.2.2.1
      have ew : bs_set h1 (Y + 12) (bs_ia 64 wa0) = h1 := bs_set_get pw
      show w_R_join_48 Φ 1000 Y (nI j) (nI 0) h1
      rw [← ew]
      refine bs_for (σ := Nat → Int32) (fun m c G => w_R_join_48 Φ m Y (nI j) (nI c) (bs_set h1 (Y + 12) (bs_ia 64 G))) (fun c G => ∀ z, z < c → G z = nI (joinF f (ks j).2 z)) w ?_ ?_ w 0 wa0 1000 (by omega) (by omega) (fun z hz => by omega)
      · intro m c G hc2 hG nx
        have ic := i'.wants G
        have hz5 := z5 c hc2
        have hok := z4 c hc2
        have fin : ∀ v : Int32, v = nI (joinF f (ks j).2 c) → w_R_join_89 Φ (w_R_join_48 Φ m) Y (nI j) (nI c) (Y + 12) (nI c) v (bs_set h1 (Y + 12) (bs_ia 64 G)) := by
          intro v hv
          refine bs_sI_i c bs_set_eq rfl (by omega) (by decide) ?_
          rw [bs_set_set, ← nI_succ]
          refine nx _ (fun z hz => ?_)
          by_cases hzc : z = c
          · subst hzc; rw [bs_up_eq]; exact hv
          · rw [bs_up_ne _ _ hzc]; exact hG z (by omega)
        refine bs_fI_i ic.2.1 rfl (bs_iff (nI_ge (by omega) (by omega)) (bs_fA_i ic.2.1 rfl (bs_lI_i (64 * j + c) (by rw [bs_set_ne (by omega)]; exact p2') (nI_64 j c) (by omega) (by decide) (bs_fA_i ic.2.1 rfl ?_))))
        rw [hz5]
        refine bs_ife (nI_leI (a := 64) (b := (ks j).2 c) (by decide) (by omega)) (fun h3 => fin _ ?_) (fun h3 => ?_)
        · unfold joinF
          rw [if_neg (by omega)]
        · refine bs_fA_i ic.2.1 rfl (bs_lI_i ((ks j).2 c) (by rw [bs_set_ne (by omega)]; exact p) rfl (by omega) (by decide) (fin _ ?_))
          unfold joinF
          rw [if_pos (by omega)]
          exact (q _ (by omega)).1
      · intro m G hG
        have ic := i'.wants G
        refine bs_fI_i ic.2.1 rfl (bs_ift (nI_le (by omega) (by omega)) ?_)
        exact s_R_join_98 ic bs_set_eq (joinF_ok hw i.1.2.2.1 z4) hG (fun h' ih oh => ko j hj rfl he _ ih ((o'.set (by omega)).trans oh))
    · exact s_R_th i 2 fun i' o' => bs_fI_i i'.2.1 rfl (bs_iff (by decide) (kw j hj rfl he _ i' o'))
  · rw [Int32.lt_iff_toInt_lt, e] at hd
    exact err (by omega)
theorem s_R_invert (i : IR Y th w f kc ks n st h) (ke : permB f w = false → ∀ h', IR Y 1 w f kc ks n st h' → offR Y h h' → Φ (.ok none) h') (ko : permB f w = true → ∀ h', IR Y 0 w (idxN f w) kc ks n st h' → offR Y h h' → Φ (.ok none) h') : w_R_invert Φ Y h := by
  have hw := i.1.2.1
  refine ⟨⟨_, i.2.1⟩, s_R_isPermutation i (fun h0 i0 o0 => bs_kI_i (bs_ifz (fun hc => ?_) (fun hc => ?_)))⟩
  · exact s_R_th i0 1 fun i' o' => bs_fI_i i'.2.1 rfl (bs_iff (by decide) (ke hc _ i' (o0.trans o')))
  · obtain ⟨hlt, hinj, hsur⟩ := perm_all i.1.2.2.1 hc
    refine s_R_th i0 0 fun i' o' => bs_fI_i i'.2.1 rfl (bs_ift rfl ?_)
    generalize bs_set h0 Y (bs_obj 7 (rF Y 0 w n kc)) = h1 at i' o' ⊢
    obtain ⟨g, p, q⟩ := i'.2.2.1
    obtain ⟨wa0, -, -, -, -, -, pw, -⟩ := i'.2.2.2.2.2.2.1
    have ew : bs_set h1 (Y + 12) (bs_ia 64 wa0) = h1 := bs_set_get pw
    show w_R_invert_26 Φ 1000 Y (nI 0) h1
    rw [← ew]
    refine bs_for (σ := Nat → Int32) (fun m c G => w_R_invert_26 Φ m Y (nI c) (bs_set h1 (Y + 12) (bs_ia 64 G))) (fun c G => ∀ y, y < w → (∃ z, z < c ∧ f z = y) → G y = nI (idxN f c y)) w ?_ ?_ w 0 wa0 1000 (by omega) (by omega) (fun y hy hz => by obtain ⟨z, hz, -⟩ := hz; omega)
    · intro m c G hc2 hG nx
      have ic := i'.wants G
      refine bs_fI_i ic.2.1 rfl (bs_iff (nI_ge (by omega) (by omega)) (bs_fA_i ic.2.1 rfl (bs_fA_i ic.2.1 rfl (bs_lI_i c (by rw [bs_set_ne (by omega)]; exact p) rfl (by omega) (by decide) (bs_sI_i (f c) bs_set_eq (q c hc2).1 (by have := hlt c hc2; omega) (by decide) ?_)))))
      rw [bs_set_set, ← nI_succ]
      refine nx _ (fun y hy hz => ?_)
      unfold idxN
      by_cases hij : f c = y
      · rw [if_pos hij, ← hij, bs_up_eq]
      · rw [if_neg hij, bs_up_ne _ _ (fun e => hij e.symm)]
        obtain ⟨z, hz, he⟩ := hz
        refine hG y hy ⟨z, ?_, he⟩
        by_cases hzc : z = c
        · subst hzc; exact absurd he hij
        · omega
    · intro m G hG
      have ic := i'.wants G
      refine bs_fI_i ic.2.1 rfl (bs_ift (nI_le (by omega) (by omega)) ?_)
      exact s_R_invert_54 ic bs_set_eq (invF_ok i.1.1) (fun z hz => hG z hz (hsur z hz)) (fun h' ih oh => ko hc _ ih ((o0.trans (o'.set (by omega))).trans oh))
/-- ticks: each op is one of the nine -/
theorem s_B_ticks (i : IC X w f kc ks n st h) (hop : ∀ z, z < n → ∃ o, o ≤ 8 ∧ (st z).1 = nI o) (ht : ∃ tf : Nat → Int32, h.2.2.2.2.1 h.2.2.2.2.2 = some (9, tf) ∧ ∀ j, j < 9 → tf j = ([1, 1, 1, 1, 1, 6, 1, 3, 3] : List Int32).getD j 0) (ko : Φ (.ok (some (.int (tkSum st n)))) h) : w_B_ticks Φ X h := by
  obtain ⟨o, am, m, p, q⟩ := i.2.2.2.2.2.2.1
  obtain ⟨tf, t1, t2⟩ := ht
  have hn := i.1.2.2.2.2
  refine bs_fA_i i.2.1 rfl ⟨⟨_, p.1⟩, ?_⟩
  refine bs_for (σ := Int32) (fun m c s => w_P_allTicks_4 _ m (X + 22) s (nI c) h) (fun c s => s = tkSum st c) n ?_ ?_ n 0 0 1000 (by omega) (by omega) rfl
  · intro m c s hc hs nx
    obtain ⟨op, ho, he⟩ := hop c hc
    refine bs_fI_i p.1 rfl (bs_iff (nI_ge (by omega) (by omega)) ⟨_, rfl, bs_fA_i p.1 rfl (bs_lI_i c p.2.1 rfl (by omega) (by decide) ?_)⟩)
    rw [(q c hc).1, he]
    refine ⟨9, tf, tf op, t1, vp_in_nI (by omega) (by decide), by rw [nI_clamp (by omega)], ?_⟩
    rw [← nI_succ]
    refine nx _ ?_
    show s + tf op = tkSum st c + tkOf (st c).1
    rw [hs, he, t2 op (by omega)]
    congr 1
    have key : ∀ z, z < 9 → ([1, 1, 1, 1, 1, 6, 1, 3, 3] : List Int32).getD z 0 = tkOf (nI z) := by decide +kernel
    exact key op (by omega)
  · intro m s hs
    refine bs_fI_i p.1 rfl (bs_ift (nI_le (by omega) (by omega)) (bs_kI_i ?_))
    rw [hs]
    exact ko
theorem s_R_ticks (i : IR Y th w f kc ks n st h) (ko : ∀ h', IR Y 0 w f kc ks n st h' → offR Y h h' → Φ (.ok (some (.int (tkSum st n)))) h') : w_R_ticks Φ Y h := by
  refine s_R_th i 0 fun i' o' => ?_
  have k := ko _ i' o'
  generalize bs_set h Y (bs_obj 7 (rF Y 0 w n kc)) = h1 at i' o' k ⊢
  obtain ⟨o, am, m, p1, p2, p3, q⟩ := i'.2.2.2.1
  have hn := i.1.2.2.2.2
  refine bs_for (σ := Int32) (fun m c s => w_R_ticks_9 Φ m Y s (nI c) h1) (fun c s => s = tkSum st c) n ?_ ?_ n 0 0 1000 (by omega) (by omega) rfl
  · intro m c s hc hs nx
    have fin : ∀ v : Int32, v = tkOf (st c).1 → w_R_ticks_49 Φ (w_R_ticks_9 Φ m) Y (nI c) s v h1 := by
      intro v hv
      show w_R_ticks_9 Φ m Y (s + v) (nI c + 1) h1
      rw [← nI_succ]
      exact nx _ (by rw [hs, hv]; rfl)
    refine bs_fI_i i'.2.1 rfl (bs_iff (nI_ge (by omega) (by omega)) (bs_fA_i i'.2.1 rfl (bs_lI_i c p1 rfl (by omega) (by decide) ?_)))
    rw [(q c hc).1]
    refine bs_ifc (fun h5 => fin _ ?_) (fun h5 => bs_fA_i i'.2.1 rfl (bs_lI_i c p1 rfl (by omega) (by decide) ?_))
    · unfold tkOf; rw [if_pos h5]
    · rw [(q c hc).1]
      refine bs_ifc (fun h6 => fin _ ?_) (fun h6 => fin _ ?_)
      · unfold tkOf; rw [if_neg h5, if_pos h6]
      · unfold tkOf; rw [if_neg h5, if_neg h6]
  · intro m s hs
    refine bs_fI_i i'.2.1 rfl (bs_ift (nI_le (by omega) (by omega)) ?_)
    rw [hs]
    exact k
end SKR
