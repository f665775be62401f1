/-! The class's constructor, and the reference's. -/
section NI
variable {Φ : bs_R → bs_H → Prop} {h : bs_H} {X Y c s : Nat} {E : (Nat → Option (Nat × (Nat → Int32))) × Nat} {ks : bs_Ks} {st : bs_St}
theorem fld_i {a ci k : Nat} {v : Value} {fs fs' : List Value} {Q : bs_H → Prop} (o : h.1 X = some (bs_obj ci fs)) (r : room h a c s E) (hl : k < fs.length) (he : fs.set k v = fs') (z : ∀ h', h'.1 X = some (bs_obj ci fs') → room h' a c s E → (∀ b, b ≠ X → h'.1 b = h.1 b) → Q h') : bs_p h X ci k v Q := bs_p_i o hl he (z _ bs_set_eq r.set (fun b hb => bs_set_ne hb))
theorem s_B_init (o : h.1 X = some (bs_obj 0 z_B)) (r : room h (X + 1) c s E) (hc : 40 ≤ c) (hs : 1721 ≤ s) (ko : ∀ h', IC X 8 (fun k => k) 0 ks 0 st h' → room h' (X + 38) (c - 37) (s - 1721) E → (∀ b, b < X → h'.1 b = h.1 b) → Φ (.ok none) h') : w_B_init Φ X h := by
  refine s_M_new r (by omega) (by omega) (fun hA pA rA kA => ?_)
  refine fld_i (fs' := [.ref (X + 1), .null, .null, .int 0, .null, .null, .null, .null, .null]) ((kA X (by omega)).trans o) rA (by decide) rfl (fun hB oB rB kB => ?_)
  refine s_M_new rB (by omega) (by omega) (fun hC pC rC kC => ?_)
  refine fld_i (fs' := [.ref (X + 1), .ref (X + 3), .null, .int 0, .null, .null, .null, .null, .null]) ((kC X (by omega)).trans oB) rC (by simp) rfl (fun hD oD rD kD => ?_)
  refine row_i (fs' := [.ref (X + 1), .ref (X + 3), .ref (X + 5), .int 0, .null, .null, .null, .null, .null]) oD rD (by omega) (by omega) (by omega) (by simp) rfl (fun hE oE rE xE kE => ?_)
  show w_B_init_37 Φ 1000 X (nI 0) hE
  refine bs_for (σ := bs_H) (fun u z H => w_B_init_37 Φ u X (nI z) H) (fun z H => H.1 X = some (bs_obj 0 [.ref (X + 1), .ref (X + 3), .ref (X + 5), .int 0, .null, .null, .null, .null, .null]) ∧ (∃ fk, H.1 (X + 5) = some (bs_ra 8 fk) ∧ ∀ k, k < z → fk k = some (X + 6 + 2 * k)) ∧ (∀ k, k < z → pM H (X + 6 + 2 * k) 1 (fun _ => 0)) ∧ room H (X + 6 + 2 * z) (c - 5 - 2 * z) (s - 140 - 66 * z) E ∧ (∀ b, b < X + 5 → b ≠ X → H.1 b = hE.1 b)) 8 ?_ ?_ 8 0 hE 1000 (by omega) (by omega) ⟨oE, ⟨_, xE, fun k hk => by omega⟩, fun k hk => by omega, rE.le (by omega) (by omega), fun _ _ _ => rfl⟩
  · rintro u z H hz ⟨oH, ⟨fk, xH, hfk⟩, pH, rH, kH⟩ nx
    refine bs_iff (nI_ge (b := 8) hz (by omega)) (bs_fA_i oH rfl (s_M_new rH (by omega) (by omega) (fun h1 p1 r1 k1 => ?_)))
    refine ⟨8, fk, _, (k1 _ (by omega)).trans xH, vp_in_nI hz (by decide), p1.1, ?_⟩
    rw [nI_clamp (by omega), ← nI_succ]
    refine nx _ ⟨by rw [bs_set_ne (by omega), k1 _ (by omega)]; exact oH, ⟨_, bs_set_eq, fun k hk => ?_⟩, fun k hk => ?_, r1.set.le (by omega) (by omega), fun b hb hb2 => by rw [bs_set_ne (by omega), k1 _ (by omega)]; exact kH b hb hb2⟩
    · by_cases e : k = z
      · subst e; rw [bs_up_eq]
      · rw [bs_up_ne _ _ e]; exact hfk k (by omega)
    · by_cases e : k = z
      · subst e; exact ⟨by rw [bs_set_ne (by omega)]; exact p1.1, by rw [bs_set_ne (by omega)]; exact p1.2⟩
      · have q := pH k (by omega)
        exact ⟨by rw [bs_set_ne (by omega), k1 _ (by omega)]; exact q.1, by rw [bs_set_ne (by omega), k1 _ (by omega)]; exact q.2⟩
  · rintro u H ⟨oH, ⟨fk, xH, hfk⟩, pH, rH, kH⟩
    refine bs_ift (nI_le (a := 8) (b := 8) (by omega) (by omega)) ?_
    refine fld_i (fs' := [.ref (X + 1), .ref (X + 3), .ref (X + 5), .int 0, .null, .null, .null, .null, .null]) oH rH (by simp) rfl (fun h1 o1 r1 k1 => ?_)
    refine s_P_new r1 (by omega) (by omega) (fun h2 p2 r2 k2 => ?_)
    refine fld_i (fs' := [.ref (X + 1), .ref (X + 3), .ref (X + 5), .int 0, .ref (X + 22), .null, .null, .null, .null]) ((k2 X (by omega)).trans o1) r2 (by simp) rfl (fun h3 o3 r3 k3 => ?_)
    refine s_W_new r3 (by omega) (by omega) (fun h4 p4 r4 k4 => ?_)
    refine fld_i (fs' := [.ref (X + 1), .ref (X + 3), .ref (X + 5), .int 0, .ref (X + 22), .ref (X + 26), .null, .null, .null]) ((k4 X (by omega)).trans o3) r4 (by simp) rfl (fun h5 o5 r5 k5 => ?_)
    refine s_S_new r5 (by omega) (by omega) (fun h6 p6 q6 s6 t6 r6 k6 => ?_)
    refine fld_i (fs' := [.ref (X + 1), .ref (X + 3), .ref (X + 5), .int 0, .ref (X + 22), .ref (X + 26), .ref (X + 27), .null, .null]) ((k6 X (by omega)).trans o5) r6 (by simp) rfl (fun h7 o7 r7 k7 => ?_)
    refine s_X_new r7 (by omega) (by omega) (fun h8 p8 q8 s8 t8 r8 k8 => ?_)
    refine fld_i (fs' := [.ref (X + 1), .ref (X + 3), .ref (X + 5), .int 0, .ref (X + 22), .ref (X + 26), .ref (X + 27), .ref (X + 31), .null]) ((k8 X (by omega)).trans o7) r8 (by simp) rfl (fun h9 o9 r9 k9 => ?_)
    refine s_G_new r9 (by omega) (by omega) (fun hx px qx sx rx kx => ?_)
    refine fld_i (fs' := [.ref (X + 1), .ref (X + 3), .ref (X + 5), .int 0, .ref (X + 22), .ref (X + 26), .ref (X + 27), .ref (X + 31), .ref (X + 35)]) ((kx X (by omega)).trans o9) rx (by simp) rfl (fun hy oy ry ky => ?_)
    have tx : ∀ b, b ≠ X → hy.1 b = hx.1 b := ky
    have t9 : ∀ b, b < X + 35 → b ≠ X → hy.1 b = h8.1 b := fun b h1 h2 => by rw [tx b h2, kx b (by omega), k9 b h2]
    have t7 : ∀ b, b < X + 31 → b ≠ X → hy.1 b = h6.1 b := fun b h1 h2 => by rw [t9 b (by omega) h2, k8 b (by omega), k7 b h2]
    have t5 : ∀ b, b < X + 27 → b ≠ X → hy.1 b = h4.1 b := fun b h1 h2 => by rw [t7 b (by omega) h2, k6 b (by omega), k5 b h2]
    have t3 : ∀ b, b < X + 26 → b ≠ X → hy.1 b = h2.1 b := fun b h1 h2 => by rw [t5 b (by omega) h2, k4 b (by omega), k3 b h2]
    have t1 : ∀ b, b < X + 22 → b ≠ X → hy.1 b = H.1 b := fun b h1 h2 => by rw [t3 b (by omega) h2, k2 b (by omega), k1 b h2]
    have tE : ∀ b, b < X + 5 → b ≠ X → hy.1 b = hE.1 b := fun b h1 h2 => by rw [t1 b (by omega) h2, kH b h1 h2]
    have tC : ∀ b, b < X + 5 → b ≠ X → hy.1 b = hC.1 b := fun b h1 h2 => by rw [tE b h1 h2, kE b h1 h2, kD b h2]
    have tA : ∀ b, b < X + 3 → b ≠ X → hy.1 b = hA.1 b := fun b h1 h2 => by rw [tC b (by omega) h2, kC b h1, kB b h2]
    have mM : pM hy (X + 1) 1 (fun _ => 0) := ⟨by rw [tA _ (by omega) (by omega)]; exact pA.1, by rw [tA _ (by omega) (by omega)]; exact pA.2⟩
    have mF : pM hy (X + 3) 1 (fun _ => 0) := ⟨by rw [tC _ (by omega) (by omega)]; exact pC.1, by rw [tC _ (by omega) (by omega)]; exact pC.2⟩
    refine bs_fA_i oy rfl ⟨⟨_, mM.1⟩, ?_⟩
    show w_M_becomeIdentity _ (X + 1) (nI 8) hy
    refine s_M_becomeIdentity mM (by omega) (fun g hg => bs_kV_i ?_)
    have e2 : bs_set (bs_set hy (X + 1) (bs_obj 1 [.ref (X + 1 + 1), .int (nI 8)])) (X + 1 + 1) (bs_ia 64 g) = bs_set (bs_set hy (X + 1) (bs_obj 1 [.ref (X + 2), .int (nI 8)])) (X + 2) (bs_ia 64 g) := rfl
    rw [e2]
    have F : ∀ b, b ≠ X + 1 → b ≠ X + 2 → (bs_set (bs_set hy (X + 1) (bs_obj 1 [.ref (X + 2), .int (nI 8)])) (X + 2) (bs_ia 64 g)).1 b = hy.1 b := fun b h1 h2 => by rw [bs_set_ne h2, bs_set_ne h1]
    have z1 : cPro X 0 st (bs_set (bs_set hy (X + 1) (bs_obj 1 [.ref (X + 2), .int (nI 8)])) (X + 2) (bs_ia 64 g)) := ⟨_, _, _, ⟨((F _ (by omega) (by omega)).trans ((t3 _ (by omega) (by omega)).trans p2.1)), ((F _ (by omega) (by omega)).trans ((t3 _ (by omega) (by omega)).trans p2.2.1)), ((F _ (by omega) (by omega)).trans ((t3 _ (by omega) (by omega)).trans p2.2.2.1)), ((F _ (by omega) (by omega)).trans ((t3 _ (by omega) (by omega)).trans p2.2.2.2))⟩, fun i hi => by omega⟩
    have z2 : cMac X (bs_set (bs_set hy (X + 1) (bs_obj 1 [.ref (X + 2), .int (nI 8)])) (X + 2) (bs_ia 64 g)) := ⟨_, _, _, _, ((F _ (by omega) (by omega)).trans ((t5 _ (by omega) (by omega)).trans p4))⟩
    have z3 : cSym X (bs_set (bs_set hy (X + 1) (bs_obj 1 [.ref (X + 2), .int (nI 8)])) (X + 2) (bs_ia 64 g)) := ⟨_, _, _, _, _, ((F _ (by omega) (by omega)).trans ((t7 _ (by omega) (by omega)).trans p6)), ((F _ (by omega) (by omega)).trans ((t7 _ (by omega) (by omega)).trans q6)), ((F _ (by omega) (by omega)).trans ((t7 _ (by omega) (by omega)).trans s6)), ((F _ (by omega) (by omega)).trans ((t7 _ (by omega) (by omega)).trans t6))⟩
    have z4 : cSwp X (bs_set (bs_set hy (X + 1) (bs_obj 1 [.ref (X + 2), .int (nI 8)])) (X + 2) (bs_ia 64 g)) := ⟨_, _, _, _, _, _, _, ((F _ (by omega) (by omega)).trans ((t9 _ (by omega) (by omega)).trans p8)), ((F _ (by omega) (by omega)).trans ((t9 _ (by omega) (by omega)).trans q8)), ((F _ (by omega) (by omega)).trans ((t9 _ (by omega) (by omega)).trans s8)), ((F _ (by omega) (by omega)).trans ((t9 _ (by omega) (by omega)).trans t8))⟩
    have z5 : cGat X (bs_set (bs_set hy (X + 1) (bs_obj 1 [.ref (X + 2), .int (nI 8)])) (X + 2) (bs_ia 64 g)) := ⟨_, _, _, ((F _ (by omega) (by omega)).trans ((tx _ (by omega)).trans px)), ((F _ (by omega) (by omega)).trans ((tx _ (by omega)).trans qx)), ((F _ (by omega) (by omega)).trans ((tx _ (by omega)).trans sx))⟩
    have z6 : cKep X 0 ks (bs_set (bs_set hy (X + 1) (bs_obj 1 [.ref (X + 2), .int (nI 8)])) (X + 2) (bs_ia 64 g)) := fun k hk => ⟨1, fun _ => 0, ⟨((F _ (by omega) (by omega)).trans ((t1 _ (by omega) (by omega)).trans (pH k hk).1)), ((F _ (by omega) (by omega)).trans ((t1 _ (by omega) (by omega)).trans (pH k hk).2))⟩, fun q => absurd q (by omega)⟩
    have z7 : cMap X 8 (fun k => k) (bs_set (bs_set hy (X + 1) (bs_obj 1 [.ref (X + 2), .int (nI 8)])) (X + 2) (bs_ia 64 g)) := ⟨g, ⟨by rw [bs_set_ne (by omega)]; exact bs_set_eq, bs_set_eq⟩, fun k hk => ⟨hg k hk, by show k ≤ 65; omega⟩⟩
    have z8 : cFor X (bs_set (bs_set hy (X + 1) (bs_obj 1 [.ref (X + 2), .int (nI 8)])) (X + 2) (bs_ia 64 g)) := ⟨1, fun _ => 0, (F _ (by omega) (by omega)).trans mF.1, (F _ (by omega) (by omega)).trans mF.2⟩
    have z9 : cArr X (bs_set (bs_set hy (X + 1) (bs_obj 1 [.ref (X + 2), .int (nI 8)])) (X + 2) (bs_ia 64 g)) := ⟨fk, ((F _ (by omega) (by omega)).trans ((t1 _ (by omega) (by omega)).trans xH)), hfk⟩
    refine ko _ ⟨⟨by omega, by omega, fun k hk => .inl hk, by omega, by omega⟩, (F _ (by omega) (by omega)).trans oy, z7, z8, z9, z6, z1, z2, z3, z4, z5⟩ (ry.set.set.le (by omega) (by omega)) (fun b hb => ?_)
    rw [F _ (by omega) (by omega), tA _ (by omega) (by omega), kA _ (by omega)]
theorem s_R_begin0 {w n kc : Nat} {th : Int32} {g : Nat → Int32} (o : rO Y th w n kc h) (hk : kc ≤ 8) (pg : h.1 (Y + 1) = some (bs_ia 64 g)) (i3 : rPro Y 0 st h) (i4 : rKep Y kc ks h) (i5 : rSym Y h) (i6 : rSwp Y h) (i7 : rGat Y h) (i8 : rLea Y h) {j : Nat} (h1 : 1 ≤ j) (h2 : j ≤ 64) (k : ∀ h', IR Y th j (fun k => k) kc ks 0 st h' → offR Y h h' → Φ (.ok none) h') : w_R_begin Φ Y (nI j) h := by
  refine bs_p_i o (by simp) rfl (bs_p_i bs_set_eq (by simp) rfl ?_)
  rw [bs_set_set]
  show w_R_begin_12 Φ 1000 Y (nI 0) (bs_set h Y (bs_obj 7 (rF Y th j 0 kc)))
  have e : bs_set (bs_set h Y (bs_obj 7 (rF Y th j 0 kc))) (Y + 1) (bs_ia 64 g) = bs_set h Y (bs_obj 7 (rF Y th j 0 kc)) := bs_set_get (by rw [bs_set_ne (by omega)]; exact pg)
  rw [← e]
  refine bs_for (σ := Nat → Int32) (fun m c G => w_R_begin_12 Φ m Y (nI c) (bs_set (bs_set h Y (bs_obj 7 (rF Y th j 0 kc))) (Y + 1) (bs_ia 64 G))) (fun c G => ∀ z, z < c → G z = nI z) 64 ?_ ?_ 64 0 g 1000 (by omega) (by omega) (fun z hz => by omega)
  · intro m c G hc hG nx
    refine bs_iff (nI_ge (b := 64) hc (by omega)) (bs_fA_i (by rw [bs_set_ne (by omega), bs_set_eq]) rfl (bs_sI_i c bs_set_eq rfl (by omega) (by decide) ?_))
    rw [bs_set_set, ← nI_succ]
    refine nx _ (fun z hz => ?_)
    by_cases hzc : z = c
    · subst hzc; rw [bs_up_eq]
    · rw [bs_up_ne _ _ hzc]; exact hG z (by omega)
  · intro m G hG
    refine bs_ift (nI_le (a := 64) (b := 64) (by omega) (by omega)) ?_
    have s : same (Y + 2) (Y + 23) h (bs_set (bs_set h Y (bs_obj 7 (rF Y th j 0 kc))) (Y + 1) (bs_ia 64 G)) := (same.set (by omega)).trans (same.set (by omega))
    exact k _ ⟨⟨h1, h2, fun z hz => Or.inl hz, hk, by omega⟩, by show (bs_set _ _ _).1 Y = _; rw [bs_set_ne (by omega), bs_set_eq], ⟨G, bs_set_eq, fun z hz => ⟨hG z (by omega), by show z ≤ 65; omega⟩⟩, i3.kept (s.sub (by omega) (by omega)), i4.kept (s.sub (by omega) (by omega)), i5.kept (s.sub (by omega) (by omega)), i6.kept (s.sub (by omega) (by omega)), i7.kept (s.sub (by omega) (by omega)), i8.kept (s.sub (by omega) (by omega))⟩ (((offR.refl Y h).set (by omega)).set (by omega))
theorem s_R_init (o : h.1 Y = some (bs_obj 7 z_R)) (r0 : room h (Y + 1) c s E) (hc : 23 ≤ c) (hs : 2890 ≤ s) (ko : ∀ h', IR Y 0 8 (fun k => k) 0 ks 0 st h' → room h' (Y + 24) (c - 23) (s - 2890) E → (∀ b, b < Y → h'.1 b = h.1 b) → Φ (.ok none) h') : w_R_init Φ Y h := by
  refine row_i (fs' := [.int 0, .int 0, .ref (Y + 1), .int 0, .null, .null, .null, .int 0, .null, .null, .null, .null, .null, .null, .null, .null, .null, .null, .null, .null, .null, .null, .null, .null, .null, .null, .null]) o r0 (by omega) (by omega) (by omega) (by decide) rfl (fun h1 o1 r1 x1 k1 => ?_)
  refine row_i (fs' := [.int 0, .int 0, .ref (Y + 1), .int 0, .ref (Y + 2), .null, .null, .int 0, .null, .null, .null, .null, .null, .null, .null, .null, .null, .null, .null, .null, .null, .null, .null, .null, .null, .null, .null]) o1 r1 (by omega) (by omega) (by omega) (by simp) rfl (fun h2 o2 r2 x2 k2 => ?_)
  refine row_i (fs' := [.int 0, .int 0, .ref (Y + 1), .int 0, .ref (Y + 2), .ref (Y + 3), .null, .int 0, .null, .null, .null, .null, .null, .null, .null, .null, .null, .null, .null, .null, .null, .null, .null, .null, .null, .null, .null]) o2 r2 (by omega) (by omega) (by omega) (by simp) rfl (fun h3 o3 r3 x3 k3 => ?_)
  refine row_i (fs' := [.int 0, .int 0, .ref (Y + 1), .int 0, .ref (Y + 2), .ref (Y + 3), .ref (Y + 4), .int 0, .null, .null, .null, .null, .null, .null, .null, .null, .null, .null, .null, .null, .null, .null, .null, .null, .null, .null, .null]) o3 r3 (by omega) (by omega) (by omega) (by simp) rfl (fun h4 o4 r4 x4 k4 => ?_)
  refine row_i (fs' := [.int 0, .int 0, .ref (Y + 1), .int 0, .ref (Y + 2), .ref (Y + 3), .ref (Y + 4), .int 0, .ref (Y + 5), .null, .null, .null, .null, .null, .null, .null, .null, .null, .null, .null, .null, .null, .null, .null, .null, .null, .null]) o4 r4 (by omega) (by omega) (by omega) (by simp) rfl (fun h5 o5 r5 x5 k5 => ?_)
  refine row_i (fs' := [.int 0, .int 0, .ref (Y + 1), .int 0, .ref (Y + 2), .ref (Y + 3), .ref (Y + 4), .int 0, .ref (Y + 5), .ref (Y + 6), .null, .null, .null, .null, .null, .null, .null, .null, .null, .null, .null, .null, .null, .null, .null, .null, .null]) o5 r5 (by omega) (by omega) (by omega) (by simp) rfl (fun h6 o6 r6 x6 k6 => ?_)
  refine row_i (fs' := [.int 0, .int 0, .ref (Y + 1), .int 0, .ref (Y + 2), .ref (Y + 3), .ref (Y + 4), .int 0, .ref (Y + 5), .ref (Y + 6), .ref (Y + 7), .null, .null, .null, .null, .null, .null, .null, .null, .null, .null, .null, .null, .null, .null, .null, .null]) o6 r6 (by omega) (by omega) (by omega) (by simp) rfl (fun h7 o7 r7 x7 k7 => ?_)
  refine row_i (fs' := [.int 0, .int 0, .ref (Y + 1), .int 0, .ref (Y + 2), .ref (Y + 3), .ref (Y + 4), .int 0, .ref (Y + 5), .ref (Y + 6), .ref (Y + 7), .ref (Y + 8), .null, .null, .null, .null, .null, .null, .null, .null, .null, .null, .null, .null, .null, .null, .null]) o7 r7 (by omega) (by omega) (by omega) (by simp) rfl (fun h8 o8 r8 x8 k8 => ?_)
  refine row_i (fs' := [.int 0, .int 0, .ref (Y + 1), .int 0, .ref (Y + 2), .ref (Y + 3), .ref (Y + 4), .int 0, .ref (Y + 5), .ref (Y + 6), .ref (Y + 7), .ref (Y + 8), .ref (Y + 9), .null, .null, .null, .null, .null, .null, .null, .null, .null, .null, .null, .null, .null, .null]) o8 r8 (by omega) (by omega) (by omega) (by simp) rfl (fun h9 o9 r9 x9 k9 => ?_)
  refine row_i (fs' := [.int 0, .int 0, .ref (Y + 1), .int 0, .ref (Y + 2), .ref (Y + 3), .ref (Y + 4), .int 0, .ref (Y + 5), .ref (Y + 6), .ref (Y + 7), .ref (Y + 8), .ref (Y + 9), .ref (Y + 10), .null, .null, .null, .null, .null, .null, .null, .null, .null, .null, .null, .null, .null]) o9 r9 (by omega) (by omega) (by omega) (by simp) rfl (fun h10 o10 r10 x10 k10 => ?_)
  refine row_i (fs' := [.int 0, .int 0, .ref (Y + 1), .int 0, .ref (Y + 2), .ref (Y + 3), .ref (Y + 4), .int 0, .ref (Y + 5), .ref (Y + 6), .ref (Y + 7), .ref (Y + 8), .ref (Y + 9), .ref (Y + 10), .ref (Y + 11), .null, .null, .null, .null, .null, .null, .null, .null, .null, .null, .null, .null]) o10 r10 (by omega) (by omega) (by omega) (by simp) rfl (fun h11 o11 r11 x11 k11 => ?_)
  refine row_i (fs' := [.int 0, .int 0, .ref (Y + 1), .int 0, .ref (Y + 2), .ref (Y + 3), .ref (Y + 4), .int 0, .ref (Y + 5), .ref (Y + 6), .ref (Y + 7), .ref (Y + 8), .ref (Y + 9), .ref (Y + 10), .ref (Y + 11), .ref (Y + 12), .null, .null, .null, .null, .null, .null, .null, .null, .null, .null, .null]) o11 r11 (by omega) (by omega) (by omega) (by simp) rfl (fun h12 o12 r12 x12 k12 => ?_)
  refine row_i (fs' := [.int 0, .int 0, .ref (Y + 1), .int 0, .ref (Y + 2), .ref (Y + 3), .ref (Y + 4), .int 0, .ref (Y + 5), .ref (Y + 6), .ref (Y + 7), .ref (Y + 8), .ref (Y + 9), .ref (Y + 10), .ref (Y + 11), .ref (Y + 12), .ref (Y + 13), .null, .null, .null, .null, .null, .null, .null, .null, .null, .null]) o12 r12 (by omega) (by omega) (by omega) (by simp) rfl (fun h13 o13 r13 x13 k13 => ?_)
  refine row_i (fs' := [.int 0, .int 0, .ref (Y + 1), .int 0, .ref (Y + 2), .ref (Y + 3), .ref (Y + 4), .int 0, .ref (Y + 5), .ref (Y + 6), .ref (Y + 7), .ref (Y + 8), .ref (Y + 9), .ref (Y + 10), .ref (Y + 11), .ref (Y + 12), .ref (Y + 13), .ref (Y + 14), .null, .null, .null, .null, .null, .null, .null, .null, .null]) o13 r13 (by omega) (by omega) (by omega) (by simp) rfl (fun h14 o14 r14 x14 k14 => ?_)
  refine row_i (fs' := [.int 0, .int 0, .ref (Y + 1), .int 0, .ref (Y + 2), .ref (Y + 3), .ref (Y + 4), .int 0, .ref (Y + 5), .ref (Y + 6), .ref (Y + 7), .ref (Y + 8), .ref (Y + 9), .ref (Y + 10), .ref (Y + 11), .ref (Y + 12), .ref (Y + 13), .ref (Y + 14), .ref (Y + 15), .null, .null, .null, .null, .null, .null, .null, .null]) o14 r14 (by omega) (by omega) (by omega) (by simp) rfl (fun h15 o15 r15 x15 k15 => ?_)
  refine row_i (fs' := [.int 0, .int 0, .ref (Y + 1), .int 0, .ref (Y + 2), .ref (Y + 3), .ref (Y + 4), .int 0, .ref (Y + 5), .ref (Y + 6), .ref (Y + 7), .ref (Y + 8), .ref (Y + 9), .ref (Y + 10), .ref (Y + 11), .ref (Y + 12), .ref (Y + 13), .ref (Y + 14), .ref (Y + 15), .ref (Y + 16), .null, .null, .null, .null, .null, .null, .null]) o15 r15 (by omega) (by omega) (by omega) (by simp) rfl (fun h16 o16 r16 x16 k16 => ?_)
  refine row_i (fs' := [.int 0, .int 0, .ref (Y + 1), .int 0, .ref (Y + 2), .ref (Y + 3), .ref (Y + 4), .int 0, .ref (Y + 5), .ref (Y + 6), .ref (Y + 7), .ref (Y + 8), .ref (Y + 9), .ref (Y + 10), .ref (Y + 11), .ref (Y + 12), .ref (Y + 13), .ref (Y + 14), .ref (Y + 15), .ref (Y + 16), .ref (Y + 17), .null, .null, .null, .null, .null, .null]) o16 r16 (by omega) (by omega) (by omega) (by simp) rfl (fun h17 o17 r17 x17 k17 => ?_)
  refine row_i (fs' := [.int 0, .int 0, .ref (Y + 1), .int 0, .ref (Y + 2), .ref (Y + 3), .ref (Y + 4), .int 0, .ref (Y + 5), .ref (Y + 6), .ref (Y + 7), .ref (Y + 8), .ref (Y + 9), .ref (Y + 10), .ref (Y + 11), .ref (Y + 12), .ref (Y + 13), .ref (Y + 14), .ref (Y + 15), .ref (Y + 16), .ref (Y + 17), .ref (Y + 18), .null, .null, .null, .null, .null]) o17 r17 (by omega) (by omega) (by omega) (by simp) rfl (fun h18 o18 r18 x18 k18 => ?_)
  refine row_i (fs' := [.int 0, .int 0, .ref (Y + 1), .int 0, .ref (Y + 2), .ref (Y + 3), .ref (Y + 4), .int 0, .ref (Y + 5), .ref (Y + 6), .ref (Y + 7), .ref (Y + 8), .ref (Y + 9), .ref (Y + 10), .ref (Y + 11), .ref (Y + 12), .ref (Y + 13), .ref (Y + 14), .ref (Y + 15), .ref (Y + 16), .ref (Y + 17), .ref (Y + 18), .ref (Y + 19), .null, .null, .null, .null]) o18 r18 (by omega) (by omega) (by omega) (by simp) rfl (fun h19 o19 r19 x19 k19 => ?_)
  refine row_i (fs' := [.int 0, .int 0, .ref (Y + 1), .int 0, .ref (Y + 2), .ref (Y + 3), .ref (Y + 4), .int 0, .ref (Y + 5), .ref (Y + 6), .ref (Y + 7), .ref (Y + 8), .ref (Y + 9), .ref (Y + 10), .ref (Y + 11), .ref (Y + 12), .ref (Y + 13), .ref (Y + 14), .ref (Y + 15), .ref (Y + 16), .ref (Y + 17), .ref (Y + 18), .ref (Y + 19), .ref (Y + 20), .null, .null, .null]) o19 r19 (by omega) (by omega) (by omega) (by simp) rfl (fun h20 o20 r20 x20 k20 => ?_)
  refine row_i (fs' := [.int 0, .int 0, .ref (Y + 1), .int 0, .ref (Y + 2), .ref (Y + 3), .ref (Y + 4), .int 0, .ref (Y + 5), .ref (Y + 6), .ref (Y + 7), .ref (Y + 8), .ref (Y + 9), .ref (Y + 10), .ref (Y + 11), .ref (Y + 12), .ref (Y + 13), .ref (Y + 14), .ref (Y + 15), .ref (Y + 16), .ref (Y + 17), .ref (Y + 18), .ref (Y + 19), .ref (Y + 20), .ref (Y + 21), .null, .null]) o20 r20 (by omega) (by omega) (by omega) (by simp) rfl (fun h21 o21 r21 x21 k21 => ?_)
  refine row_i (fs' := [.int 0, .int 0, .ref (Y + 1), .int 0, .ref (Y + 2), .ref (Y + 3), .ref (Y + 4), .int 0, .ref (Y + 5), .ref (Y + 6), .ref (Y + 7), .ref (Y + 8), .ref (Y + 9), .ref (Y + 10), .ref (Y + 11), .ref (Y + 12), .ref (Y + 13), .ref (Y + 14), .ref (Y + 15), .ref (Y + 16), .ref (Y + 17), .ref (Y + 18), .ref (Y + 19), .ref (Y + 20), .ref (Y + 21), .ref (Y + 22), .null]) o21 r21 (by omega) (by omega) (by omega) (by simp) rfl (fun h22 o22 r22 x22 k22 => ?_)
  refine row_i (fs' := [.int 0, .int 0, .ref (Y + 1), .int 0, .ref (Y + 2), .ref (Y + 3), .ref (Y + 4), .int 0, .ref (Y + 5), .ref (Y + 6), .ref (Y + 7), .ref (Y + 8), .ref (Y + 9), .ref (Y + 10), .ref (Y + 11), .ref (Y + 12), .ref (Y + 13), .ref (Y + 14), .ref (Y + 15), .ref (Y + 16), .ref (Y + 17), .ref (Y + 18), .ref (Y + 19), .ref (Y + 20), .ref (Y + 21), .ref (Y + 22), .ref (Y + 23)]) o22 r22 (by omega) (by omega) (by omega) (by simp) rfl (fun h23 o23 r23 x23 k23 => ?_)
  have t23 : ∀ b, b ≠ Y → h23.1 b = h23.1 b := fun _ _ => rfl
  have t22 : ∀ b, b < Y + 23 → b ≠ Y → h23.1 b = h22.1 b := fun b h1 h2 => k23 b (by omega) h2
  have t21 : ∀ b, b < Y + 22 → b ≠ Y → h23.1 b = h21.1 b := fun b h1 h2 => (t22 b (by omega) h2).trans (k22 b (by omega) h2)
  have t20 : ∀ b, b < Y + 21 → b ≠ Y → h23.1 b = h20.1 b := fun b h1 h2 => (t21 b (by omega) h2).trans (k21 b (by omega) h2)
  have t19 : ∀ b, b < Y + 20 → b ≠ Y → h23.1 b = h19.1 b := fun b h1 h2 => (t20 b (by omega) h2).trans (k20 b (by omega) h2)
  have t18 : ∀ b, b < Y + 19 → b ≠ Y → h23.1 b = h18.1 b := fun b h1 h2 => (t19 b (by omega) h2).trans (k19 b (by omega) h2)
  have t17 : ∀ b, b < Y + 18 → b ≠ Y → h23.1 b = h17.1 b := fun b h1 h2 => (t18 b (by omega) h2).trans (k18 b (by omega) h2)
  have t16 : ∀ b, b < Y + 17 → b ≠ Y → h23.1 b = h16.1 b := fun b h1 h2 => (t17 b (by omega) h2).trans (k17 b (by omega) h2)
  have t15 : ∀ b, b < Y + 16 → b ≠ Y → h23.1 b = h15.1 b := fun b h1 h2 => (t16 b (by omega) h2).trans (k16 b (by omega) h2)
  have t14 : ∀ b, b < Y + 15 → b ≠ Y → h23.1 b = h14.1 b := fun b h1 h2 => (t15 b (by omega) h2).trans (k15 b (by omega) h2)
  have t13 : ∀ b, b < Y + 14 → b ≠ Y → h23.1 b = h13.1 b := fun b h1 h2 => (t14 b (by omega) h2).trans (k14 b (by omega) h2)
  have t12 : ∀ b, b < Y + 13 → b ≠ Y → h23.1 b = h12.1 b := fun b h1 h2 => (t13 b (by omega) h2).trans (k13 b (by omega) h2)
  have t11 : ∀ b, b < Y + 12 → b ≠ Y → h23.1 b = h11.1 b := fun b h1 h2 => (t12 b (by omega) h2).trans (k12 b (by omega) h2)
  have t10 : ∀ b, b < Y + 11 → b ≠ Y → h23.1 b = h10.1 b := fun b h1 h2 => (t11 b (by omega) h2).trans (k11 b (by omega) h2)
  have t9 : ∀ b, b < Y + 10 → b ≠ Y → h23.1 b = h9.1 b := fun b h1 h2 => (t10 b (by omega) h2).trans (k10 b (by omega) h2)
  have t8 : ∀ b, b < Y + 9 → b ≠ Y → h23.1 b = h8.1 b := fun b h1 h2 => (t9 b (by omega) h2).trans (k9 b (by omega) h2)
  have t7 : ∀ b, b < Y + 8 → b ≠ Y → h23.1 b = h7.1 b := fun b h1 h2 => (t8 b (by omega) h2).trans (k8 b (by omega) h2)
  have t6 : ∀ b, b < Y + 7 → b ≠ Y → h23.1 b = h6.1 b := fun b h1 h2 => (t7 b (by omega) h2).trans (k7 b (by omega) h2)
  have t5 : ∀ b, b < Y + 6 → b ≠ Y → h23.1 b = h5.1 b := fun b h1 h2 => (t6 b (by omega) h2).trans (k6 b (by omega) h2)
  have t4 : ∀ b, b < Y + 5 → b ≠ Y → h23.1 b = h4.1 b := fun b h1 h2 => (t5 b (by omega) h2).trans (k5 b (by omega) h2)
  have t3 : ∀ b, b < Y + 4 → b ≠ Y → h23.1 b = h3.1 b := fun b h1 h2 => (t4 b (by omega) h2).trans (k4 b (by omega) h2)
  have t2 : ∀ b, b < Y + 3 → b ≠ Y → h23.1 b = h2.1 b := fun b h1 h2 => (t3 b (by omega) h2).trans (k3 b (by omega) h2)
  have t1 : ∀ b, b < Y + 2 → b ≠ Y → h23.1 b = h1.1 b := fun b h1 h2 => (t2 b (by omega) h2).trans (k2 b (by omega) h2)
  have t0 : ∀ b, b < Y → h23.1 b = h.1 b := fun b h1 => (t1 b (by omega) (by omega)).trans (k1 b (by omega) (by omega))
  refine ⟨⟨_, o23⟩, ?_⟩
  show w_R_begin _ Y (nI 8) h23
  refine s_R_begin0 (w := 0) (n := 0) (kc := 0) (th := 0) (ks := ks) (st := st) o23 (by omega) ((t1 _ (by omega) (by omega)).trans x1) ⟨_, _, _, ((t2 _ (by omega) (by omega)).trans x2), ((t3 _ (by omega) (by omega)).trans x3), ((t4 _ (by omega) (by omega)).trans x4), fun i hi => by omega⟩ ⟨_, _, ((t5 _ (by omega) (by omega)).trans x5), ((t6 _ (by omega) (by omega)).trans x6), fun k hk => by omega⟩ ⟨_, _, _, fun _ => false, _, ((t7 _ (by omega) (by omega)).trans x7), ((t8 _ (by omega) (by omega)).trans x8), ((t9 _ (by omega) (by omega)).trans x9), ((t10 _ (by omega) (by omega)).trans x10), ((t11 _ (by omega) (by omega)).trans x11)⟩ ⟨_, _, _, _, _, _, ((t12 _ (by omega) (by omega)).trans x12), ((t13 _ (by omega) (by omega)).trans x13), ((t14 _ (by omega) (by omega)).trans x14), ((t15 _ (by omega) (by omega)).trans x15), ((t16 _ (by omega) (by omega)).trans x16), ((t17 _ (by omega) (by omega)).trans x17)⟩ ⟨_, _, _, ((t18 _ (by omega) (by omega)).trans x18), ((t19 _ (by omega) (by omega)).trans x19), ((t20 _ (by omega) (by omega)).trans x20)⟩ ⟨_, _, _, ((t21 _ (by omega) (by omega)).trans x21), ((t22 _ (by omega) (by omega)).trans x22), x23⟩ (j := 8) (by omega) (by omega) (fun h' i' o' => bs_kV_i (ko h' i' ⟨?_, ?_, ?_, ?_⟩ (fun b hb => (o'.1 b (by omega)).trans (t0 b hb))))
  · rw [o'.2]; exact r23.1
  · have := r23.2.1; rw [o'.2]; omega
  · have := r23.2.2.1; rw [o'.2]; simp only [Nat.sub_sub, Nat.reduceAdd] at this; exact this
  · rw [o'.2]; exact r23.2.2.2
end NI
