/-! The law: all calls. -/
theorem SG.less {X b : Nat} {E : bs_Ev} {h : bs_H} (g : SG X E (b + 1) h) : SG X E b h := by
  obtain ⟨w, f, kc, ks, n, st, th, g0, i, r, ok⟩ := g
  exact ⟨w, f, kc, ks, n, st, th, g0, i, r.less, ok⟩
theorem SG.env {X b : Nat} {E : bs_Ev} {h : bs_H} (g : SG X E b h) : h.2.2.2.2 = E := by
  obtain ⟨w, f, kc, ks, n, st, th, g0, i, r, ok⟩ := g
  exact r.2.2.1
theorem rd_i {E : bs_Ev} {x0 L i : Nat} {xs : Nat → Int32} {j : Int32} (hE : E.1 x0 = some (L, xs)) (hL : L ≤ 2560) (hi : i < L) (hj : j = nI i) : rd E x0 j (xs i) := by
  intro h Q e q
  subst hj
  exact ⟨L, xs, xs i, by rw [e]; exact hE, vp_in_nI hi (by omega), by rw [nI_clamp (by omega)], q⟩
theorem law_loop {X x0 L : Nat} {E : bs_Ev} {xs : Nat → Int32} {h : bs_H} (hL : L ≤ 2560) (hE : E.1 x0 = some (L, xs)) (ht : ∃ tf : Nat → Int32, E.1 E.2 = some (9, tf) ∧ ∀ j, j < 9 → tf j = ([1, 1, 1, 1, 1, 6, 1, 3, 3] : List Int32).getD j 0) (g : SG X E 512 h) : w_L_law_23 (fun r _ => r = .ok (some (.int 1))) 1000 x0 X (X + 38) (X + 62) 0 h := by
  show w_L_law_23 (fun r _ => r = .ok (some (.int 1))) 1000 x0 X (X + 38) (X + 62) (nI (5 * 0)) h
  have cmp : ∀ k, k ≤ 512 → (nI L - 5 < nI (5 * k) ↔ ¬ 5 * k + 5 ≤ L) := by
    intro k hk
    rw [Int32.lt_iff_toInt_lt, show (5 : Int32) = nI 5 from rfl, pk_sub_toInt (by omega) (by omega), nI_toInt (by omega)]
    omega
  refine bs_for (σ := bs_H) (fun u k H => w_L_law_23 (fun r _ => r = .ok (some (.int 1))) u x0 X (X + 38) (X + 62) (nI (5 * k)) H) (fun k H => SG X E (512 - k) H) (L / 5) ?_ ?_ (L / 5) 0 h 1000 (by omega) (by omega) g
  · intro u k H hk g nx
    rw [show 512 - k = (511 - k) + 1 by omega] at g
    have e := g.env
    have r0 : rd E x0 (nI (5 * k)) (xs (5 * k)) := rd_i hE hL (by omega) rfl
    have r1 : rd E x0 (nI (5 * k) + 1) (xs (5 * k + 1)) := rd_i hE hL (by omega) (nI_add (5 * k) 1)
    have r2 : rd E x0 (nI (5 * k) + 2) (xs (5 * k + 2)) := rd_i hE hL (by omega) (nI_add (5 * k) 2)
    have r3 : rd E x0 (nI (5 * k) + 3) (xs (5 * k + 3)) := rd_i hE hL (by omega) (nI_add (5 * k) 3)
    have r4 : rd E x0 (nI (5 * k) + 4) (xs (5 * k + 4)) := rd_i hE hL (by omega) (nI_add (5 * k) 4)
    have n5 : nI (5 * k) + 5 = nI (5 * (k + 1)) := nI_add (5 * k) 5
    have nn : ∀ h', SG X E (511 - k) h' → w_L_law_23 (fun r _ => r = .ok (some (.int 1))) u x0 X (X + 38) (X + 62) (nI (5 * k) + 5) h' := by
      intro h' s'
      rw [n5]
      exact nx h' (by rw [show 512 - (k + 1) = 511 - k by omega]; exact s')
    refine ⟨L, xs, nI L, by rw [e]; exact hE, rfl, bs_iff (fun q => (cmp k (by omega)).mp q (by omega)) (r0 H _ e ?_)⟩
    refine bs_ifc (fun _ => law_0 g r1 nn) (fun _ => bs_ifc (fun _ => law_1 g r1 r2 nn) (fun _ => bs_ifc (fun _ => law_2 g r1 nn) (fun _ => bs_ifc (fun _ => law_3 g r1 nn) (fun _ => bs_ifc (fun _ => law_4 g nn) (fun _ => bs_ifc (fun _ => law_5 g r1 r2 nn) (fun _ => ?_))))))
    refine bs_ifc (fun _ => law_6 g r1 nn) (fun _ => bs_ifc (fun _ => law_7 g r1 r2 r3 r4 nn) (fun _ => bs_ifc (fun _ => law_8 g r1 r2 nn) (fun _ => bs_ifc (fun _ => law_9 g r1 r2 nn) (fun _ => bs_ifc (fun _ => law_10 g nn) (fun _ => bs_ifc (fun _ => law_11 g r1 nn) (fun _ => ?_))))))
    exact bs_ifc (fun _ => law_12 g r1 nn) (fun _ => bs_ifc (fun _ => law_13 g ht nn) (fun _ => bs_ifc (fun _ => law_14 g nn) (fun _ => bs_ifc (fun _ => law_15 g r1 nn) (fun _ => bs_ifc (fun _ => law_16 g nn) (fun _ => bs_ifc (fun _ => law_17 g nn) (fun _ => nn H g.less))))))
  · intro u H g
    have e := g.env
    exact ⟨L, xs, nI L, by rw [e]; exact hE, rfl, bs_ift ((cmp (L / 5) (by omega)).mpr (by omega)) ⟨rfl, rfl⟩⟩
