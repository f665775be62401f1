theorem main_law {b n0 L : Nat} {xs : Nat → Int32} (hL : L ≤ 2560) {h : bs_H} (h0 : ∀ a, h.1 a = none) (h1 : h.2.1 = some n0) (h2 : h.2.2.1 = 601024) (h3 : h.2.2.2.1 = 7293034) (h4 : h.2.2.2.2.1 b = some (L, xs)) (h5 : ∃ f : Nat → Int32, h.2.2.2.2.1 h.2.2.2.2.2 = some (9, f) ∧ ∀ j, j < 9 → f j = ([1, 1, 1, 1, 1, 6, 1, 3, 3] : List Int32).getD j 0) : w_L_law (fun r _ => r = .ok (some (.int 1))) b h := by
  have r : room h n0 601024 7293034 h.2.2.2.2 := ⟨h1, by omega, by omega, rfl⟩
  refine nO_i r (by omega) (by omega) (fun r1 => ?_)
  refine s_B_init (ks := fun _ => (0, fun _ => 0)) (st := fun _ => (0, 0, 0)) bs_push_eq r1 (by omega) (by omega) (fun hB iB rB kB => bs_kV_i ?_)
  refine nO_i rB (by omega) (by omega) (fun r2 => ?_)
  refine s_R_init (ks := fun _ => (0, fun _ => 0)) (st := fun _ => (0, 0, 0)) bs_push_eq r2 (by omega) (by omega) (fun hR iR rR kR => bs_kV_i ?_)
  refine nA_i rR (by omega) (by omega) (fun r3 => ?_)
  have iC : IC n0 8 (fun k => k) 0 (fun _ => (0, fun _ => 0)) 0 (fun _ => (0, 0, 0)) (bs_push hR (n0 + 38 + 24) 1 (bs_la 1 fun _ => 0)) := iB.kept (fun x _ _ => by rw [bs_push_ne (by omega), kR x (by omega), bs_push_ne (by omega)])
  have iR2 : IR (n0 + 38) 0 8 (fun k => k) 0 (fun _ => (0, fun _ => 0)) 0 (fun _ => (0, 0, 0)) (bs_push hR (n0 + 38 + 24) 1 (bs_la 1 fun _ => 0)) := iR.kept (fun x _ _ => bs_push_ne (by omega))
  refine law_loop hL h4 h5 ⟨8, _, 0, _, 0, _, 0, fun _ => 0, iC, ⟨iR2, bs_push_eq, r3.2.2.2, ?_, ?_⟩, fun z hz => absurd hz (Nat.not_lt_zero z)⟩
  · have := r3.2.1; omega
  · have := r3.2.2.1; omega
