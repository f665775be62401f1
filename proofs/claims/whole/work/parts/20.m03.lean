/-! Decode rows, meanings and rows of: X_lowerPlaces, P_appendSwap, X_divideBlocks, X_write, G_put, G_write, P_length, B_make, L_make, R_isPermutation. Written by program. -/
theorem d_X_lowerPlaces_0 : decode prog_5_method_5_code 0 = .ok (.lconst 0, 1) := by decide +kernel
theorem d_X_lowerPlaces_1 : decode prog_5_method_5_code 1 = .ok (.lstore 4, 2) := by decide +kernel
theorem d_X_lowerPlaces_3 : decode prog_5_method_5_code 3 = .ok (.iconst 0, 1) := by decide +kernel
theorem d_X_lowerPlaces_4 : decode prog_5_method_5_code 4 = .ok (.istore 6, 2) := by decide +kernel
theorem d_X_lowerPlaces_6 : decode prog_5_method_5_code 6 = .ok (.iload 6, 2) := by decide +kernel
theorem d_X_lowerPlaces_8 : decode prog_5_method_5_code 8 = .ok (.aload_n 0, 1) := by decide +kernel
theorem d_X_lowerPlaces_9 : decode prog_5_method_5_code 9 = .ok (.getfield 22, 3) := by decide +kernel
theorem d_X_lowerPlaces_12 : decode prog_5_method_5_code 12 = .ok (.if_icmp .ge 34, 3) := by decide +kernel
theorem d_X_lowerPlaces_15 : decode prog_5_method_5_code 15 = .ok (.iload 6, 2) := by decide +kernel
theorem d_X_lowerPlaces_17 : decode prog_5_method_5_code 17 = .ok (.iload_n 3, 1) := by decide +kernel
theorem d_X_lowerPlaces_18 : decode prog_5_method_5_code 18 = .ok (.iand, 1) := by decide +kernel
theorem d_X_lowerPlaces_19 : decode prog_5_method_5_code 19 = .ok (.ifCond .ne 21, 3) := by decide +kernel
theorem d_X_lowerPlaces_22 : decode prog_5_method_5_code 22 = .ok (.lload_n 1, 1) := by decide +kernel
theorem d_X_lowerPlaces_23 : decode prog_5_method_5_code 23 = .ok (.iload 6, 2) := by decide +kernel
theorem d_X_lowerPlaces_25 : decode prog_5_method_5_code 25 = .ok (.invokestatic 70, 3) := by decide +kernel
theorem d_X_lowerPlaces_28 : decode prog_5_method_5_code 28 = .ok (.ifCond .eq 12, 3) := by decide +kernel
theorem d_X_lowerPlaces_31 : decode prog_5_method_5_code 31 = .ok (.lload 4, 2) := by decide +kernel
theorem d_X_lowerPlaces_33 : decode prog_5_method_5_code 33 = .ok (.lconst 1, 1) := by decide +kernel
theorem d_X_lowerPlaces_34 : decode prog_5_method_5_code 34 = .ok (.iload 6, 2) := by decide +kernel
theorem d_X_lowerPlaces_36 : decode prog_5_method_5_code 36 = .ok (.lshl, 1) := by decide +kernel
theorem d_X_lowerPlaces_37 : decode prog_5_method_5_code 37 = .ok (.lor, 1) := by decide +kernel
theorem d_X_lowerPlaces_38 : decode prog_5_method_5_code 38 = .ok (.lstore 4, 2) := by decide +kernel
theorem d_X_lowerPlaces_40 : decode prog_5_method_5_code 40 = .ok (.iinc 6 1, 3) := by decide +kernel
theorem d_X_lowerPlaces_43 : decode prog_5_method_5_code 43 = .ok (.goto (-37), 3) := by decide +kernel
theorem d_X_lowerPlaces_46 : decode prog_5_method_5_code 46 = .ok (.lload 4, 2) := by decide +kernel
theorem d_X_lowerPlaces_48 : decode prog_5_method_5_code 48 = .ok (.lreturn, 1) := by decide +kernel
def w_X_lowerPlaces_40 (Φ : bs_R → bs_H → Prop) (nx6 : Nat → Int64 → Int32 → Int64 → Int32 → bs_H → Prop) (x0 : Nat) (x1 : Int64) (x3 : Int32) (x4 : Int64) (x6 : Int32) (h : bs_H) : Prop :=
  nx6 x0 x1 x3 x4 (x6 + 1) h
def w_X_lowerPlaces_6_s (Φ : bs_R → bs_H → Prop) (nx6 : Nat → Int64 → Int32 → Int64 → Int32 → bs_H → Prop) (x0 : Nat) (x1 : Int64) (x3 : Int32) (x4 : Int64) (x6 : Int32) (h : bs_H) : Prop :=
  bs_fI h x0 5 3 (fun v1 => bs_if (v1 ≤ x6) (Φ (.ok (some (.long x4))) h) (bs_if ((x6 &&& x3) = 0) (w_B_holds (bs_kI Φ fun v2 h3 => (bs_if (v2 = 0) (w_X_lowerPlaces_40 Φ nx6 x0 x1 x3 x4 x6 h3) (w_X_lowerPlaces_40 Φ nx6 x0 x1 x3 (x4 ||| (bs_shl 1 x6)) x6 h3))) x1 x6 h) (w_X_lowerPlaces_40 Φ nx6 x0 x1 x3 x4 x6 h)))
def w_X_lowerPlaces_6 (Φ : bs_R → bs_H → Prop) : Nat → Nat → Int64 → Int32 → Int64 → Int32 → bs_H → Prop
  | 0 => fun _ _ _ _ _ _ => False
  | n + 1 => fun x0 x1 x3 x4 x6 h => w_X_lowerPlaces_6_s Φ (w_X_lowerPlaces_6 Φ n) x0 x1 x3 x4 x6 h
def w_X_lowerPlaces (Φ : bs_R → bs_H → Prop) (x0 : Nat) (x1 : Int64) (x3 : Int32) (h : bs_H) : Prop :=
  w_X_lowerPlaces_6 Φ 1000 x0 x1 x3 0 0 h
theorem m_X_lowerPlaces_40 {l : Launch} {R : Room} {Φ : bs_R → bs_H → Prop} (hR : bs_rm 2 R) {nx6 : Nat → Int64 → Int32 → Int64 → Int32 → bs_H → Prop} (hnx6 : ∀ (x0 : Nat) (x1 : Int64) (x3 : Int32) (x4 : Int64) (x6 : Int32) (h : bs_H), nx6 x0 x1 x3 x4 x6 h → bs_J l K_X_lowerPlaces R Φ 6 [(0, .ref x0), (1, .long x1), (3, .int x3), (4, .long x4), (6, .int x6)] [] h) {x0 : Nat} {x1 : Int64} {x3 : Int32} {x4 : Int64} {x6 : Int32} {h : bs_H} (hw : w_X_lowerPlaces_40 Φ nx6 x0 x1 x3 x4 x6 h) : bs_J l K_X_lowerPlaces R Φ 40 [(0, .ref x0), (1, .long x1), (3, .int x3), (4, .long x4), (6, .int x6)] [] h := by
  unfold w_X_lowerPlaces_40 at hw
  refine bj_iinc (pc := 40) (v := (x6 + 1)) (lo' := [(6, .int (x6 + 1)), (0, .ref x0), (1, .long x1), (3, .int x3), (4, .long x4)]) 4 d_X_lowerPlaces_40 rfl rfl (by decide) rfl ?_
  refine bj_goto (pc := 43) (tgt := 6) d_X_lowerPlaces_43 (by decide) ?_
  refine bj_sub [1, 2, 3, 4, 0] (lo' := [(0, .ref x0), (1, .long x1), (3, .int x3), (4, .long x4), (6, .int (x6 + 1))]) rfl ?_
  exact hnx6 _ _ _ _ _ _ hw
theorem m_X_lowerPlaces_6 {l : Launch} {R : Room} {Φ : bs_R → bs_H → Prop} (hR : bs_rm 2 R) : ∀ (n : Nat) (x0 : Nat) (x1 : Int64) (x3 : Int32) (x4 : Int64) (x6 : Int32) (h : bs_H), w_X_lowerPlaces_6 Φ n x0 x1 x3 x4 x6 h → bs_J l K_X_lowerPlaces R Φ 6 [(0, .ref x0), (1, .long x1), (3, .int x3), (4, .long x4), (6, .int x6)] [] h := by
  intro n
  induction n with
  | zero => intro x0 x1 x3 x4 x6 h hw; exact hw.elim
  | succ n ih =>
    have hnx6 := ih
    intro x0 x1 x3 x4 x6 h hw
    replace hw : w_X_lowerPlaces_6_s Φ (w_X_lowerPlaces_6 Φ n) x0 x1 x3 x4 x6 h := hw
    unfold w_X_lowerPlaces_6_s at hw
    refine bj_iload (pc := 6) 4 d_X_lowerPlaces_6 rfl ?_
    refine bj_aload_n (pc := 8) 0 d_X_lowerPlaces_8 rfl rfl ?_
    obtain ⟨fs, v1, hx, hv, hw⟩ := hw
    refine bj_get (pc := 9) (ci := 5) (k := 3) (fs := fs) (v := .int v1) d_X_lowerPlaces_9 rfl (by decide) q_157 hx hv ?_
    refine bj_icmp_ge (pc := 12) (tgt := 46) d_X_lowerPlaces_12 (by decide) (fun hc => ?_) (fun hc => ?_)
    · replace hw := hw.1 hc
      refine bj_lload (pc := 46) 3 d_X_lowerPlaces_46 rfl ?_
      exact bj_lret (pc := 48) d_X_lowerPlaces_48 rfl hw
    · replace hw := hw.2 hc
      refine bj_iload (pc := 15) 4 d_X_lowerPlaces_15 rfl ?_
      refine bj_iload_n (pc := 17) 2 d_X_lowerPlaces_17 rfl rfl ?_
      refine bj_iand (pc := 18) d_X_lowerPlaces_18 ?_
      refine bj_if_ne (pc := 19) (tgt := 40) d_X_lowerPlaces_19 (by decide) (fun hc => ?_) (fun hc => ?_)
      · replace hw := hw.2 hc
        exact m_X_lowerPlaces_40 hR hnx6 hw
      · replace hw := hw.1 hc
        refine bj_lload_n (pc := 22) 1 d_X_lowerPlaces_22 rfl rfl ?_
        refine bj_iload (pc := 23) 4 d_X_lowerPlaces_23 rfl ?_
        refine bj_callS (pc := 25) (np := 2) (K' := K_B_holds) (argsL := [.long x1, .int x6]) (st := []) (d1 := 1) rfl d_X_lowerPlaces_25 (Or.inr ⟨_, q_564⟩) q_277 q_46 c_B_holds n_B_holds hR (by decide) (by decide) rfl (Nat.le_of_ble_eq_true rfl) rfl (Nat.le_of_ble_eq_true rfl) (fun R' hR' => m_B_holds hR' hw) (bs_kI_ok fun v2 h3 hw => ?_) (fun _ _ z => z)
        refine bj_if_eq (pc := 28) (tgt := 40) d_X_lowerPlaces_28 (by decide) (fun hc => ?_) (fun hc => ?_)
        · replace hw := hw.1 hc
          exact m_X_lowerPlaces_40 hR hnx6 hw
        · replace hw := hw.2 hc
          refine bj_lload (pc := 31) 3 d_X_lowerPlaces_31 rfl ?_
          refine bj_lconst (pc := 33) (v := 1) d_X_lowerPlaces_33 (by decide) ?_
          refine bj_iload (pc := 34) 4 d_X_lowerPlaces_34 rfl ?_
          refine bj_lshl (pc := 36) d_X_lowerPlaces_36 ?_
          refine bj_lor (pc := 37) d_X_lowerPlaces_37 ?_
          refine bj_lstore (pc := 38) (lo' := [(4, .long (x4 ||| (bs_shl 1 x6))), (0, .ref x0), (1, .long x1), (3, .int x3), (6, .int x6)]) d_X_lowerPlaces_38 (by decide) rfl ?_
          refine bj_sub [1, 2, 3, 0, 4] (lo' := [(0, .ref x0), (1, .long x1), (3, .int x3), (4, .long (x4 ||| (bs_shl 1 x6))), (6, .int x6)]) rfl ?_
          exact m_X_lowerPlaces_40 hR hnx6 hw
theorem m_X_lowerPlaces {l : Launch} {R : Room} (hR : bs_rm 2 R) {Φ : bs_R → bs_H → Prop} {x0 : Nat} {x1 : Int64} {x3 : Int32} {h : bs_H} (hw : w_X_lowerPlaces Φ x0 x1 x3 h) : bs_J l K_X_lowerPlaces R Φ 0 [(0, .ref x0), (1, .long x1), (3, .int x3)] [] h := by
  unfold w_X_lowerPlaces at hw
  refine bj_lconst (pc := 0) (v := 0) d_X_lowerPlaces_0 (by decide) ?_
  refine bj_lstore (pc := 1) (lo' := [(4, .long 0), (0, .ref x0), (1, .long x1), (3, .int x3)]) d_X_lowerPlaces_1 (by decide) rfl ?_
  refine bj_iconst (pc := 3) (v := 0) d_X_lowerPlaces_3 (by decide) ?_
  refine bj_istore (pc := 4) (lo' := [(6, .int 0), (4, .long 0), (0, .ref x0), (1, .long x1), (3, .int x3)]) d_X_lowerPlaces_4 (by decide) rfl ?_
  refine bj_sub [2, 3, 4, 1, 0] (lo' := [(0, .ref x0), (1, .long x1), (3, .int x3), (4, .long 0), (6, .int 0)]) rfl ?_
  exact m_X_lowerPlaces_6 hR 1000 _ _ _ _ _ _ hw
theorem d_P_appendSwap_0 : decode prog_4_method_11_code 0 = .ok (.lload_n 2, 1) := by decide +kernel
theorem d_P_appendSwap_1 : decode prog_4_method_11_code 1 = .ok (.lconst 0, 1) := by decide +kernel
theorem d_P_appendSwap_2 : decode prog_4_method_11_code 2 = .ok (.lcmp, 1) := by decide +kernel
theorem d_P_appendSwap_3 : decode prog_4_method_11_code 3 = .ok (.ifCond .eq 10, 3) := by decide +kernel
theorem d_P_appendSwap_6 : decode prog_4_method_11_code 6 = .ok (.aload_n 0, 1) := by decide +kernel
theorem d_P_appendSwap_7 : decode prog_4_method_11_code 7 = .ok (.iconst 5, 1) := by decide +kernel
theorem d_P_appendSwap_8 : decode prog_4_method_11_code 8 = .ok (.iload_n 1, 1) := by decide +kernel
theorem d_P_appendSwap_9 : decode prog_4_method_11_code 9 = .ok (.lload_n 2, 1) := by decide +kernel
theorem d_P_appendSwap_10 : decode prog_4_method_11_code 10 = .ok (.invokevirtual 30, 3) := by decide +kernel
theorem d_P_appendSwap_13 : decode prog_4_method_11_code 13 = .ok (.return_, 1) := by decide +kernel
def w_P_appendSwap_13 (Φ : bs_R → bs_H → Prop) (h : bs_H) : Prop :=
  Φ (.ok none) h
def w_P_appendSwap (Φ : bs_R → bs_H → Prop) (x0 : Nat) (x1 : Int32) (x2 : Int64) (h : bs_H) : Prop :=
  bs_if (x2 = 0) (w_P_appendSwap_13 Φ h) (bs_on h x0 2 (w_P_append (bs_kV Φ fun h1 => (w_P_appendSwap_13 Φ h1)) x0 5 x1 x2 h))
theorem m_P_appendSwap_13 {l : Launch} {R : Room} {Φ : bs_R → bs_H → Prop} (hR : bs_rm 3 R) {h : bs_H} (hw : w_P_appendSwap_13 Φ h) : bs_J l K_P_appendSwap R Φ 13 [] [] h := by
  unfold w_P_appendSwap_13 at hw
  exact bj_vret (pc := 13) d_P_appendSwap_13 rfl hw
theorem m_P_appendSwap {l : Launch} {R : Room} (hR : bs_rm 3 R) {Φ : bs_R → bs_H → Prop} {x0 : Nat} {x1 : Int32} {x2 : Int64} {h : bs_H} (hw : w_P_appendSwap Φ x0 x1 x2 h) : bs_J l K_P_appendSwap R Φ 0 [(0, .ref x0), (1, .int x1), (2, .long x2)] [] h := by
  unfold w_P_appendSwap at hw
  refine bj_lload_n (pc := 0) 2 d_P_appendSwap_0 rfl rfl ?_
  refine bj_lconst (pc := 1) (v := 0) d_P_appendSwap_1 (by decide) ?_
  refine bj_lc_eq (pc := 2) (tgt := 13) d_P_appendSwap_2 d_P_appendSwap_3 (by decide) (fun hc => ?_) (fun hc => ?_)
  · replace hw := hw.1 hc
    refine bj_sub [] (lo' := []) rfl ?_
    exact m_P_appendSwap_13 hR hw
  · replace hw := hw.2 hc
    refine bj_aload_n (pc := 6) 0 d_P_appendSwap_6 rfl rfl ?_
    refine bj_iconst (pc := 7) (v := 5) d_P_appendSwap_7 (by decide) ?_
    refine bj_iload_n (pc := 8) 1 d_P_appendSwap_8 rfl rfl ?_
    refine bj_lload_n (pc := 9) 2 d_P_appendSwap_9 rfl rfl ?_
    obtain ⟨⟨fs, hx⟩, hw⟩ := hw
    refine bj_callV (pc := 10) (np := 3) (K' := K_P_append) (argsL := [.int 5, .int x1, .long x2]) (st := []) (d1 := 2) (ci := 2) (fs := fs) rfl d_P_appendSwap_10 (Or.inl q_528) q_529 rfl q_530 c_P_append n_P_append hR (by decide) (by decide) rfl (Nat.le_of_ble_eq_true rfl) rfl (Nat.le_of_ble_eq_true rfl) hx (fun R' hR' => m_P_append hR' hw) (bs_kV_ok fun h1 hw => ?_) (fun _ _ z => z)
    refine bj_sub [] (lo' := []) rfl ?_
    exact m_P_appendSwap_13 hR hw
theorem d_X_divideBlocks_0 : decode prog_5_method_6_code 0 = .ok (.iconst 0, 1) := by decide +kernel
theorem d_X_divideBlocks_1 : decode prog_5_method_6_code 1 = .ok (.istore_n 2, 1) := by decide +kernel
theorem d_X_divideBlocks_2 : decode prog_5_method_6_code 2 = .ok (.iload_n 2, 1) := by decide +kernel
theorem d_X_divideBlocks_3 : decode prog_5_method_6_code 3 = .ok (.aload_n 0, 1) := by decide +kernel
theorem d_X_divideBlocks_4 : decode prog_5_method_6_code 4 = .ok (.getfield 22, 3) := by decide +kernel
theorem d_X_divideBlocks_7 : decode prog_5_method_6_code 7 = .ok (.if_icmp .ge 84, 3) := by decide +kernel
theorem d_X_divideBlocks_10 : decode prog_5_method_6_code 10 = .ok (.iload_n 2, 1) := by decide +kernel
theorem d_X_divideBlocks_11 : decode prog_5_method_6_code 11 = .ok (.iload_n 1, 1) := by decide +kernel
theorem d_X_divideBlocks_12 : decode prog_5_method_6_code 12 = .ok (.iand, 1) := by decide +kernel
theorem d_X_divideBlocks_13 : decode prog_5_method_6_code 13 = .ok (.ifCond .ne 72, 3) := by decide +kernel
theorem d_X_divideBlocks_16 : decode prog_5_method_6_code 16 = .ok (.aload_n 0, 1) := by decide +kernel
theorem d_X_divideBlocks_17 : decode prog_5_method_6_code 17 = .ok (.getfield 53, 3) := by decide +kernel
theorem d_X_divideBlocks_20 : decode prog_5_method_6_code 20 = .ok (.iload_n 2, 1) := by decide +kernel
theorem d_X_divideBlocks_21 : decode prog_5_method_6_code 21 = .ok (.invokestatic 70, 3) := by decide +kernel
theorem d_X_divideBlocks_24 : decode prog_5_method_6_code 24 = .ok (.istore_n 3, 1) := by decide +kernel
theorem d_X_divideBlocks_25 : decode prog_5_method_6_code 25 = .ok (.aload_n 0, 1) := by decide +kernel
theorem d_X_divideBlocks_26 : decode prog_5_method_6_code 26 = .ok (.getfield 9, 3) := by decide +kernel
theorem d_X_divideBlocks_29 : decode prog_5_method_6_code 29 = .ok (.iload_n 3, 1) := by decide +kernel
theorem d_X_divideBlocks_30 : decode prog_5_method_6_code 30 = .ok (.ifCond .eq 9, 3) := by decide +kernel
theorem d_X_divideBlocks_33 : decode prog_5_method_6_code 33 = .ok (.iload_n 2, 1) := by decide +kernel
theorem d_X_divideBlocks_34 : decode prog_5_method_6_code 34 = .ok (.iload_n 1, 1) := by decide +kernel
theorem d_X_divideBlocks_35 : decode prog_5_method_6_code 35 = .ok (.ixor, 1) := by decide +kernel
theorem d_X_divideBlocks_36 : decode prog_5_method_6_code 36 = .ok (.goto 4, 3) := by decide +kernel
theorem d_X_divideBlocks_39 : decode prog_5_method_6_code 39 = .ok (.iload_n 2, 1) := by decide +kernel
theorem d_X_divideBlocks_40 : decode prog_5_method_6_code 40 = .ok (.iaload, 1) := by decide +kernel
theorem d_X_divideBlocks_41 : decode prog_5_method_6_code 41 = .ok (.istore 4, 2) := by decide +kernel
theorem d_X_divideBlocks_43 : decode prog_5_method_6_code 43 = .ok (.aload_n 0, 1) := by decide +kernel
theorem d_X_divideBlocks_44 : decode prog_5_method_6_code 44 = .ok (.getfield 9, 3) := by decide +kernel
theorem d_X_divideBlocks_47 : decode prog_5_method_6_code 47 = .ok (.iload_n 3, 1) := by decide +kernel
theorem d_X_divideBlocks_48 : decode prog_5_method_6_code 48 = .ok (.ifCond .eq 7, 3) := by decide +kernel
theorem d_X_divideBlocks_51 : decode prog_5_method_6_code 51 = .ok (.iload_n 2, 1) := by decide +kernel
theorem d_X_divideBlocks_52 : decode prog_5_method_6_code 52 = .ok (.goto 6, 3) := by decide +kernel
theorem d_X_divideBlocks_55 : decode prog_5_method_6_code 55 = .ok (.iload_n 2, 1) := by decide +kernel
theorem d_X_divideBlocks_56 : decode prog_5_method_6_code 56 = .ok (.iload_n 1, 1) := by decide +kernel
theorem d_X_divideBlocks_57 : decode prog_5_method_6_code 57 = .ok (.ixor, 1) := by decide +kernel
theorem d_X_divideBlocks_58 : decode prog_5_method_6_code 58 = .ok (.iaload, 1) := by decide +kernel
theorem d_X_divideBlocks_59 : decode prog_5_method_6_code 59 = .ok (.istore 5, 2) := by decide +kernel
theorem d_X_divideBlocks_61 : decode prog_5_method_6_code 61 = .ok (.aload_n 0, 1) := by decide +kernel
theorem d_X_divideBlocks_62 : decode prog_5_method_6_code 62 = .ok (.getfield 9, 3) := by decide +kernel
theorem d_X_divideBlocks_65 : decode prog_5_method_6_code 65 = .ok (.iload_n 2, 1) := by decide +kernel
theorem d_X_divideBlocks_66 : decode prog_5_method_6_code 66 = .ok (.iload 4, 2) := by decide +kernel
theorem d_X_divideBlocks_68 : decode prog_5_method_6_code 68 = .ok (.iload_n 1, 1) := by decide +kernel
theorem d_X_divideBlocks_69 : decode prog_5_method_6_code 69 = .ok (.iconst (-1), 1) := by decide +kernel
theorem d_X_divideBlocks_70 : decode prog_5_method_6_code 70 = .ok (.ixor, 1) := by decide +kernel
theorem d_X_divideBlocks_71 : decode prog_5_method_6_code 71 = .ok (.iand, 1) := by decide +kernel
theorem d_X_divideBlocks_72 : decode prog_5_method_6_code 72 = .ok (.iastore, 1) := by decide +kernel
theorem d_X_divideBlocks_73 : decode prog_5_method_6_code 73 = .ok (.aload_n 0, 1) := by decide +kernel
theorem d_X_divideBlocks_74 : decode prog_5_method_6_code 74 = .ok (.getfield 9, 3) := by decide +kernel
theorem d_X_divideBlocks_77 : decode prog_5_method_6_code 77 = .ok (.iload_n 2, 1) := by decide +kernel
theorem d_X_divideBlocks_78 : decode prog_5_method_6_code 78 = .ok (.iload_n 1, 1) := by decide +kernel
theorem d_X_divideBlocks_79 : decode prog_5_method_6_code 79 = .ok (.ixor, 1) := by decide +kernel
theorem d_X_divideBlocks_80 : decode prog_5_method_6_code 80 = .ok (.iload 5, 2) := by decide +kernel
theorem d_X_divideBlocks_82 : decode prog_5_method_6_code 82 = .ok (.iload_n 1, 1) := by decide +kernel
theorem d_X_divideBlocks_83 : decode prog_5_method_6_code 83 = .ok (.ior, 1) := by decide +kernel
theorem d_X_divideBlocks_84 : decode prog_5_method_6_code 84 = .ok (.iastore, 1) := by decide +kernel
theorem d_X_divideBlocks_85 : decode prog_5_method_6_code 85 = .ok (.iinc 2 1, 3) := by decide +kernel
theorem d_X_divideBlocks_88 : decode prog_5_method_6_code 88 = .ok (.goto (-86), 3) := by decide +kernel
theorem d_X_divideBlocks_91 : decode prog_5_method_6_code 91 = .ok (.return_, 1) := by decide +kernel
def w_X_divideBlocks_85 (Φ : bs_R → bs_H → Prop) (nx2 : Nat → Int32 → Int32 → bs_H → Prop) (x0 : Nat) (x1 : Int32) (x2 : Int32) (h : bs_H) : Prop :=
  nx2 x0 x1 (x2 + 1) h
def w_X_divideBlocks_58 (Φ : bs_R → bs_H → Prop) (nx2 : Nat → Int32 → Int32 → bs_H → Prop) (x0 : Nat) (x1 : Int32) (x2 : Int32) (x4 : Int32) (s0 : Nat) (s1 : Int32) (h : bs_H) : Prop :=
  bs_lI h s0 s1 (fun v1 => bs_fA h x0 5 0 (fun v2 => bs_sI h v2 x2 (x4 &&& (x1 ^^^ (-1))) (fun h3 => bs_fA h3 x0 5 0 (fun v4 => bs_sI h3 v4 (x2 ^^^ x1) (v1 ||| x1) (fun h5 => w_X_divideBlocks_85 Φ nx2 x0 x1 x2 h5)))))
def w_X_divideBlocks_40 (Φ : bs_R → bs_H → Prop) (nx2 : Nat → Int32 → Int32 → bs_H → Prop) (x0 : Nat) (x1 : Int32) (x2 : Int32) (x3 : Int32) (s0 : Nat) (s1 : Int32) (h : bs_H) : Prop :=
  bs_lI h s0 s1 (fun v1 => bs_fA h x0 5 0 (fun v2 => bs_if (x3 = 0) (w_X_divideBlocks_58 Φ nx2 x0 x1 x2 v1 v2 (x2 ^^^ x1) h) (w_X_divideBlocks_58 Φ nx2 x0 x1 x2 v1 v2 x2 h)))
def w_X_divideBlocks_2_s (Φ : bs_R → bs_H → Prop) (nx2 : Nat → Int32 → Int32 → bs_H → Prop) (x0 : Nat) (x1 : Int32) (x2 : Int32) (h : bs_H) : Prop :=
  bs_fI h x0 5 3 (fun v1 => bs_if (v1 ≤ x2) (Φ (.ok none) h) (bs_if ((x2 &&& x1) = 0) (bs_fL h x0 5 6 (fun v2 => w_B_holds (bs_kI Φ fun v3 h4 => (bs_fA h4 x0 5 0 (fun v5 => bs_if (v3 = 0) (w_X_divideBlocks_40 Φ nx2 x0 x1 x2 v3 v5 x2 h4) (w_X_divideBlocks_40 Φ nx2 x0 x1 x2 v3 v5 (x2 ^^^ x1) h4)))) v2 x2 h)) (w_X_divideBlocks_85 Φ nx2 x0 x1 x2 h)))
def w_X_divideBlocks_2 (Φ : bs_R → bs_H → Prop) : Nat → Nat → Int32 → Int32 → bs_H → Prop
  | 0 => fun _ _ _ _ => False
  | n + 1 => fun x0 x1 x2 h => w_X_divideBlocks_2_s Φ (w_X_divideBlocks_2 Φ n) x0 x1 x2 h
def w_X_divideBlocks (Φ : bs_R → bs_H → Prop) (x0 : Nat) (x1 : Int32) (h : bs_H) : Prop :=
  w_X_divideBlocks_2 Φ 1000 x0 x1 0 h
theorem m_X_divideBlocks_85 {l : Launch} {R : Room} {Φ : bs_R → bs_H → Prop} (hR : bs_rm 2 R) {nx2 : Nat → Int32 → Int32 → bs_H → Prop} (hnx2 : ∀ (x0 : Nat) (x1 : Int32) (x2 : Int32) (h : bs_H), nx2 x0 x1 x2 h → bs_J l K_X_divideBlocks R Φ 2 [(0, .ref x0), (1, .int x1), (2, .int x2)] [] h) {x0 : Nat} {x1 : Int32} {x2 : Int32} {h : bs_H} (hw : w_X_divideBlocks_85 Φ nx2 x0 x1 x2 h) : bs_J l K_X_divideBlocks R Φ 85 [(0, .ref x0), (1, .int x1), (2, .int x2)] [] h := by
  unfold w_X_divideBlocks_85 at hw
  refine bj_iinc (pc := 85) (v := (x2 + 1)) (lo' := [(2, .int (x2 + 1)), (0, .ref x0), (1, .int x1)]) 2 d_X_divideBlocks_85 rfl rfl (by decide) rfl ?_
  refine bj_goto (pc := 88) (tgt := 2) d_X_divideBlocks_88 (by decide) ?_
  refine bj_sub [1, 2, 0] (lo' := [(0, .ref x0), (1, .int x1), (2, .int (x2 + 1))]) rfl ?_
  exact hnx2 _ _ _ _ hw
theorem m_X_divideBlocks_58 {l : Launch} {R : Room} {Φ : bs_R → bs_H → Prop} (hR : bs_rm 2 R) {nx2 : Nat → Int32 → Int32 → bs_H → Prop} (hnx2 : ∀ (x0 : Nat) (x1 : Int32) (x2 : Int32) (h : bs_H), nx2 x0 x1 x2 h → bs_J l K_X_divideBlocks R Φ 2 [(0, .ref x0), (1, .int x1), (2, .int x2)] [] h) {x0 : Nat} {x1 : Int32} {x2 : Int32} {x4 : Int32} {s0 : Nat} {s1 : Int32} {h : bs_H} (hw : w_X_divideBlocks_58 Φ nx2 x0 x1 x2 x4 s0 s1 h) : bs_J l K_X_divideBlocks R Φ 58 [(0, .ref x0), (1, .int x1), (2, .int x2), (4, .int x4)] [.int s1, .ref s0] h := by
  unfold w_X_divideBlocks_58 at hw
  obtain ⟨n, f, v1, hx, hin, hv, hw⟩ := hw
  refine bj_iald (pc := 58) (n := n) (f := f) d_X_divideBlocks_58 hx hin hv ?_
  refine bj_istore (pc := 59) (lo' := [(5, .int v1), (0, .ref x0), (1, .int x1), (2, .int x2), (4, .int x4)]) d_X_divideBlocks_59 (by decide) rfl ?_
  refine bj_aload_n (pc := 61) 1 d_X_divideBlocks_61 rfl rfl ?_
  obtain ⟨fs, v2, hx, hv, hw⟩ := hw
  refine bj_get (pc := 62) (ci := 5) (k := 0) (fs := fs) (v := .ref v2) d_X_divideBlocks_62 rfl (by decide) q_154 hx hv ?_
  refine bj_iload_n (pc := 65) 3 d_X_divideBlocks_65 rfl rfl ?_
  refine bj_iload (pc := 66) 4 d_X_divideBlocks_66 rfl ?_
  refine bj_iload_n (pc := 68) 2 d_X_divideBlocks_68 rfl rfl ?_
  refine bj_iconst (pc := 69) (v := (-1)) d_X_divideBlocks_69 (by decide) ?_
  refine bj_ixor (pc := 70) d_X_divideBlocks_70 ?_
  refine bj_iand (pc := 71) d_X_divideBlocks_71 ?_
  obtain ⟨n, f, hx, hin, hw⟩ := hw
  refine bj_iast (pc := 72) (n := n) (f := f) d_X_divideBlocks_72 hx hin ?_
  refine bj_aload_n (pc := 73) 1 d_X_divideBlocks_73 rfl rfl ?_
  obtain ⟨fs, v4, hx, hv, hw⟩ := hw
  refine bj_get (pc := 74) (ci := 5) (k := 0) (fs := fs) (v := .ref v4) d_X_divideBlocks_74 rfl (by decide) q_154 hx hv ?_
  refine bj_iload_n (pc := 77) 3 d_X_divideBlocks_77 rfl rfl ?_
  refine bj_iload_n (pc := 78) 2 d_X_divideBlocks_78 rfl rfl ?_
  refine bj_ixor (pc := 79) d_X_divideBlocks_79 ?_
  refine bj_iload (pc := 80) 0 d_X_divideBlocks_80 rfl ?_
  refine bj_iload_n (pc := 82) 2 d_X_divideBlocks_82 rfl rfl ?_
  refine bj_ior (pc := 83) d_X_divideBlocks_83 ?_
  obtain ⟨n, f, hx, hin, hw⟩ := hw
  refine bj_iast (pc := 84) (n := n) (f := f) d_X_divideBlocks_84 hx hin ?_
  refine bj_sub [1, 2, 3] (lo' := [(0, .ref x0), (1, .int x1), (2, .int x2)]) rfl ?_
  exact m_X_divideBlocks_85 hR hnx2 hw
theorem m_X_divideBlocks_40 {l : Launch} {R : Room} {Φ : bs_R → bs_H → Prop} (hR : bs_rm 2 R) {nx2 : Nat → Int32 → Int32 → bs_H → Prop} (hnx2 : ∀ (x0 : Nat) (x1 : Int32) (x2 : Int32) (h : bs_H), nx2 x0 x1 x2 h → bs_J l K_X_divideBlocks R Φ 2 [(0, .ref x0), (1, .int x1), (2, .int x2)] [] h) {x0 : Nat} {x1 : Int32} {x2 : Int32} {x3 : Int32} {s0 : Nat} {s1 : Int32} {h : bs_H} (hw : w_X_divideBlocks_40 Φ nx2 x0 x1 x2 x3 s0 s1 h) : bs_J l K_X_divideBlocks R Φ 40 [(0, .ref x0), (1, .int x1), (2, .int x2), (3, .int x3)] [.int s1, .ref s0] h := by
  unfold w_X_divideBlocks_40 at hw
  obtain ⟨n, f, v1, hx, hin, hv, hw⟩ := hw
  refine bj_iald (pc := 40) (n := n) (f := f) d_X_divideBlocks_40 hx hin hv ?_
  refine bj_istore (pc := 41) (lo' := [(4, .int v1), (0, .ref x0), (1, .int x1), (2, .int x2), (3, .int x3)]) d_X_divideBlocks_41 (by decide) rfl ?_
  refine bj_aload_n (pc := 43) 1 d_X_divideBlocks_43 rfl rfl ?_
  obtain ⟨fs, v2, hx, hv, hw⟩ := hw
  refine bj_get (pc := 44) (ci := 5) (k := 0) (fs := fs) (v := .ref v2) d_X_divideBlocks_44 rfl (by decide) q_154 hx hv ?_
  refine bj_iload_n (pc := 47) 4 d_X_divideBlocks_47 rfl rfl ?_
  refine bj_if_eq (pc := 48) (tgt := 55) d_X_divideBlocks_48 (by decide) (fun hc => ?_) (fun hc => ?_)
  · replace hw := hw.1 hc
    refine bj_iload_n (pc := 55) 3 d_X_divideBlocks_55 rfl rfl ?_
    refine bj_iload_n (pc := 56) 2 d_X_divideBlocks_56 rfl rfl ?_
    refine bj_ixor (pc := 57) d_X_divideBlocks_57 ?_
    refine bj_sub [1, 2, 3, 0] (lo' := [(0, .ref x0), (1, .int x1), (2, .int x2), (4, .int v1)]) rfl ?_
    exact m_X_divideBlocks_58 hR hnx2 hw
  · replace hw := hw.2 hc
    refine bj_iload_n (pc := 51) 3 d_X_divideBlocks_51 rfl rfl ?_
    refine bj_goto (pc := 52) (tgt := 58) d_X_divideBlocks_52 (by decide) ?_
    refine bj_sub [1, 2, 3, 0] (lo' := [(0, .ref x0), (1, .int x1), (2, .int x2), (4, .int v1)]) rfl ?_
    exact m_X_divideBlocks_58 hR hnx2 hw
theorem m_X_divideBlocks_2 {l : Launch} {R : Room} {Φ : bs_R → bs_H → Prop} (hR : bs_rm 2 R) : ∀ (n : Nat) (x0 : Nat) (x1 : Int32) (x2 : Int32) (h : bs_H), w_X_divideBlocks_2 Φ n x0 x1 x2 h → bs_J l K_X_divideBlocks R Φ 2 [(0, .ref x0), (1, .int x1), (2, .int x2)] [] h := by
  intro n
  induction n with
  | zero => intro x0 x1 x2 h hw; exact hw.elim
  | succ n ih =>
    have hnx2 := ih
    intro x0 x1 x2 h hw
    replace hw : w_X_divideBlocks_2_s Φ (w_X_divideBlocks_2 Φ n) x0 x1 x2 h := hw
    unfold w_X_divideBlocks_2_s at hw
    refine bj_iload_n (pc := 2) 2 d_X_divideBlocks_2 rfl rfl ?_
    refine bj_aload_n (pc := 3) 0 d_X_divideBlocks_3 rfl rfl ?_
    obtain ⟨fs, v1, hx, hv, hw⟩ := hw
    refine bj_get (pc := 4) (ci := 5) (k := 3) (fs := fs) (v := .int v1) d_X_divideBlocks_4 rfl (by decide) q_157 hx hv ?_
    refine bj_icmp_ge (pc := 7) (tgt := 91) d_X_divideBlocks_7 (by decide) (fun hc => ?_) (fun hc => ?_)
    · replace hw := hw.1 hc
      exact bj_vret (pc := 91) d_X_divideBlocks_91 rfl hw
    · replace hw := hw.2 hc
      refine bj_iload_n (pc := 10) 2 d_X_divideBlocks_10 rfl rfl ?_
      refine bj_iload_n (pc := 11) 1 d_X_divideBlocks_11 rfl rfl ?_
      refine bj_iand (pc := 12) d_X_divideBlocks_12 ?_
      refine bj_if_ne (pc := 13) (tgt := 85) d_X_divideBlocks_13 (by decide) (fun hc => ?_) (fun hc => ?_)
      · replace hw := hw.2 hc
        exact m_X_divideBlocks_85 hR hnx2 hw
      · replace hw := hw.1 hc
        refine bj_aload_n (pc := 16) 0 d_X_divideBlocks_16 rfl rfl ?_
        obtain ⟨fs, v2, hx, hv, hw⟩ := hw
        refine bj_get (pc := 17) (ci := 5) (k := 6) (fs := fs) (v := .long v2) d_X_divideBlocks_17 rfl (by decide) q_160 hx hv ?_
        refine bj_iload_n (pc := 20) 2 d_X_divideBlocks_20 rfl rfl ?_
        refine bj_callS (pc := 21) (np := 2) (K' := K_B_holds) (argsL := [.long v2, .int x2]) (st := []) (d1 := 1) rfl d_X_divideBlocks_21 (Or.inr ⟨_, q_564⟩) q_277 q_46 c_B_holds n_B_holds hR (by decide) (by decide) rfl (Nat.le_of_ble_eq_true rfl) rfl (Nat.le_of_ble_eq_true rfl) (fun R' hR' => m_B_holds hR' hw) (bs_kI_ok fun v3 h4 hw => ?_) (fun _ _ z => z)
        refine bj_istore_n (pc := 24) (lo' := [(3, .int v3), (0, .ref x0), (1, .int x1), (2, .int x2)]) d_X_divideBlocks_24 rfl (by decide) rfl ?_
        refine bj_aload_n (pc := 25) 1 d_X_divideBlocks_25 rfl rfl ?_
        obtain ⟨fs, v5, hx, hv, hw⟩ := hw
        refine bj_get (pc := 26) (ci := 5) (k := 0) (fs := fs) (v := .ref v5) d_X_divideBlocks_26 rfl (by decide) q_154 hx hv ?_
        refine bj_iload_n (pc := 29) 0 d_X_divideBlocks_29 rfl rfl ?_
        refine bj_if_eq (pc := 30) (tgt := 39) d_X_divideBlocks_30 (by decide) (fun hc => ?_) (fun hc => ?_)
        · replace hw := hw.1 hc
          refine bj_iload_n (pc := 39) 3 d_X_divideBlocks_39 rfl rfl ?_
          refine bj_sub [1, 2, 3, 0] (lo' := [(0, .ref x0), (1, .int x1), (2, .int x2), (3, .int v3)]) rfl ?_
          exact m_X_divideBlocks_40 hR hnx2 hw
        · replace hw := hw.2 hc
          refine bj_iload_n (pc := 33) 3 d_X_divideBlocks_33 rfl rfl ?_
          refine bj_iload_n (pc := 34) 2 d_X_divideBlocks_34 rfl rfl ?_
          refine bj_ixor (pc := 35) d_X_divideBlocks_35 ?_
          refine bj_goto (pc := 36) (tgt := 40) d_X_divideBlocks_36 (by decide) ?_
          refine bj_sub [1, 2, 3, 0] (lo' := [(0, .ref x0), (1, .int x1), (2, .int x2), (3, .int v3)]) rfl ?_
          exact m_X_divideBlocks_40 hR hnx2 hw
theorem m_X_divideBlocks {l : Launch} {R : Room} (hR : bs_rm 2 R) {Φ : bs_R → bs_H → Prop} {x0 : Nat} {x1 : Int32} {h : bs_H} (hw : w_X_divideBlocks Φ x0 x1 h) : bs_J l K_X_divideBlocks R Φ 0 [(0, .ref x0), (1, .int x1)] [] h := by
  unfold w_X_divideBlocks at hw
  refine bj_iconst (pc := 0) (v := 0) d_X_divideBlocks_0 (by decide) ?_
  refine bj_istore_n (pc := 1) (lo' := [(2, .int 0), (0, .ref x0), (1, .int x1)]) d_X_divideBlocks_1 rfl (by decide) rfl ?_
  refine bj_sub [1, 2, 0] (lo' := [(0, .ref x0), (1, .int x1), (2, .int 0)]) rfl ?_
  exact m_X_divideBlocks_2 hR 1000 _ _ _ _ hw
theorem d_X_write_0 : decode prog_5_method_2_code 0 = .ok (.aload_n 0, 1) := by decide +kernel
theorem d_X_write_1 : decode prog_5_method_2_code 1 = .ok (.aload_n 1, 1) := by decide +kernel
theorem d_X_write_2 : decode prog_5_method_2_code 2 = .ok (.invokevirtual 26, 3) := by decide +kernel
theorem d_X_write_5 : decode prog_5_method_2_code 5 = .ok (.putfield 22, 3) := by decide +kernel
theorem d_X_write_8 : decode prog_5_method_2_code 8 = .ok (.iconst 0, 1) := by decide +kernel
theorem d_X_write_9 : decode prog_5_method_2_code 9 = .ok (.istore_n 3, 1) := by decide +kernel
theorem d_X_write_10 : decode prog_5_method_2_code 10 = .ok (.iload_n 3, 1) := by decide +kernel
theorem d_X_write_11 : decode prog_5_method_2_code 11 = .ok (.aload_n 0, 1) := by decide +kernel
theorem d_X_write_12 : decode prog_5_method_2_code 12 = .ok (.getfield 22, 3) := by decide +kernel
theorem d_X_write_15 : decode prog_5_method_2_code 15 = .ok (.if_icmp .ge 20, 3) := by decide +kernel
theorem d_X_write_18 : decode prog_5_method_2_code 18 = .ok (.aload_n 0, 1) := by decide +kernel
theorem d_X_write_19 : decode prog_5_method_2_code 19 = .ok (.getfield 9, 3) := by decide +kernel
theorem d_X_write_22 : decode prog_5_method_2_code 22 = .ok (.iload_n 3, 1) := by decide +kernel
theorem d_X_write_23 : decode prog_5_method_2_code 23 = .ok (.aload_n 1, 1) := by decide +kernel
theorem d_X_write_24 : decode prog_5_method_2_code 24 = .ok (.iload_n 3, 1) := by decide +kernel
theorem d_X_write_25 : decode prog_5_method_2_code 25 = .ok (.invokevirtual 31, 3) := by decide +kernel
theorem d_X_write_28 : decode prog_5_method_2_code 28 = .ok (.iastore, 1) := by decide +kernel
theorem d_X_write_29 : decode prog_5_method_2_code 29 = .ok (.iinc 3 1, 3) := by decide +kernel
theorem d_X_write_32 : decode prog_5_method_2_code 32 = .ok (.goto (-22), 3) := by decide +kernel
theorem d_X_write_35 : decode prog_5_method_2_code 35 = .ok (.iconst 0, 1) := by decide +kernel
theorem d_X_write_36 : decode prog_5_method_2_code 36 = .ok (.istore_n 3, 1) := by decide +kernel
theorem d_X_write_37 : decode prog_5_method_2_code 37 = .ok (.aload_n 0, 1) := by decide +kernel
theorem d_X_write_38 : decode prog_5_method_2_code 38 = .ok (.getfield 22, 3) := by decide +kernel
theorem d_X_write_41 : decode prog_5_method_2_code 41 = .ok (.iconst 2, 1) := by decide +kernel
theorem d_X_write_42 : decode prog_5_method_2_code 42 = .ok (.idiv, 1) := by decide +kernel
theorem d_X_write_43 : decode prog_5_method_2_code 43 = .ok (.istore 4, 2) := by decide +kernel
theorem d_X_write_45 : decode prog_5_method_2_code 45 = .ok (.iload 4, 2) := by decide +kernel
theorem d_X_write_47 : decode prog_5_method_2_code 47 = .ok (.ifCond .le 65, 3) := by decide +kernel
theorem d_X_write_50 : decode prog_5_method_2_code 50 = .ok (.iload_n 3, 1) := by decide +kernel
theorem d_X_write_51 : decode prog_5_method_2_code 51 = .ok (.bipush 6, 2) := by decide +kernel
theorem d_X_write_53 : decode prog_5_method_2_code 53 = .ok (.if_icmp .ge 59, 3) := by decide +kernel
theorem d_X_write_56 : decode prog_5_method_2_code 56 = .ok (.aload_n 0, 1) := by decide +kernel
theorem d_X_write_57 : decode prog_5_method_2_code 57 = .ok (.iload 4, 2) := by decide +kernel
theorem d_X_write_59 : decode prog_5_method_2_code 59 = .ok (.invokevirtual 35, 3) := by decide +kernel
theorem d_X_write_62 : decode prog_5_method_2_code 62 = .ok (.aload_n 2, 1) := by decide +kernel
theorem d_X_write_63 : decode prog_5_method_2_code 63 = .ok (.iload 4, 2) := by decide +kernel
theorem d_X_write_65 : decode prog_5_method_2_code 65 = .ok (.aload_n 0, 1) := by decide +kernel
theorem d_X_write_66 : decode prog_5_method_2_code 66 = .ok (.aload_n 0, 1) := by decide +kernel
theorem d_X_write_67 : decode prog_5_method_2_code 67 = .ok (.getfield 39, 3) := by decide +kernel
theorem d_X_write_70 : decode prog_5_method_2_code 70 = .ok (.iload 4, 2) := by decide +kernel
theorem d_X_write_72 : decode prog_5_method_2_code 72 = .ok (.invokevirtual 43, 3) := by decide +kernel
theorem d_X_write_75 : decode prog_5_method_2_code 75 = .ok (.invokevirtual 47, 3) := by decide +kernel
theorem d_X_write_78 : decode prog_5_method_2_code 78 = .ok (.aload_n 0, 1) := by decide +kernel
theorem d_X_write_79 : decode prog_5_method_2_code 79 = .ok (.getfield 18, 3) := by decide +kernel
theorem d_X_write_82 : decode prog_5_method_2_code 82 = .ok (.iload_n 3, 1) := by decide +kernel
theorem d_X_write_83 : decode prog_5_method_2_code 83 = .ok (.aload_n 0, 1) := by decide +kernel
theorem d_X_write_84 : decode prog_5_method_2_code 84 = .ok (.aload_n 0, 1) := by decide +kernel
theorem d_X_write_85 : decode prog_5_method_2_code 85 = .ok (.getfield 53, 3) := by decide +kernel
theorem d_X_write_88 : decode prog_5_method_2_code 88 = .ok (.iload 4, 2) := by decide +kernel
theorem d_X_write_90 : decode prog_5_method_2_code 90 = .ok (.invokevirtual 43, 3) := by decide +kernel
theorem d_X_write_93 : decode prog_5_method_2_code 93 = .ok (.lastore, 1) := by decide +kernel
theorem d_X_write_94 : decode prog_5_method_2_code 94 = .ok (.iinc 3 1, 3) := by decide +kernel
theorem d_X_write_97 : decode prog_5_method_2_code 97 = .ok (.aload_n 0, 1) := by decide +kernel
theorem d_X_write_98 : decode prog_5_method_2_code 98 = .ok (.iload 4, 2) := by decide +kernel
theorem d_X_write_100 : decode prog_5_method_2_code 100 = .ok (.invokevirtual 56, 3) := by decide +kernel
theorem d_X_write_103 : decode prog_5_method_2_code 103 = .ok (.iload 4, 2) := by decide +kernel
theorem d_X_write_105 : decode prog_5_method_2_code 105 = .ok (.iconst 2, 1) := by decide +kernel
theorem d_X_write_106 : decode prog_5_method_2_code 106 = .ok (.idiv, 1) := by decide +kernel
theorem d_X_write_107 : decode prog_5_method_2_code 107 = .ok (.istore 4, 2) := by decide +kernel
theorem d_X_write_109 : decode prog_5_method_2_code 109 = .ok (.goto (-64), 3) := by decide +kernel
theorem d_X_write_112 : decode prog_5_method_2_code 112 = .ok (.iload_n 3, 1) := by decide +kernel
theorem d_X_write_113 : decode prog_5_method_2_code 113 = .ok (.iconst 1, 1) := by decide +kernel
theorem d_X_write_114 : decode prog_5_method_2_code 114 = .ok (.isub, 1) := by decide +kernel
theorem d_X_write_115 : decode prog_5_method_2_code 115 = .ok (.istore 4, 2) := by decide +kernel
theorem d_X_write_117 : decode prog_5_method_2_code 117 = .ok (.iload 4, 2) := by decide +kernel
theorem d_X_write_119 : decode prog_5_method_2_code 119 = .ok (.ifCond .lt 29, 3) := by decide +kernel
theorem d_X_write_122 : decode prog_5_method_2_code 122 = .ok (.aload_n 2, 1) := by decide +kernel
theorem d_X_write_123 : decode prog_5_method_2_code 123 = .ok (.aload_n 0, 1) := by decide +kernel
theorem d_X_write_124 : decode prog_5_method_2_code 124 = .ok (.getfield 22, 3) := by decide +kernel
theorem d_X_write_127 : decode prog_5_method_2_code 127 = .ok (.iload 4, 2) := by decide +kernel
theorem d_X_write_129 : decode prog_5_method_2_code 129 = .ok (.iconst 1, 1) := by decide +kernel
theorem d_X_write_130 : decode prog_5_method_2_code 130 = .ok (.iadd, 1) := by decide +kernel
theorem d_X_write_131 : decode prog_5_method_2_code 131 = .ok (.ishr, 1) := by decide +kernel
theorem d_X_write_132 : decode prog_5_method_2_code 132 = .ok (.aload_n 0, 1) := by decide +kernel
theorem d_X_write_133 : decode prog_5_method_2_code 133 = .ok (.getfield 18, 3) := by decide +kernel
theorem d_X_write_136 : decode prog_5_method_2_code 136 = .ok (.iload 4, 2) := by decide +kernel
theorem d_X_write_138 : decode prog_5_method_2_code 138 = .ok (.laload, 1) := by decide +kernel
theorem d_X_write_139 : decode prog_5_method_2_code 139 = .ok (.invokevirtual 47, 3) := by decide +kernel
theorem d_X_write_142 : decode prog_5_method_2_code 142 = .ok (.iinc 4 (-1), 3) := by decide +kernel
theorem d_X_write_145 : decode prog_5_method_2_code 145 = .ok (.goto (-28), 3) := by decide +kernel
theorem d_X_write_148 : decode prog_5_method_2_code 148 = .ok (.aload_n 2, 1) := by decide +kernel
theorem d_X_write_149 : decode prog_5_method_2_code 149 = .ok (.bipush 6, 2) := by decide +kernel
theorem d_X_write_151 : decode prog_5_method_2_code 151 = .ok (.iconst 0, 1) := by decide +kernel
theorem d_X_write_152 : decode prog_5_method_2_code 152 = .ok (.lconst 0, 1) := by decide +kernel
theorem d_X_write_153 : decode prog_5_method_2_code 153 = .ok (.invokevirtual 59, 3) := by decide +kernel
theorem d_X_write_156 : decode prog_5_method_2_code 156 = .ok (.return_, 1) := by decide +kernel
def w_X_write_117_s (Φ : bs_R → bs_H → Prop) (nx117 : Nat → Nat → Int32 → bs_H → Prop) (x0 : Nat) (x2 : Nat) (x4 : Int32) (h : bs_H) : Prop :=
  bs_if (x4 < 0) (bs_on h x2 2 (w_P_append (bs_kV Φ fun h1 => (Φ (.ok none) h1)) x2 6 0 0 h)) (bs_fI h x0 5 3 (fun v2 => bs_fA h x0 5 2 (fun v3 => bs_lL h v3 x4 (fun v4 => bs_on h x2 2 (w_P_appendSwap (bs_kV Φ fun h5 => (nx117 x0 x2 (x4 + (-1)) h5)) x2 (v2 >>> ((x4 + 1) &&& 31)) v4 h)))))
def w_X_write_117 (Φ : bs_R → bs_H → Prop) : Nat → Nat → Nat → Int32 → bs_H → Prop
  | 0 => fun _ _ _ _ => False
  | n + 1 => fun x0 x2 x4 h => w_X_write_117_s Φ (w_X_write_117 Φ n) x0 x2 x4 h
def w_X_write_112 (Φ : bs_R → bs_H → Prop) (x0 : Nat) (x2 : Nat) (x3 : Int32) (h : bs_H) : Prop :=
  w_X_write_117 Φ 1000 x0 x2 (x3 - 1) h
def w_X_write_45_s (Φ : bs_R → bs_H → Prop) (nx45 : Nat → Nat → Int32 → Int32 → bs_H → Prop) (x0 : Nat) (x2 : Nat) (x3 : Int32) (x4 : Int32) (h : bs_H) : Prop :=
  bs_if (x4 ≤ 0) (w_X_write_112 Φ x0 x2 x3 h) (bs_if ((6 : Int32) ≤ x3) (w_X_write_112 Φ x0 x2 x3 h) (bs_on h x0 5 (w_X_decideWays (bs_kV Φ fun h1 => (bs_fL h1 x0 5 5 (fun v2 => bs_on h1 x0 5 (w_X_lowerPlaces (bs_kL Φ fun v3 h4 => (bs_on h4 x2 2 (w_P_appendSwap (bs_kV Φ fun h5 => (bs_fA h5 x0 5 2 (fun v6 => bs_fL h5 x0 5 6 (fun v7 => bs_on h5 x0 5 (w_X_lowerPlaces (bs_kL Φ fun v8 h9 => (bs_sL h9 v6 x3 v8 (fun h10 => bs_on h10 x0 5 (w_X_divideBlocks (bs_kV Φ fun h11 => (nx45 x0 x2 (x3 + 1) (x4 / 2) h11)) x0 x4 h10)))) x0 v7 x4 h5))))) x2 x4 v3 h4))) x0 v2 x4 h1)))) x0 x4 h)))
def w_X_write_45 (Φ : bs_R → bs_H → Prop) : Nat → Nat → Nat → Int32 → Int32 → bs_H → Prop
  | 0 => fun _ _ _ _ _ => False
  | n + 1 => fun x0 x2 x3 x4 h => w_X_write_45_s Φ (w_X_write_45 Φ n) x0 x2 x3 x4 h
def w_X_write_10_s (Φ : bs_R → bs_H → Prop) (nx10 : Nat → Nat → Nat → Int32 → bs_H → Prop) (x0 : Nat) (x1 : Nat) (x2 : Nat) (x3 : Int32) (h : bs_H) : Prop :=
  bs_fI h x0 5 3 (fun v1 => bs_if (v1 ≤ x3) (bs_fI h x0 5 3 (fun v2 => w_X_write_45 Φ 1000 x0 x2 0 (v2 / 2) h)) (bs_fA h x0 5 0 (fun v3 => bs_on h x1 1 (w_M_sourceOf (bs_kI Φ fun v4 h5 => (bs_sI h5 v3 x3 v4 (fun h6 => nx10 x0 x1 x2 (x3 + 1) h6))) x1 x3 h))))
def w_X_write_10 (Φ : bs_R → bs_H → Prop) : Nat → Nat → Nat → Nat → Int32 → bs_H → Prop
  | 0 => fun _ _ _ _ _ => False
  | n + 1 => fun x0 x1 x2 x3 h => w_X_write_10_s Φ (w_X_write_10 Φ n) x0 x1 x2 x3 h
def w_X_write (Φ : bs_R → bs_H → Prop) (x0 : Nat) (x1 : Nat) (x2 : Nat) (h : bs_H) : Prop :=
  bs_on h x1 1 (w_M_bits (bs_kI Φ fun v1 h2 => (bs_p h2 x0 5 3 (.int v1) (fun h3 => w_X_write_10 Φ 1000 x0 x1 x2 0 h3))) x1 h)
theorem m_X_write_117 {l : Launch} {R : Room} {Φ : bs_R → bs_H → Prop} (hR : bs_rm 4 R) : ∀ (n : Nat) (x0 : Nat) (x2 : Nat) (x4 : Int32) (h : bs_H), w_X_write_117 Φ n x0 x2 x4 h → bs_J l K_X_write R Φ 117 [(0, .ref x0), (2, .ref x2), (4, .int x4)] [] h := by
  intro n
  induction n with
  | zero => intro x0 x2 x4 h hw; exact hw.elim
  | succ n ih =>
    have hnx117 := ih
    intro x0 x2 x4 h hw
    replace hw : w_X_write_117_s Φ (w_X_write_117 Φ n) x0 x2 x4 h := hw
    unfold w_X_write_117_s at hw
    refine bj_iload (pc := 117) 2 d_X_write_117 rfl ?_
    refine bj_if_lt (pc := 119) (tgt := 148) d_X_write_119 (by decide) (fun hc => ?_) (fun hc => ?_)
    · replace hw := hw.1 hc
      refine bj_aload_n (pc := 148) 1 d_X_write_148 rfl rfl ?_
      refine bj_bipush (pc := 149) (v := 6) d_X_write_149 (by decide) ?_
      refine bj_iconst (pc := 151) (v := 0) d_X_write_151 (by decide) ?_
      refine bj_lconst (pc := 152) (v := 0) d_X_write_152 (by decide) ?_
      obtain ⟨⟨fs, hx⟩, hw⟩ := hw
      refine bj_callV (pc := 153) (np := 3) (K' := K_P_append) (argsL := [.int 6, .int 0, .long 0]) (st := []) (d1 := 2) (ci := 2) (fs := fs) rfl d_X_write_153 (Or.inl q_577) q_529 rfl q_530 c_P_append n_P_append hR (by decide) (by decide) rfl (Nat.le_of_ble_eq_true rfl) rfl (Nat.le_of_ble_eq_true rfl) hx (fun R' hR' => m_P_append hR' hw) (bs_kV_ok fun h1 hw => ?_) (fun _ _ z => z)
      exact bj_vret (pc := 156) d_X_write_156 rfl hw
    · replace hw := hw.2 hc
      refine bj_aload_n (pc := 122) 1 d_X_write_122 rfl rfl ?_
      refine bj_aload_n (pc := 123) 0 d_X_write_123 rfl rfl ?_
      obtain ⟨fs, v2, hx, hv, hw⟩ := hw
      refine bj_get (pc := 124) (ci := 5) (k := 3) (fs := fs) (v := .int v2) d_X_write_124 rfl (by decide) q_157 hx hv ?_
      refine bj_iload (pc := 127) 2 d_X_write_127 rfl ?_
      refine bj_iconst (pc := 129) (v := 1) d_X_write_129 (by decide) ?_
      refine bj_iadd (pc := 130) d_X_write_130 ?_
      refine bj_ishr (pc := 131) d_X_write_131 ?_
      refine bj_aload_n (pc := 132) 0 d_X_write_132 rfl rfl ?_
      obtain ⟨fs, v3, hx, hv, hw⟩ := hw
      refine bj_get (pc := 133) (ci := 5) (k := 2) (fs := fs) (v := .ref v3) d_X_write_133 rfl (by decide) q_156 hx hv ?_
      refine bj_iload (pc := 136) 2 d_X_write_136 rfl ?_
      obtain ⟨n, f, v4, hx, hin, hv, hw⟩ := hw
      refine bj_lald (pc := 138) (n := n) (f := f) d_X_write_138 hx hin hv ?_
      obtain ⟨⟨fs, hx⟩, hw⟩ := hw
      refine bj_callV (pc := 139) (np := 2) (K' := K_P_appendSwap) (argsL := [.int (v2 >>> ((x4 + 1) &&& 31)), .long v4]) (st := []) (d1 := 3) (ci := 2) (fs := fs) rfl d_X_write_139 (Or.inl q_569) q_570 rfl q_571 c_P_appendSwap n_P_appendSwap hR (by decide) (by decide) rfl (Nat.le_of_ble_eq_true rfl) rfl (Nat.le_of_ble_eq_true rfl) hx (fun R' hR' => m_P_appendSwap hR' hw) (bs_kV_ok fun h5 hw => ?_) (fun _ _ z => z)
      refine bj_iinc (pc := 142) (v := (x4 + (-1))) (lo' := [(4, .int (x4 + (-1))), (0, .ref x0), (2, .ref x2)]) 2 d_X_write_142 rfl rfl (by decide) rfl ?_
      refine bj_goto (pc := 145) (tgt := 117) d_X_write_145 (by decide) ?_
      refine bj_sub [1, 2, 0] (lo' := [(0, .ref x0), (2, .ref x2), (4, .int (x4 + (-1)))]) rfl ?_
      exact hnx117 _ _ _ _ hw
theorem m_X_write_112 {l : Launch} {R : Room} {Φ : bs_R → bs_H → Prop} (hR : bs_rm 4 R) {x0 : Nat} {x2 : Nat} {x3 : Int32} {h : bs_H} (hw : w_X_write_112 Φ x0 x2 x3 h) : bs_J l K_X_write R Φ 112 [(0, .ref x0), (2, .ref x2), (3, .int x3)] [] h := by
  unfold w_X_write_112 at hw
  refine bj_iload_n (pc := 112) 2 d_X_write_112 rfl rfl ?_
  refine bj_iconst (pc := 113) (v := 1) d_X_write_113 (by decide) ?_
  refine bj_isub (pc := 114) d_X_write_114 ?_
  refine bj_istore (pc := 115) (lo' := [(4, .int (x3 - 1)), (0, .ref x0), (2, .ref x2), (3, .int x3)]) d_X_write_115 (by decide) rfl ?_
  refine bj_sub [1, 2, 0] (lo' := [(0, .ref x0), (2, .ref x2), (4, .int (x3 - 1))]) rfl ?_
  exact m_X_write_117 hR 1000 _ _ _ _ hw
theorem m_X_write_45 {l : Launch} {R : Room} {Φ : bs_R → bs_H → Prop} (hR : bs_rm 4 R) : ∀ (n : Nat) (x0 : Nat) (x2 : Nat) (x3 : Int32) (x4 : Int32) (h : bs_H), w_X_write_45 Φ n x0 x2 x3 x4 h → bs_J l K_X_write R Φ 45 [(0, .ref x0), (2, .ref x2), (3, .int x3), (4, .int x4)] [] h := by
  intro n
  induction n with
  | zero => intro x0 x2 x3 x4 h hw; exact hw.elim
  | succ n ih =>
    have hnx45 := ih
    intro x0 x2 x3 x4 h hw
    replace hw : w_X_write_45_s Φ (w_X_write_45 Φ n) x0 x2 x3 x4 h := hw
    unfold w_X_write_45_s at hw
    refine bj_iload (pc := 45) 3 d_X_write_45 rfl ?_
    refine bj_if_le (pc := 47) (tgt := 112) d_X_write_47 (by decide) (fun hc => ?_) (fun hc => ?_)
    · replace hw := hw.1 hc
      refine bj_sub [0, 1, 2] (lo' := [(0, .ref x0), (2, .ref x2), (3, .int x3)]) rfl ?_
      exact m_X_write_112 hR hw
    · replace hw := hw.2 hc
      refine bj_iload_n (pc := 50) 2 d_X_write_50 rfl rfl ?_
      refine bj_bipush (pc := 51) (v := 6) d_X_write_51 (by decide) ?_
      refine bj_icmp_ge (pc := 53) (tgt := 112) d_X_write_53 (by decide) (fun hc => ?_) (fun hc => ?_)
      · replace hw := hw.1 hc
        refine bj_sub [0, 1, 2] (lo' := [(0, .ref x0), (2, .ref x2), (3, .int x3)]) rfl ?_
        exact m_X_write_112 hR hw
      · replace hw := hw.2 hc
        refine bj_aload_n (pc := 56) 0 d_X_write_56 rfl rfl ?_
        refine bj_iload (pc := 57) 3 d_X_write_57 rfl ?_
        obtain ⟨⟨fs, hx⟩, hw⟩ := hw
        refine bj_callV (pc := 59) (np := 1) (K' := K_X_decideWays) (argsL := [.int x4]) (st := []) (d1 := 3) (ci := 5) (fs := fs) rfl d_X_write_59 (Or.inl q_556) q_558 rfl q_16 c_X_decideWays n_X_decideWays hR (by decide) (by decide) rfl (Nat.le_of_ble_eq_true rfl) rfl (Nat.le_of_ble_eq_true rfl) hx (fun R' hR' => m_X_decideWays hR' hw) (bs_kV_ok fun h1 hw => ?_) (fun _ _ z => z)
        refine bj_aload_n (pc := 62) 1 d_X_write_62 rfl rfl ?_
        refine bj_iload (pc := 63) 3 d_X_write_63 rfl ?_
        refine bj_aload_n (pc := 65) 0 d_X_write_65 rfl rfl ?_
        refine bj_aload_n (pc := 66) 0 d_X_write_66 rfl rfl ?_
        obtain ⟨fs, v2, hx, hv, hw⟩ := hw
        refine bj_get (pc := 67) (ci := 5) (k := 5) (fs := fs) (v := .long v2) d_X_write_67 rfl (by decide) q_159 hx hv ?_
        refine bj_iload (pc := 70) 3 d_X_write_70 rfl ?_
        obtain ⟨⟨fs, hx⟩, hw⟩ := hw
        refine bj_callV (pc := 72) (np := 2) (K' := K_X_lowerPlaces) (argsL := [.long v2, .int x4]) (st := [.int x4, .ref x2]) (d1 := 2) (ci := 5) (fs := fs) rfl d_X_write_72 (Or.inl q_565) q_567 rfl q_18 c_X_lowerPlaces n_X_lowerPlaces hR (by decide) (by decide) rfl (Nat.le_of_ble_eq_true rfl) rfl (Nat.le_of_ble_eq_true rfl) hx (fun R' hR' => m_X_lowerPlaces hR' hw) (bs_kL_ok fun v3 h4 hw => ?_) (fun _ _ z => z)
        obtain ⟨⟨fs, hx⟩, hw⟩ := hw
        refine bj_callV (pc := 75) (np := 2) (K' := K_P_appendSwap) (argsL := [.int x4, .long v3]) (st := []) (d1 := 3) (ci := 2) (fs := fs) rfl d_X_write_75 (Or.inl q_569) q_570 rfl q_571 c_P_appendSwap n_P_appendSwap hR (by decide) (by decide) rfl (Nat.le_of_ble_eq_true rfl) rfl (Nat.le_of_ble_eq_true rfl) hx (fun R' hR' => m_P_appendSwap hR' hw) (bs_kV_ok fun h5 hw => ?_) (fun _ _ z => z)
        refine bj_aload_n (pc := 78) 0 d_X_write_78 rfl rfl ?_
        obtain ⟨fs, v6, hx, hv, hw⟩ := hw
        refine bj_get (pc := 79) (ci := 5) (k := 2) (fs := fs) (v := .ref v6) d_X_write_79 rfl (by decide) q_156 hx hv ?_
        refine bj_iload_n (pc := 82) 2 d_X_write_82 rfl rfl ?_
        refine bj_aload_n (pc := 83) 0 d_X_write_83 rfl rfl ?_
        refine bj_aload_n (pc := 84) 0 d_X_write_84 rfl rfl ?_
        obtain ⟨fs, v7, hx, hv, hw⟩ := hw
        refine bj_get (pc := 85) (ci := 5) (k := 6) (fs := fs) (v := .long v7) d_X_write_85 rfl (by decide) q_160 hx hv ?_
        refine bj_iload (pc := 88) 3 d_X_write_88 rfl ?_
        obtain ⟨⟨fs, hx⟩, hw⟩ := hw
        refine bj_callV (pc := 90) (np := 2) (K' := K_X_lowerPlaces) (argsL := [.long v7, .int x4]) (st := [.int x3, .ref v6]) (d1 := 2) (ci := 5) (fs := fs) rfl d_X_write_90 (Or.inl q_565) q_567 rfl q_18 c_X_lowerPlaces n_X_lowerPlaces hR (by decide) (by decide) rfl (Nat.le_of_ble_eq_true rfl) rfl (Nat.le_of_ble_eq_true rfl) hx (fun R' hR' => m_X_lowerPlaces hR' hw) (bs_kL_ok fun v8 h9 hw => ?_) (fun _ _ z => z)
        obtain ⟨n, f, hx, hin, hw⟩ := hw
        refine bj_last (pc := 93) (n := n) (f := f) d_X_write_93 hx hin ?_
        refine bj_iinc (pc := 94) (v := (x3 + 1)) (lo' := [(3, .int (x3 + 1)), (0, .ref x0), (2, .ref x2), (4, .int x4)]) 2 d_X_write_94 rfl rfl (by decide) rfl ?_
        refine bj_aload_n (pc := 97) 1 d_X_write_97 rfl rfl ?_
        refine bj_iload (pc := 98) 3 d_X_write_98 rfl ?_
        obtain ⟨⟨fs, hx⟩, hw⟩ := hw
        refine bj_callV (pc := 100) (np := 1) (K' := K_X_divideBlocks) (argsL := [.int x4]) (st := []) (d1 := 2) (ci := 5) (fs := fs) rfl d_X_write_100 (Or.inl q_573) q_575 rfl q_19 c_X_divideBlocks n_X_divideBlocks hR (by decide) (by decide) rfl (Nat.le_of_ble_eq_true rfl) rfl (Nat.le_of_ble_eq_true rfl) hx (fun R' hR' => m_X_divideBlocks hR' hw) (bs_kV_ok fun h11 hw => ?_) (fun _ _ z => z)
        refine bj_iload (pc := 103) 3 d_X_write_103 rfl ?_
        refine bj_iconst (pc := 105) (v := 2) d_X_write_105 (by decide) ?_
        refine bj_idiv (pc := 106) d_X_write_106 (by decide) ?_
        refine bj_istore (pc := 107) (lo' := [(4, .int (x4 / 2)), (3, .int (x3 + 1)), (0, .ref x0), (2, .ref x2)]) d_X_write_107 (by decide) rfl ?_
        refine bj_goto (pc := 109) (tgt := 45) d_X_write_109 (by decide) ?_
        refine bj_sub [2, 3, 1, 0] (lo' := [(0, .ref x0), (2, .ref x2), (3, .int (x3 + 1)), (4, .int (x4 / 2))]) rfl ?_
        exact hnx45 _ _ _ _ _ hw
theorem m_X_write_10 {l : Launch} {R : Room} {Φ : bs_R → bs_H → Prop} (hR : bs_rm 4 R) : ∀ (n : Nat) (x0 : Nat) (x1 : Nat) (x2 : Nat) (x3 : Int32) (h : bs_H), w_X_write_10 Φ n x0 x1 x2 x3 h → bs_J l K_X_write R Φ 10 [(0, .ref x0), (1, .ref x1), (2, .ref x2), (3, .int x3)] [] h := by
  intro n
  induction n with
  | zero => intro x0 x1 x2 x3 h hw; exact hw.elim
  | succ n ih =>
    have hnx10 := ih
    intro x0 x1 x2 x3 h hw
    replace hw : w_X_write_10_s Φ (w_X_write_10 Φ n) x0 x1 x2 x3 h := hw
    unfold w_X_write_10_s at hw
    refine bj_iload_n (pc := 10) 3 d_X_write_10 rfl rfl ?_
    refine bj_aload_n (pc := 11) 0 d_X_write_11 rfl rfl ?_
    obtain ⟨fs, v1, hx, hv, hw⟩ := hw
    refine bj_get (pc := 12) (ci := 5) (k := 3) (fs := fs) (v := .int v1) d_X_write_12 rfl (by decide) q_157 hx hv ?_
    refine bj_icmp_ge (pc := 15) (tgt := 35) d_X_write_15 (by decide) (fun hc => ?_) (fun hc => ?_)
    · replace hw := hw.1 hc
      refine bj_iconst (pc := 35) (v := 0) d_X_write_35 (by decide) ?_
      refine bj_istore_n (pc := 36) (lo' := [(3, .int 0), (0, .ref x0), (1, .ref x1), (2, .ref x2)]) d_X_write_36 rfl (by decide) rfl ?_
      refine bj_aload_n (pc := 37) 1 d_X_write_37 rfl rfl ?_
      obtain ⟨fs, v2, hx, hv, hw⟩ := hw
      refine bj_get (pc := 38) (ci := 5) (k := 3) (fs := fs) (v := .int v2) d_X_write_38 rfl (by decide) q_157 hx hv ?_
      refine bj_iconst (pc := 41) (v := 2) d_X_write_41 (by decide) ?_
      refine bj_idiv (pc := 42) d_X_write_42 (by decide) ?_
      refine bj_istore (pc := 43) (lo' := [(4, .int (v2 / 2)), (3, .int 0), (0, .ref x0), (1, .ref x1), (2, .ref x2)]) d_X_write_43 (by decide) rfl ?_
      refine bj_sub [2, 4, 1, 0] (lo' := [(0, .ref x0), (2, .ref x2), (3, .int 0), (4, .int (v2 / 2))]) rfl ?_
      exact m_X_write_45 hR 1000 _ _ _ _ _ hw
    · replace hw := hw.2 hc
      refine bj_aload_n (pc := 18) 0 d_X_write_18 rfl rfl ?_
      obtain ⟨fs, v3, hx, hv, hw⟩ := hw
      refine bj_get (pc := 19) (ci := 5) (k := 0) (fs := fs) (v := .ref v3) d_X_write_19 rfl (by decide) q_154 hx hv ?_
      refine bj_iload_n (pc := 22) 3 d_X_write_22 rfl rfl ?_
      refine bj_aload_n (pc := 23) 1 d_X_write_23 rfl rfl ?_
      refine bj_iload_n (pc := 24) 3 d_X_write_24 rfl rfl ?_
      obtain ⟨⟨fs, hx⟩, hw⟩ := hw
      refine bj_callV (pc := 25) (np := 1) (K' := K_M_sourceOf) (argsL := [.int x3]) (st := [.int x3, .ref v3]) (d1 := 1) (ci := 1) (fs := fs) rfl d_X_write_25 (Or.inl q_555) q_352 rfl q_353 c_M_sourceOf n_M_sourceOf hR (by decide) (by decide) rfl (Nat.le_of_ble_eq_true rfl) rfl (Nat.le_of_ble_eq_true rfl) hx (fun R' hR' => m_M_sourceOf hR' hw) (bs_kI_ok fun v4 h5 hw => ?_) (fun _ _ z => z)
      obtain ⟨n, f, hx, hin, hw⟩ := hw
      refine bj_iast (pc := 28) (n := n) (f := f) d_X_write_28 hx hin ?_
      refine bj_iinc (pc := 29) (v := (x3 + 1)) (lo' := [(3, .int (x3 + 1)), (0, .ref x0), (1, .ref x1), (2, .ref x2)]) 3 d_X_write_29 rfl rfl (by decide) rfl ?_
      refine bj_goto (pc := 32) (tgt := 10) d_X_write_32 (by decide) ?_
      refine bj_sub [1, 2, 3, 0] (lo' := [(0, .ref x0), (1, .ref x1), (2, .ref x2), (3, .int (x3 + 1))]) rfl ?_
      exact hnx10 _ _ _ _ _ hw
theorem m_X_write {l : Launch} {R : Room} (hR : bs_rm 4 R) {Φ : bs_R → bs_H → Prop} {x0 : Nat} {x1 : Nat} {x2 : Nat} {h : bs_H} (hw : w_X_write Φ x0 x1 x2 h) : bs_J l K_X_write R Φ 0 [(0, .ref x0), (1, .ref x1), (2, .ref x2)] [] h := by
  unfold w_X_write at hw
  refine bj_aload_n (pc := 0) 0 d_X_write_0 rfl rfl ?_
  refine bj_aload_n (pc := 1) 1 d_X_write_1 rfl rfl ?_
  obtain ⟨⟨fs, hx⟩, hw⟩ := hw
  refine bj_callV (pc := 2) (np := 0) (K' := K_M_bits) (argsL := []) (st := [.ref x0]) (d1 := 1) (ci := 1) (fs := fs) rfl d_X_write_2 (Or.inl q_554) q_237 rfl q_238 c_M_bits n_M_bits hR (by decide) (by decide) rfl (Nat.le_of_ble_eq_true rfl) rfl (Nat.le_of_ble_eq_true rfl) hx (fun R' hR' => m_M_bits hR' hw) (bs_kI_ok fun v1 h2 hw => ?_) (fun _ _ z => z)
  obtain ⟨fs, hx, hlen, hw⟩ := hw
  refine bj_put (pc := 5) (ci := 5) (k := 3) (fs := fs) (v := (.int v1)) (ty := .int) d_X_write_5 rfl (by decide) q_157 rfl (by decide +kernel) rfl rfl hx hlen ?_
  refine bj_iconst (pc := 8) (v := 0) d_X_write_8 (by decide) ?_
  refine bj_istore_n (pc := 9) (lo' := [(3, .int 0), (0, .ref x0), (1, .ref x1), (2, .ref x2)]) d_X_write_9 rfl (by decide) rfl ?_
  refine bj_sub [1, 2, 3, 0] (lo' := [(0, .ref x0), (1, .ref x1), (2, .ref x2), (3, .int 0)]) rfl ?_
  exact m_X_write_10 hR 1000 _ _ _ _ _ hw
theorem d_G_put_0 : decode prog_3_method_3_code 0 = .ok (.iconst 0, 1) := by decide +kernel
theorem d_G_put_1 : decode prog_3_method_3_code 1 = .ok (.istore_n 3, 1) := by decide +kernel
theorem d_G_put_2 : decode prog_3_method_3_code 2 = .ok (.iload_n 3, 1) := by decide +kernel
theorem d_G_put_3 : decode prog_3_method_3_code 3 = .ok (.aload_n 0, 1) := by decide +kernel
theorem d_G_put_4 : decode prog_3_method_3_code 4 = .ok (.getfield 18, 3) := by decide +kernel
theorem d_G_put_7 : decode prog_3_method_3_code 7 = .ok (.if_icmp .ge 22, 3) := by decide +kernel
theorem d_G_put_10 : decode prog_3_method_3_code 10 = .ok (.aload_n 0, 1) := by decide +kernel
theorem d_G_put_11 : decode prog_3_method_3_code 11 = .ok (.getfield 9, 3) := by decide +kernel
theorem d_G_put_14 : decode prog_3_method_3_code 14 = .ok (.iload_n 3, 1) := by decide +kernel
theorem d_G_put_15 : decode prog_3_method_3_code 15 = .ok (.laload, 1) := by decide +kernel
theorem d_G_put_16 : decode prog_3_method_3_code 16 = .ok (.iload_n 2, 1) := by decide +kernel
theorem d_G_put_17 : decode prog_3_method_3_code 17 = .ok (.lushr, 1) := by decide +kernel
theorem d_G_put_18 : decode prog_3_method_3_code 18 = .ok (.lconst 0, 1) := by decide +kernel
theorem d_G_put_19 : decode prog_3_method_3_code 19 = .ok (.lcmp, 1) := by decide +kernel
theorem d_G_put_20 : decode prog_3_method_3_code 20 = .ok (.ifCond .eq 9, 3) := by decide +kernel
theorem d_G_put_23 : decode prog_3_method_3_code 23 = .ok (.iinc 3 1, 3) := by decide +kernel
theorem d_G_put_26 : decode prog_3_method_3_code 26 = .ok (.goto (-24), 3) := by decide +kernel
theorem d_G_put_29 : decode prog_3_method_3_code 29 = .ok (.iload_n 3, 1) := by decide +kernel
theorem d_G_put_30 : decode prog_3_method_3_code 30 = .ok (.aload_n 0, 1) := by decide +kernel
theorem d_G_put_31 : decode prog_3_method_3_code 31 = .ok (.getfield 18, 3) := by decide +kernel
theorem d_G_put_34 : decode prog_3_method_3_code 34 = .ok (.if_icmp .ne 36, 3) := by decide +kernel
theorem d_G_put_37 : decode prog_3_method_3_code 37 = .ok (.aload_n 0, 1) := by decide +kernel
theorem d_G_put_38 : decode prog_3_method_3_code 38 = .ok (.getfield 18, 3) := by decide +kernel
theorem d_G_put_41 : decode prog_3_method_3_code 41 = .ok (.bipush 64, 2) := by decide +kernel
theorem d_G_put_43 : decode prog_3_method_3_code 43 = .ok (.if_icmp .ge 27, 3) := by decide +kernel
theorem d_G_put_46 : decode prog_3_method_3_code 46 = .ok (.aload_n 0, 1) := by decide +kernel
theorem d_G_put_47 : decode prog_3_method_3_code 47 = .ok (.getfield 9, 3) := by decide +kernel
theorem d_G_put_50 : decode prog_3_method_3_code 50 = .ok (.iload_n 3, 1) := by decide +kernel
theorem d_G_put_51 : decode prog_3_method_3_code 51 = .ok (.lconst 0, 1) := by decide +kernel
theorem d_G_put_52 : decode prog_3_method_3_code 52 = .ok (.lastore, 1) := by decide +kernel
theorem d_G_put_53 : decode prog_3_method_3_code 53 = .ok (.aload_n 0, 1) := by decide +kernel
theorem d_G_put_54 : decode prog_3_method_3_code 54 = .ok (.getfield 15, 3) := by decide +kernel
theorem d_G_put_57 : decode prog_3_method_3_code 57 = .ok (.iload_n 3, 1) := by decide +kernel
theorem d_G_put_58 : decode prog_3_method_3_code 58 = .ok (.lconst 0, 1) := by decide +kernel
theorem d_G_put_59 : decode prog_3_method_3_code 59 = .ok (.lastore, 1) := by decide +kernel
theorem d_G_put_60 : decode prog_3_method_3_code 60 = .ok (.aload_n 0, 1) := by decide +kernel
theorem d_G_put_61 : decode prog_3_method_3_code 61 = .ok (.dup, 1) := by decide +kernel
theorem d_G_put_62 : decode prog_3_method_3_code 62 = .ok (.getfield 18, 3) := by decide +kernel
theorem d_G_put_65 : decode prog_3_method_3_code 65 = .ok (.iconst 1, 1) := by decide +kernel
theorem d_G_put_66 : decode prog_3_method_3_code 66 = .ok (.iadd, 1) := by decide +kernel
theorem d_G_put_67 : decode prog_3_method_3_code 67 = .ok (.putfield 18, 3) := by decide +kernel
theorem d_G_put_70 : decode prog_3_method_3_code 70 = .ok (.iload_n 3, 1) := by decide +kernel
theorem d_G_put_71 : decode prog_3_method_3_code 71 = .ok (.aload_n 0, 1) := by decide +kernel
theorem d_G_put_72 : decode prog_3_method_3_code 72 = .ok (.getfield 18, 3) := by decide +kernel
theorem d_G_put_75 : decode prog_3_method_3_code 75 = .ok (.if_icmp .ge 27, 3) := by decide +kernel
theorem d_G_put_78 : decode prog_3_method_3_code 78 = .ok (.aload_n 0, 1) := by decide +kernel
theorem d_G_put_79 : decode prog_3_method_3_code 79 = .ok (.getfield 9, 3) := by decide +kernel
theorem d_G_put_82 : decode prog_3_method_3_code 82 = .ok (.iload_n 3, 1) := by decide +kernel
theorem d_G_put_83 : decode prog_3_method_3_code 83 = .ok (.dup2, 1) := by decide +kernel
theorem d_G_put_84 : decode prog_3_method_3_code 84 = .ok (.laload, 1) := by decide +kernel
theorem d_G_put_85 : decode prog_3_method_3_code 85 = .ok (.lconst 1, 1) := by decide +kernel
theorem d_G_put_86 : decode prog_3_method_3_code 86 = .ok (.iload_n 2, 1) := by decide +kernel
theorem d_G_put_87 : decode prog_3_method_3_code 87 = .ok (.lshl, 1) := by decide +kernel
theorem d_G_put_88 : decode prog_3_method_3_code 88 = .ok (.lor, 1) := by decide +kernel
theorem d_G_put_89 : decode prog_3_method_3_code 89 = .ok (.lastore, 1) := by decide +kernel
theorem d_G_put_90 : decode prog_3_method_3_code 90 = .ok (.aload_n 0, 1) := by decide +kernel
theorem d_G_put_91 : decode prog_3_method_3_code 91 = .ok (.getfield 15, 3) := by decide +kernel
theorem d_G_put_94 : decode prog_3_method_3_code 94 = .ok (.iload_n 3, 1) := by decide +kernel
theorem d_G_put_95 : decode prog_3_method_3_code 95 = .ok (.dup2, 1) := by decide +kernel
theorem d_G_put_96 : decode prog_3_method_3_code 96 = .ok (.laload, 1) := by decide +kernel
theorem d_G_put_97 : decode prog_3_method_3_code 97 = .ok (.lconst 1, 1) := by decide +kernel
theorem d_G_put_98 : decode prog_3_method_3_code 98 = .ok (.iload_n 1, 1) := by decide +kernel
theorem d_G_put_99 : decode prog_3_method_3_code 99 = .ok (.lshl, 1) := by decide +kernel
theorem d_G_put_100 : decode prog_3_method_3_code 100 = .ok (.lor, 1) := by decide +kernel
theorem d_G_put_101 : decode prog_3_method_3_code 101 = .ok (.lastore, 1) := by decide +kernel
theorem d_G_put_102 : decode prog_3_method_3_code 102 = .ok (.return_, 1) := by decide +kernel
def w_G_put_102 (Φ : bs_R → bs_H → Prop) (h : bs_H) : Prop :=
  Φ (.ok none) h
def w_G_put_70 (Φ : bs_R → bs_H → Prop) (x0 : Nat) (x1 : Int32) (x2 : Int32) (x3 : Int32) (h : bs_H) : Prop :=
  bs_fI h x0 6 2 (fun v1 => bs_if (v1 ≤ x3) (w_G_put_102 Φ h) (bs_fA h x0 6 0 (fun v2 => bs_lL h v2 x3 (fun v3 => bs_sL h v2 x3 (v3 ||| (bs_shl 1 x2)) (fun h4 => bs_fA h4 x0 6 1 (fun v5 => bs_lL h4 v5 x3 (fun v6 => bs_sL h4 v5 x3 (v6 ||| (bs_shl 1 x1)) (fun h7 => w_G_put_102 Φ h7))))))))
def w_G_put_29 (Φ : bs_R → bs_H → Prop) (x0 : Nat) (x1 : Int32) (x2 : Int32) (x3 : Int32) (h : bs_H) : Prop :=
  bs_fI h x0 6 2 (fun v1 => bs_if (x3 = v1) (bs_fI h x0 6 2 (fun v2 => bs_if ((64 : Int32) ≤ v2) (w_G_put_70 Φ x0 x1 x2 x3 h) (bs_fA h x0 6 0 (fun v3 => bs_sL h v3 x3 0 (fun h4 => bs_fA h4 x0 6 1 (fun v5 => bs_sL h4 v5 x3 0 (fun h6 => bs_fI h6 x0 6 2 (fun v7 => bs_p h6 x0 6 2 (.int (v7 + 1)) (fun h8 => w_G_put_70 Φ x0 x1 x2 x3 h8))))))))) (w_G_put_70 Φ x0 x1 x2 x3 h))
def w_G_put_2_s (Φ : bs_R → bs_H → Prop) (nx2 : Nat → Int32 → Int32 → Int32 → bs_H → Prop) (x0 : Nat) (x1 : Int32) (x2 : Int32) (x3 : Int32) (h : bs_H) : Prop :=
  bs_fI h x0 6 2 (fun v1 => bs_if (v1 ≤ x3) (w_G_put_29 Φ x0 x1 x2 x3 h) (bs_fA h x0 6 0 (fun v2 => bs_lL h v2 x3 (fun v3 => bs_if ((bs_ushr v3 x2) = 0) (w_G_put_29 Φ x0 x1 x2 x3 h) (nx2 x0 x1 x2 (x3 + 1) h)))))
def w_G_put_2 (Φ : bs_R → bs_H → Prop) : Nat → Nat → Int32 → Int32 → Int32 → bs_H → Prop
  | 0 => fun _ _ _ _ _ => False
  | n + 1 => fun x0 x1 x2 x3 h => w_G_put_2_s Φ (w_G_put_2 Φ n) x0 x1 x2 x3 h
def w_G_put (Φ : bs_R → bs_H → Prop) (x0 : Nat) (x1 : Int32) (x2 : Int32) (h : bs_H) : Prop :=
  w_G_put_2 Φ 1000 x0 x1 x2 0 h
theorem m_G_put_102 {l : Launch} {R : Room} {Φ : bs_R → bs_H → Prop} (hR : bs_rm 1 R) {h : bs_H} (hw : w_G_put_102 Φ h) : bs_J l K_G_put R Φ 102 [] [] h := by
  unfold w_G_put_102 at hw
  exact bj_vret (pc := 102) d_G_put_102 rfl hw
theorem m_G_put_70 {l : Launch} {R : Room} {Φ : bs_R → bs_H → Prop} (hR : bs_rm 1 R) {x0 : Nat} {x1 : Int32} {x2 : Int32} {x3 : Int32} {h : bs_H} (hw : w_G_put_70 Φ x0 x1 x2 x3 h) : bs_J l K_G_put R Φ 70 [(0, .ref x0), (1, .int x1), (2, .int x2), (3, .int x3)] [] h := by
  unfold w_G_put_70 at hw
  refine bj_iload_n (pc := 70) 3 d_G_put_70 rfl rfl ?_
  refine bj_aload_n (pc := 71) 0 d_G_put_71 rfl rfl ?_
  obtain ⟨fs, v1, hx, hv, hw⟩ := hw
  refine bj_get (pc := 72) (ci := 6) (k := 2) (fs := fs) (v := .int v1) d_G_put_72 rfl (by decide) q_184 hx hv ?_
  refine bj_icmp_ge (pc := 75) (tgt := 102) d_G_put_75 (by decide) (fun hc => ?_) (fun hc => ?_)
  · replace hw := hw.1 hc
    refine bj_sub [] (lo' := []) rfl ?_
    exact m_G_put_102 hR hw
  · replace hw := hw.2 hc
    refine bj_aload_n (pc := 78) 0 d_G_put_78 rfl rfl ?_
    obtain ⟨fs, v2, hx, hv, hw⟩ := hw
    refine bj_get (pc := 79) (ci := 6) (k := 0) (fs := fs) (v := .ref v2) d_G_put_79 rfl (by decide) q_182 hx hv ?_
    refine bj_iload_n (pc := 82) 3 d_G_put_82 rfl rfl ?_
    refine bj_dup2 (pc := 83) d_G_put_83 rfl rfl ?_
    obtain ⟨n, f, v3, hx, hin, hv, hw⟩ := hw
    refine bj_lald (pc := 84) (n := n) (f := f) d_G_put_84 hx hin hv ?_
    refine bj_lconst (pc := 85) (v := 1) d_G_put_85 (by decide) ?_
    refine bj_iload_n (pc := 86) 2 d_G_put_86 rfl rfl ?_
    refine bj_lshl (pc := 87) d_G_put_87 ?_
    refine bj_lor (pc := 88) d_G_put_88 ?_
    obtain ⟨n, f, hx, hin, hw⟩ := hw
    refine bj_last (pc := 89) (n := n) (f := f) d_G_put_89 hx hin ?_
    refine bj_aload_n (pc := 90) 0 d_G_put_90 rfl rfl ?_
    obtain ⟨fs, v5, hx, hv, hw⟩ := hw
    refine bj_get (pc := 91) (ci := 6) (k := 1) (fs := fs) (v := .ref v5) d_G_put_91 rfl (by decide) q_183 hx hv ?_
    refine bj_iload_n (pc := 94) 3 d_G_put_94 rfl rfl ?_
    refine bj_dup2 (pc := 95) d_G_put_95 rfl rfl ?_
    obtain ⟨n, f, v6, hx, hin, hv, hw⟩ := hw
    refine bj_lald (pc := 96) (n := n) (f := f) d_G_put_96 hx hin hv ?_
    refine bj_lconst (pc := 97) (v := 1) d_G_put_97 (by decide) ?_
    refine bj_iload_n (pc := 98) 1 d_G_put_98 rfl rfl ?_
    refine bj_lshl (pc := 99) d_G_put_99 ?_
    refine bj_lor (pc := 100) d_G_put_100 ?_
    obtain ⟨n, f, hx, hin, hw⟩ := hw
    refine bj_last (pc := 101) (n := n) (f := f) d_G_put_101 hx hin ?_
    refine bj_sub [] (lo' := []) rfl ?_
    exact m_G_put_102 hR hw
theorem m_G_put_29 {l : Launch} {R : Room} {Φ : bs_R → bs_H → Prop} (hR : bs_rm 1 R) {x0 : Nat} {x1 : Int32} {x2 : Int32} {x3 : Int32} {h : bs_H} (hw : w_G_put_29 Φ x0 x1 x2 x3 h) : bs_J l K_G_put R Φ 29 [(0, .ref x0), (1, .int x1), (2, .int x2), (3, .int x3)] [] h := by
  unfold w_G_put_29 at hw
  refine bj_iload_n (pc := 29) 3 d_G_put_29 rfl rfl ?_
  refine bj_aload_n (pc := 30) 0 d_G_put_30 rfl rfl ?_
  obtain ⟨fs, v1, hx, hv, hw⟩ := hw
  refine bj_get (pc := 31) (ci := 6) (k := 2) (fs := fs) (v := .int v1) d_G_put_31 rfl (by decide) q_184 hx hv ?_
  refine bj_icmp_ne (pc := 34) (tgt := 70) d_G_put_34 (by decide) (fun hc => ?_) (fun hc => ?_)
  · replace hw := hw.2 hc
    exact m_G_put_70 hR hw
  · replace hw := hw.1 hc
    refine bj_aload_n (pc := 37) 0 d_G_put_37 rfl rfl ?_
    obtain ⟨fs, v2, hx, hv, hw⟩ := hw
    refine bj_get (pc := 38) (ci := 6) (k := 2) (fs := fs) (v := .int v2) d_G_put_38 rfl (by decide) q_184 hx hv ?_
    refine bj_bipush (pc := 41) (v := 64) d_G_put_41 (by decide) ?_
    refine bj_icmp_ge (pc := 43) (tgt := 70) d_G_put_43 (by decide) (fun hc => ?_) (fun hc => ?_)
    · replace hw := hw.1 hc
      exact m_G_put_70 hR hw
    · replace hw := hw.2 hc
      refine bj_aload_n (pc := 46) 0 d_G_put_46 rfl rfl ?_
      obtain ⟨fs, v3, hx, hv, hw⟩ := hw
      refine bj_get (pc := 47) (ci := 6) (k := 0) (fs := fs) (v := .ref v3) d_G_put_47 rfl (by decide) q_182 hx hv ?_
      refine bj_iload_n (pc := 50) 3 d_G_put_50 rfl rfl ?_
      refine bj_lconst (pc := 51) (v := 0) d_G_put_51 (by decide) ?_
      obtain ⟨n, f, hx, hin, hw⟩ := hw
      refine bj_last (pc := 52) (n := n) (f := f) d_G_put_52 hx hin ?_
      refine bj_aload_n (pc := 53) 0 d_G_put_53 rfl rfl ?_
      obtain ⟨fs, v5, hx, hv, hw⟩ := hw
      refine bj_get (pc := 54) (ci := 6) (k := 1) (fs := fs) (v := .ref v5) d_G_put_54 rfl (by decide) q_183 hx hv ?_
      refine bj_iload_n (pc := 57) 3 d_G_put_57 rfl rfl ?_
      refine bj_lconst (pc := 58) (v := 0) d_G_put_58 (by decide) ?_
      obtain ⟨n, f, hx, hin, hw⟩ := hw
      refine bj_last (pc := 59) (n := n) (f := f) d_G_put_59 hx hin ?_
      refine bj_aload_n (pc := 60) 0 d_G_put_60 rfl rfl ?_
      refine bj_dup (pc := 61) d_G_put_61 rfl ?_
      obtain ⟨fs, v7, hx, hv, hw⟩ := hw
      refine bj_get (pc := 62) (ci := 6) (k := 2) (fs := fs) (v := .int v7) d_G_put_62 rfl (by decide) q_184 hx hv ?_
      refine bj_iconst (pc := 65) (v := 1) d_G_put_65 (by decide) ?_
      refine bj_iadd (pc := 66) d_G_put_66 ?_
      obtain ⟨fs, hx, hlen, hw⟩ := hw
      refine bj_put (pc := 67) (ci := 6) (k := 2) (fs := fs) (v := (.int (v7 + 1))) (ty := .int) d_G_put_67 rfl (by decide) q_184 rfl (by decide +kernel) rfl rfl hx hlen ?_
      exact m_G_put_70 hR hw
theorem m_G_put_2 {l : Launch} {R : Room} {Φ : bs_R → bs_H → Prop} (hR : bs_rm 1 R) : ∀ (n : Nat) (x0 : Nat) (x1 : Int32) (x2 : Int32) (x3 : Int32) (h : bs_H), w_G_put_2 Φ n x0 x1 x2 x3 h → bs_J l K_G_put R Φ 2 [(0, .ref x0), (1, .int x1), (2, .int x2), (3, .int x3)] [] h := by
  intro n
  induction n with
  | zero => intro x0 x1 x2 x3 h hw; exact hw.elim
  | succ n ih =>
    have hnx2 := ih
    intro x0 x1 x2 x3 h hw
    replace hw : w_G_put_2_s Φ (w_G_put_2 Φ n) x0 x1 x2 x3 h := hw
    unfold w_G_put_2_s at hw
    refine bj_iload_n (pc := 2) 3 d_G_put_2 rfl rfl ?_
    refine bj_aload_n (pc := 3) 0 d_G_put_3 rfl rfl ?_
    obtain ⟨fs, v1, hx, hv, hw⟩ := hw
    refine bj_get (pc := 4) (ci := 6) (k := 2) (fs := fs) (v := .int v1) d_G_put_4 rfl (by decide) q_184 hx hv ?_
    refine bj_icmp_ge (pc := 7) (tgt := 29) d_G_put_7 (by decide) (fun hc => ?_) (fun hc => ?_)
    · replace hw := hw.1 hc
      exact m_G_put_29 hR hw
    · replace hw := hw.2 hc
      refine bj_aload_n (pc := 10) 0 d_G_put_10 rfl rfl ?_
      obtain ⟨fs, v2, hx, hv, hw⟩ := hw
      refine bj_get (pc := 11) (ci := 6) (k := 0) (fs := fs) (v := .ref v2) d_G_put_11 rfl (by decide) q_182 hx hv ?_
      refine bj_iload_n (pc := 14) 3 d_G_put_14 rfl rfl ?_
      obtain ⟨n, f, v3, hx, hin, hv, hw⟩ := hw
      refine bj_lald (pc := 15) (n := n) (f := f) d_G_put_15 hx hin hv ?_
      refine bj_iload_n (pc := 16) 2 d_G_put_16 rfl rfl ?_
      refine bj_lushr (pc := 17) d_G_put_17 ?_
      refine bj_lconst (pc := 18) (v := 0) d_G_put_18 (by decide) ?_
      refine bj_lc_eq (pc := 19) (tgt := 29) d_G_put_19 d_G_put_20 (by decide) (fun hc => ?_) (fun hc => ?_)
      · replace hw := hw.1 hc
        exact m_G_put_29 hR hw
      · replace hw := hw.2 hc
        refine bj_iinc (pc := 23) (v := (x3 + 1)) (lo' := [(3, .int (x3 + 1)), (0, .ref x0), (1, .int x1), (2, .int x2)]) 3 d_G_put_23 rfl rfl (by decide) rfl ?_
        refine bj_goto (pc := 26) (tgt := 2) d_G_put_26 (by decide) ?_
        refine bj_sub [1, 2, 3, 0] (lo' := [(0, .ref x0), (1, .int x1), (2, .int x2), (3, .int (x3 + 1))]) rfl ?_
        exact hnx2 _ _ _ _ _ hw
theorem m_G_put {l : Launch} {R : Room} (hR : bs_rm 1 R) {Φ : bs_R → bs_H → Prop} {x0 : Nat} {x1 : Int32} {x2 : Int32} {h : bs_H} (hw : w_G_put Φ x0 x1 x2 h) : bs_J l K_G_put R Φ 0 [(0, .ref x0), (1, .int x1), (2, .int x2)] [] h := by
  unfold w_G_put at hw
  refine bj_iconst (pc := 0) (v := 0) d_G_put_0 (by decide) ?_
  refine bj_istore_n (pc := 1) (lo' := [(3, .int 0), (0, .ref x0), (1, .int x1), (2, .int x2)]) d_G_put_1 rfl (by decide) rfl ?_
  refine bj_sub [1, 2, 3, 0] (lo' := [(0, .ref x0), (1, .int x1), (2, .int x2), (3, .int 0)]) rfl ?_
  exact m_G_put_2 hR 1000 _ _ _ _ _ hw
theorem d_G_write_0 : decode prog_3_method_2_code 0 = .ok (.aload_n 0, 1) := by decide +kernel
theorem d_G_write_1 : decode prog_3_method_2_code 1 = .ok (.iconst 0, 1) := by decide +kernel
theorem d_G_write_2 : decode prog_3_method_2_code 2 = .ok (.putfield 18, 3) := by decide +kernel
theorem d_G_write_5 : decode prog_3_method_2_code 5 = .ok (.iconst 0, 1) := by decide +kernel
theorem d_G_write_6 : decode prog_3_method_2_code 6 = .ok (.istore_n 3, 1) := by decide +kernel
theorem d_G_write_7 : decode prog_3_method_2_code 7 = .ok (.iload_n 3, 1) := by decide +kernel
theorem d_G_write_8 : decode prog_3_method_2_code 8 = .ok (.aload_n 1, 1) := by decide +kernel
theorem d_G_write_9 : decode prog_3_method_2_code 9 = .ok (.invokevirtual 22, 3) := by decide +kernel
theorem d_G_write_12 : decode prog_3_method_2_code 12 = .ok (.if_icmp .ge 27, 3) := by decide +kernel
theorem d_G_write_15 : decode prog_3_method_2_code 15 = .ok (.aload_n 1, 1) := by decide +kernel
theorem d_G_write_16 : decode prog_3_method_2_code 16 = .ok (.iload_n 3, 1) := by decide +kernel
theorem d_G_write_17 : decode prog_3_method_2_code 17 = .ok (.invokevirtual 28, 3) := by decide +kernel
theorem d_G_write_20 : decode prog_3_method_2_code 20 = .ok (.ifCond .eq 13, 3) := by decide +kernel
theorem d_G_write_23 : decode prog_3_method_2_code 23 = .ok (.aload_n 0, 1) := by decide +kernel
theorem d_G_write_24 : decode prog_3_method_2_code 24 = .ok (.iload_n 3, 1) := by decide +kernel
theorem d_G_write_25 : decode prog_3_method_2_code 25 = .ok (.aload_n 1, 1) := by decide +kernel
theorem d_G_write_26 : decode prog_3_method_2_code 26 = .ok (.iload_n 3, 1) := by decide +kernel
theorem d_G_write_27 : decode prog_3_method_2_code 27 = .ok (.invokevirtual 32, 3) := by decide +kernel
theorem d_G_write_30 : decode prog_3_method_2_code 30 = .ok (.invokevirtual 36, 3) := by decide +kernel
theorem d_G_write_33 : decode prog_3_method_2_code 33 = .ok (.iinc 3 1, 3) := by decide +kernel
theorem d_G_write_36 : decode prog_3_method_2_code 36 = .ok (.goto (-29), 3) := by decide +kernel
theorem d_G_write_39 : decode prog_3_method_2_code 39 = .ok (.iconst 0, 1) := by decide +kernel
theorem d_G_write_40 : decode prog_3_method_2_code 40 = .ok (.istore_n 3, 1) := by decide +kernel
theorem d_G_write_41 : decode prog_3_method_2_code 41 = .ok (.iload_n 3, 1) := by decide +kernel
theorem d_G_write_42 : decode prog_3_method_2_code 42 = .ok (.aload_n 0, 1) := by decide +kernel
theorem d_G_write_43 : decode prog_3_method_2_code 43 = .ok (.getfield 18, 3) := by decide +kernel
theorem d_G_write_46 : decode prog_3_method_2_code 46 = .ok (.if_icmp .ge 42, 3) := by decide +kernel
theorem d_G_write_49 : decode prog_3_method_2_code 49 = .ok (.aload_n 2, 1) := by decide +kernel
theorem d_G_write_50 : decode prog_3_method_2_code 50 = .ok (.bipush 7, 2) := by decide +kernel
theorem d_G_write_52 : decode prog_3_method_2_code 52 = .ok (.iconst 0, 1) := by decide +kernel
theorem d_G_write_53 : decode prog_3_method_2_code 53 = .ok (.aload_n 0, 1) := by decide +kernel
theorem d_G_write_54 : decode prog_3_method_2_code 54 = .ok (.getfield 9, 3) := by decide +kernel
theorem d_G_write_57 : decode prog_3_method_2_code 57 = .ok (.iload_n 3, 1) := by decide +kernel
theorem d_G_write_58 : decode prog_3_method_2_code 58 = .ok (.laload, 1) := by decide +kernel
theorem d_G_write_59 : decode prog_3_method_2_code 59 = .ok (.invokevirtual 40, 3) := by decide +kernel
theorem d_G_write_62 : decode prog_3_method_2_code 62 = .ok (.aload_n 2, 1) := by decide +kernel
theorem d_G_write_63 : decode prog_3_method_2_code 63 = .ok (.bipush 8, 2) := by decide +kernel
theorem d_G_write_65 : decode prog_3_method_2_code 65 = .ok (.iconst 0, 1) := by decide +kernel
theorem d_G_write_66 : decode prog_3_method_2_code 66 = .ok (.aload_n 0, 1) := by decide +kernel
theorem d_G_write_67 : decode prog_3_method_2_code 67 = .ok (.getfield 15, 3) := by decide +kernel
theorem d_G_write_70 : decode prog_3_method_2_code 70 = .ok (.iload_n 3, 1) := by decide +kernel
theorem d_G_write_71 : decode prog_3_method_2_code 71 = .ok (.laload, 1) := by decide +kernel
theorem d_G_write_72 : decode prog_3_method_2_code 72 = .ok (.invokevirtual 40, 3) := by decide +kernel
theorem d_G_write_75 : decode prog_3_method_2_code 75 = .ok (.aload_n 2, 1) := by decide +kernel
theorem d_G_write_76 : decode prog_3_method_2_code 76 = .ok (.iconst 3, 1) := by decide +kernel
theorem d_G_write_77 : decode prog_3_method_2_code 77 = .ok (.iconst 0, 1) := by decide +kernel
theorem d_G_write_78 : decode prog_3_method_2_code 78 = .ok (.lconst 0, 1) := by decide +kernel
theorem d_G_write_79 : decode prog_3_method_2_code 79 = .ok (.invokevirtual 40, 3) := by decide +kernel
theorem d_G_write_82 : decode prog_3_method_2_code 82 = .ok (.iinc 3 1, 3) := by decide +kernel
theorem d_G_write_85 : decode prog_3_method_2_code 85 = .ok (.goto (-44), 3) := by decide +kernel
theorem d_G_write_88 : decode prog_3_method_2_code 88 = .ok (.aload_n 2, 1) := by decide +kernel
theorem d_G_write_89 : decode prog_3_method_2_code 89 = .ok (.aload_n 1, 1) := by decide +kernel
theorem d_G_write_90 : decode prog_3_method_2_code 90 = .ok (.invokevirtual 46, 3) := by decide +kernel
theorem d_G_write_93 : decode prog_3_method_2_code 93 = .ok (.invokevirtual 50, 3) := by decide +kernel
theorem d_G_write_96 : decode prog_3_method_2_code 96 = .ok (.return_, 1) := by decide +kernel
def w_G_write_41_s (Φ : bs_R → bs_H → Prop) (nx41 : Nat → Nat → Nat → Int32 → bs_H → Prop) (x0 : Nat) (x1 : Nat) (x2 : Nat) (x3 : Int32) (h : bs_H) : Prop :=
  bs_fI h x0 6 2 (fun v1 => bs_if (v1 ≤ x3) (bs_on h x1 1 (w_M_bitsThatAreOne (bs_kL Φ fun v2 h3 => (bs_on h3 x2 2 (w_P_appendSet (bs_kV Φ fun h4 => (Φ (.ok none) h4)) x2 v2 h3))) x1 h)) (bs_fA h x0 6 0 (fun v5 => bs_lL h v5 x3 (fun v6 => bs_on h x2 2 (w_P_append (bs_kV Φ fun h7 => (bs_fA h7 x0 6 1 (fun v8 => bs_lL h7 v8 x3 (fun v9 => bs_on h7 x2 2 (w_P_append (bs_kV Φ fun h10 => (bs_on h10 x2 2 (w_P_append (bs_kV Φ fun h11 => (nx41 x0 x1 x2 (x3 + 1) h11)) x2 3 0 0 h10))) x2 8 0 v9 h7))))) x2 7 0 v6 h)))))
def w_G_write_41 (Φ : bs_R → bs_H → Prop) : Nat → Nat → Nat → Nat → Int32 → bs_H → Prop
  | 0 => fun _ _ _ _ _ => False
  | n + 1 => fun x0 x1 x2 x3 h => w_G_write_41_s Φ (w_G_write_41 Φ n) x0 x1 x2 x3 h
def w_G_write_33 (Φ : bs_R → bs_H → Prop) (nx7 : Nat → Nat → Nat → Int32 → bs_H → Prop) (x0 : Nat) (x1 : Nat) (x2 : Nat) (x3 : Int32) (h : bs_H) : Prop :=
  nx7 x0 x1 x2 (x3 + 1) h
def w_G_write_7_s (Φ : bs_R → bs_H → Prop) (nx7 : Nat → Nat → Nat → Int32 → bs_H → Prop) (x0 : Nat) (x1 : Nat) (x2 : Nat) (x3 : Int32) (h : bs_H) : Prop :=
  bs_on h x1 1 (w_M_bits (bs_kI Φ fun v1 h2 => (bs_if (v1 ≤ x3) (w_G_write_41 Φ 1000 x0 x1 x2 0 h2) (bs_on h2 x1 1 (w_M_comesFromWord (bs_kI Φ fun v3 h4 => (bs_if (v3 = 0) (w_G_write_33 Φ nx7 x0 x1 x2 x3 h4) (bs_on h4 x1 1 (w_M_sourceOf (bs_kI Φ fun v5 h6 => (bs_on h6 x0 6 (w_G_put (bs_kV Φ fun h7 => (w_G_write_33 Φ nx7 x0 x1 x2 x3 h7)) x0 x3 v5 h6))) x1 x3 h4)))) x1 x3 h2)))) x1 h)
def w_G_write_7 (Φ : bs_R → bs_H → Prop) : Nat → Nat → Nat → Nat → Int32 → bs_H → Prop
  | 0 => fun _ _ _ _ _ => False
  | n + 1 => fun x0 x1 x2 x3 h => w_G_write_7_s Φ (w_G_write_7 Φ n) x0 x1 x2 x3 h
def w_G_write (Φ : bs_R → bs_H → Prop) (x0 : Nat) (x1 : Nat) (x2 : Nat) (h : bs_H) : Prop :=
  bs_p h x0 6 2 (.int 0) (fun h1 => w_G_write_7 Φ 1000 x0 x1 x2 0 h1)
theorem m_G_write_41 {l : Launch} {R : Room} {Φ : bs_R → bs_H → Prop} (hR : bs_rm 4 R) : ∀ (n : Nat) (x0 : Nat) (x1 : Nat) (x2 : Nat) (x3 : Int32) (h : bs_H), w_G_write_41 Φ n x0 x1 x2 x3 h → bs_J l K_G_write R Φ 41 [(0, .ref x0), (1, .ref x1), (2, .ref x2), (3, .int x3)] [] h := by
  intro n
  induction n with
  | zero => intro x0 x1 x2 x3 h hw; exact hw.elim
  | succ n ih =>
    have hnx41 := ih
    intro x0 x1 x2 x3 h hw
    replace hw : w_G_write_41_s Φ (w_G_write_41 Φ n) x0 x1 x2 x3 h := hw
    unfold w_G_write_41_s at hw
    refine bj_iload_n (pc := 41) 3 d_G_write_41 rfl rfl ?_
    refine bj_aload_n (pc := 42) 0 d_G_write_42 rfl rfl ?_
    obtain ⟨fs, v1, hx, hv, hw⟩ := hw
    refine bj_get (pc := 43) (ci := 6) (k := 2) (fs := fs) (v := .int v1) d_G_write_43 rfl (by decide) q_184 hx hv ?_
    refine bj_icmp_ge (pc := 46) (tgt := 88) d_G_write_46 (by decide) (fun hc => ?_) (fun hc => ?_)
    · replace hw := hw.1 hc
      refine bj_aload_n (pc := 88) 2 d_G_write_88 rfl rfl ?_
      refine bj_aload_n (pc := 89) 1 d_G_write_89 rfl rfl ?_
      obtain ⟨⟨fs, hx⟩, hw⟩ := hw
      refine bj_callV (pc := 90) (np := 0) (K' := K_M_bitsThatAreOne) (argsL := []) (st := [.ref x2]) (d1 := 1) (ci := 1) (fs := fs) rfl d_G_write_90 (Or.inl q_590) q_292 rfl q_293 c_M_bitsThatAreOne n_M_bitsThatAreOne hR (by decide) (by decide) rfl (Nat.le_of_ble_eq_true rfl) rfl (Nat.le_of_ble_eq_true rfl) hx (fun R' hR' => m_M_bitsThatAreOne hR' hw) (bs_kL_ok fun v2 h3 hw => ?_) (fun _ _ z => z)
      obtain ⟨⟨fs, hx⟩, hw⟩ := hw
      refine bj_callV (pc := 93) (np := 1) (K' := K_P_appendSet) (argsL := [.long v2]) (st := []) (d1 := 3) (ci := 2) (fs := fs) rfl d_G_write_93 (Or.inl q_591) q_538 rfl q_539 c_P_appendSet n_P_appendSet hR (by decide) (by decide) rfl (Nat.le_of_ble_eq_true rfl) rfl (Nat.le_of_ble_eq_true rfl) hx (fun R' hR' => m_P_appendSet hR' hw) (bs_kV_ok fun h4 hw => ?_) (fun _ _ z => z)
      exact bj_vret (pc := 96) d_G_write_96 rfl hw
    · replace hw := hw.2 hc
      refine bj_aload_n (pc := 49) 2 d_G_write_49 rfl rfl ?_
      refine bj_bipush (pc := 50) (v := 7) d_G_write_50 (by decide) ?_
      refine bj_iconst (pc := 52) (v := 0) d_G_write_52 (by decide) ?_
      refine bj_aload_n (pc := 53) 0 d_G_write_53 rfl rfl ?_
      obtain ⟨fs, v5, hx, hv, hw⟩ := hw
      refine bj_get (pc := 54) (ci := 6) (k := 0) (fs := fs) (v := .ref v5) d_G_write_54 rfl (by decide) q_182 hx hv ?_
      refine bj_iload_n (pc := 57) 3 d_G_write_57 rfl rfl ?_
      obtain ⟨n, f, v6, hx, hin, hv, hw⟩ := hw
      refine bj_lald (pc := 58) (n := n) (f := f) d_G_write_58 hx hin hv ?_
      obtain ⟨⟨fs, hx⟩, hw⟩ := hw
      refine bj_callV (pc := 59) (np := 3) (K' := K_P_append) (argsL := [.int 7, .int 0, .long v6]) (st := []) (d1 := 2) (ci := 2) (fs := fs) rfl d_G_write_59 (Or.inl q_589) q_529 rfl q_530 c_P_append n_P_append hR (by decide) (by decide) rfl (Nat.le_of_ble_eq_true rfl) rfl (Nat.le_of_ble_eq_true rfl) hx (fun R' hR' => m_P_append hR' hw) (bs_kV_ok fun h7 hw => ?_) (fun _ _ z => z)
      refine bj_aload_n (pc := 62) 2 d_G_write_62 rfl rfl ?_
      refine bj_bipush (pc := 63) (v := 8) d_G_write_63 (by decide) ?_
      refine bj_iconst (pc := 65) (v := 0) d_G_write_65 (by decide) ?_
      refine bj_aload_n (pc := 66) 0 d_G_write_66 rfl rfl ?_
      obtain ⟨fs, v8, hx, hv, hw⟩ := hw
      refine bj_get (pc := 67) (ci := 6) (k := 1) (fs := fs) (v := .ref v8) d_G_write_67 rfl (by decide) q_183 hx hv ?_
      refine bj_iload_n (pc := 70) 3 d_G_write_70 rfl rfl ?_
      obtain ⟨n, f, v9, hx, hin, hv, hw⟩ := hw
      refine bj_lald (pc := 71) (n := n) (f := f) d_G_write_71 hx hin hv ?_
      obtain ⟨⟨fs, hx⟩, hw⟩ := hw
      refine bj_callV (pc := 72) (np := 3) (K' := K_P_append) (argsL := [.int 8, .int 0, .long v9]) (st := []) (d1 := 2) (ci := 2) (fs := fs) rfl d_G_write_72 (Or.inl q_589) q_529 rfl q_530 c_P_append n_P_append hR (by decide) (by decide) rfl (Nat.le_of_ble_eq_true rfl) rfl (Nat.le_of_ble_eq_true rfl) hx (fun R' hR' => m_P_append hR' hw) (bs_kV_ok fun h10 hw => ?_) (fun _ _ z => z)
      refine bj_aload_n (pc := 75) 2 d_G_write_75 rfl rfl ?_
      refine bj_iconst (pc := 76) (v := 3) d_G_write_76 (by decide) ?_
      refine bj_iconst (pc := 77) (v := 0) d_G_write_77 (by decide) ?_
      refine bj_lconst (pc := 78) (v := 0) d_G_write_78 (by decide) ?_
      obtain ⟨⟨fs, hx⟩, hw⟩ := hw
      refine bj_callV (pc := 79) (np := 3) (K' := K_P_append) (argsL := [.int 3, .int 0, .long 0]) (st := []) (d1 := 2) (ci := 2) (fs := fs) rfl d_G_write_79 (Or.inl q_589) q_529 rfl q_530 c_P_append n_P_append hR (by decide) (by decide) rfl (Nat.le_of_ble_eq_true rfl) rfl (Nat.le_of_ble_eq_true rfl) hx (fun R' hR' => m_P_append hR' hw) (bs_kV_ok fun h11 hw => ?_) (fun _ _ z => z)
      refine bj_iinc (pc := 82) (v := (x3 + 1)) (lo' := [(3, .int (x3 + 1)), (0, .ref x0), (1, .ref x1), (2, .ref x2)]) 3 d_G_write_82 rfl rfl (by decide) rfl ?_
      refine bj_goto (pc := 85) (tgt := 41) d_G_write_85 (by decide) ?_
      refine bj_sub [1, 2, 3, 0] (lo' := [(0, .ref x0), (1, .ref x1), (2, .ref x2), (3, .int (x3 + 1))]) rfl ?_
      exact hnx41 _ _ _ _ _ hw
theorem m_G_write_33 {l : Launch} {R : Room} {Φ : bs_R → bs_H → Prop} (hR : bs_rm 4 R) {nx7 : Nat → Nat → Nat → Int32 → bs_H → Prop} (hnx7 : ∀ (x0 : Nat) (x1 : Nat) (x2 : Nat) (x3 : Int32) (h : bs_H), nx7 x0 x1 x2 x3 h → bs_J l K_G_write R Φ 7 [(0, .ref x0), (1, .ref x1), (2, .ref x2), (3, .int x3)] [] h) {x0 : Nat} {x1 : Nat} {x2 : Nat} {x3 : Int32} {h : bs_H} (hw : w_G_write_33 Φ nx7 x0 x1 x2 x3 h) : bs_J l K_G_write R Φ 33 [(0, .ref x0), (1, .ref x1), (2, .ref x2), (3, .int x3)] [] h := by
  unfold w_G_write_33 at hw
  refine bj_iinc (pc := 33) (v := (x3 + 1)) (lo' := [(3, .int (x3 + 1)), (0, .ref x0), (1, .ref x1), (2, .ref x2)]) 3 d_G_write_33 rfl rfl (by decide) rfl ?_
  refine bj_goto (pc := 36) (tgt := 7) d_G_write_36 (by decide) ?_
  refine bj_sub [1, 2, 3, 0] (lo' := [(0, .ref x0), (1, .ref x1), (2, .ref x2), (3, .int (x3 + 1))]) rfl ?_
  exact hnx7 _ _ _ _ _ hw
theorem m_G_write_7 {l : Launch} {R : Room} {Φ : bs_R → bs_H → Prop} (hR : bs_rm 4 R) : ∀ (n : Nat) (x0 : Nat) (x1 : Nat) (x2 : Nat) (x3 : Int32) (h : bs_H), w_G_write_7 Φ n x0 x1 x2 x3 h → bs_J l K_G_write R Φ 7 [(0, .ref x0), (1, .ref x1), (2, .ref x2), (3, .int x3)] [] h := by
  intro n
  induction n with
  | zero => intro x0 x1 x2 x3 h hw; exact hw.elim
  | succ n ih =>
    have hnx7 := ih
    intro x0 x1 x2 x3 h hw
    replace hw : w_G_write_7_s Φ (w_G_write_7 Φ n) x0 x1 x2 x3 h := hw
    unfold w_G_write_7_s at hw
    refine bj_iload_n (pc := 7) 3 d_G_write_7 rfl rfl ?_
    refine bj_aload_n (pc := 8) 1 d_G_write_8 rfl rfl ?_
    obtain ⟨⟨fs, hx⟩, hw⟩ := hw
    refine bj_callV (pc := 9) (np := 0) (K' := K_M_bits) (argsL := []) (st := [.int x3]) (d1 := 1) (ci := 1) (fs := fs) rfl d_G_write_9 (Or.inl q_582) q_237 rfl q_238 c_M_bits n_M_bits hR (by decide) (by decide) rfl (Nat.le_of_ble_eq_true rfl) rfl (Nat.le_of_ble_eq_true rfl) hx (fun R' hR' => m_M_bits hR' hw) (bs_kI_ok fun v1 h2 hw => ?_) (fun _ _ z => z)
    refine bj_icmp_ge (pc := 12) (tgt := 39) d_G_write_12 (by decide) (fun hc => ?_) (fun hc => ?_)
    · replace hw := hw.1 hc
      refine bj_iconst (pc := 39) (v := 0) d_G_write_39 (by decide) ?_
      refine bj_istore_n (pc := 40) (lo' := [(3, .int 0), (0, .ref x0), (1, .ref x1), (2, .ref x2)]) d_G_write_40 rfl (by decide) rfl ?_
      refine bj_sub [1, 2, 3, 0] (lo' := [(0, .ref x0), (1, .ref x1), (2, .ref x2), (3, .int 0)]) rfl ?_
      exact m_G_write_41 hR 1000 _ _ _ _ _ hw
    · replace hw := hw.2 hc
      refine bj_aload_n (pc := 15) 1 d_G_write_15 rfl rfl ?_
      refine bj_iload_n (pc := 16) 3 d_G_write_16 rfl rfl ?_
      obtain ⟨⟨fs, hx⟩, hw⟩ := hw
      refine bj_callV (pc := 17) (np := 1) (K' := K_M_comesFromWord) (argsL := [.int x3]) (st := []) (d1 := 1) (ci := 1) (fs := fs) rfl d_G_write_17 (Or.inl q_583) q_296 rfl q_297 c_M_comesFromWord n_M_comesFromWord hR (by decide) (by decide) rfl (Nat.le_of_ble_eq_true rfl) rfl (Nat.le_of_ble_eq_true rfl) hx (fun R' hR' => m_M_comesFromWord hR' hw) (bs_kI_ok fun v3 h4 hw => ?_) (fun _ _ z => z)
      refine bj_if_eq (pc := 20) (tgt := 33) d_G_write_20 (by decide) (fun hc => ?_) (fun hc => ?_)
      · replace hw := hw.1 hc
        exact m_G_write_33 hR hnx7 hw
      · replace hw := hw.2 hc
        refine bj_aload_n (pc := 23) 0 d_G_write_23 rfl rfl ?_
        refine bj_iload_n (pc := 24) 3 d_G_write_24 rfl rfl ?_
        refine bj_aload_n (pc := 25) 1 d_G_write_25 rfl rfl ?_
        refine bj_iload_n (pc := 26) 3 d_G_write_26 rfl rfl ?_
        obtain ⟨⟨fs, hx⟩, hw⟩ := hw
        refine bj_callV (pc := 27) (np := 1) (K' := K_M_sourceOf) (argsL := [.int x3]) (st := [.int x3, .ref x0]) (d1 := 1) (ci := 1) (fs := fs) rfl d_G_write_27 (Or.inl q_584) q_352 rfl q_353 c_M_sourceOf n_M_sourceOf hR (by decide) (by decide) rfl (Nat.le_of_ble_eq_true rfl) rfl (Nat.le_of_ble_eq_true rfl) hx (fun R' hR' => m_M_sourceOf hR' hw) (bs_kI_ok fun v5 h6 hw => ?_) (fun _ _ z => z)
        obtain ⟨⟨fs, hx⟩, hw⟩ := hw
        refine bj_callV (pc := 30) (np := 2) (K' := K_G_put) (argsL := [.int x3, .int v5]) (st := []) (d1 := 1) (ci := 6) (fs := fs) rfl d_G_write_30 (Or.inl q_585) q_587 rfl q_20 c_G_put n_G_put hR (by decide) (by decide) rfl (Nat.le_of_ble_eq_true rfl) rfl (Nat.le_of_ble_eq_true rfl) hx (fun R' hR' => m_G_put hR' hw) (bs_kV_ok fun h7 hw => ?_) (fun _ _ z => z)
        exact m_G_write_33 hR hnx7 hw
theorem m_G_write {l : Launch} {R : Room} (hR : bs_rm 4 R) {Φ : bs_R → bs_H → Prop} {x0 : Nat} {x1 : Nat} {x2 : Nat} {h : bs_H} (hw : w_G_write Φ x0 x1 x2 h) : bs_J l K_G_write R Φ 0 [(0, .ref x0), (1, .ref x1), (2, .ref x2)] [] h := by
  unfold w_G_write at hw
  refine bj_aload_n (pc := 0) 0 d_G_write_0 rfl rfl ?_
  refine bj_iconst (pc := 1) (v := 0) d_G_write_1 (by decide) ?_
  obtain ⟨fs, hx, hlen, hw⟩ := hw
  refine bj_put (pc := 2) (ci := 6) (k := 2) (fs := fs) (v := (.int 0)) (ty := .int) d_G_write_2 rfl (by decide) q_184 rfl (by decide +kernel) rfl rfl hx hlen ?_
  refine bj_iconst (pc := 5) (v := 0) d_G_write_5 (by decide) ?_
  refine bj_istore_n (pc := 6) (lo' := [(3, .int 0), (0, .ref x0), (1, .ref x1), (2, .ref x2)]) d_G_write_6 rfl (by decide) rfl ?_
  refine bj_sub [1, 2, 3, 0] (lo' := [(0, .ref x0), (1, .ref x1), (2, .ref x2), (3, .int 0)]) rfl ?_
  exact m_G_write_7 hR 1000 _ _ _ _ _ hw
theorem d_P_length_0 : decode prog_4_method_2_code 0 = .ok (.aload_n 0, 1) := by decide +kernel
theorem d_P_length_1 : decode prog_4_method_2_code 1 = .ok (.getfield 22, 3) := by decide +kernel
theorem d_P_length_4 : decode prog_4_method_2_code 4 = .ok (.ireturn, 1) := by decide +kernel
def w_P_length (Φ : bs_R → bs_H → Prop) (x0 : Nat) (h : bs_H) : Prop :=
  bs_fI h x0 2 3 (fun v1 => Φ (.ok (some (.int v1))) h)
theorem m_P_length {l : Launch} {R : Room} (hR : bs_rm 1 R) {Φ : bs_R → bs_H → Prop} {x0 : Nat} {h : bs_H} (hw : w_P_length Φ x0 h) : bs_J l K_P_length R Φ 0 [(0, .ref x0)] [] h := by
  unfold w_P_length at hw
  refine bj_aload_n (pc := 0) 0 d_P_length_0 rfl rfl ?_
  obtain ⟨fs, v1, hx, hv, hw⟩ := hw
  refine bj_get (pc := 1) (ci := 2) (k := 3) (fs := fs) (v := .int v1) d_P_length_1 rfl (by decide) q_96 hx hv ?_
  exact bj_iret (pc := 4) d_P_length_4 rfl hw
theorem d_B_make_0 : decode prog_1_method_5_code 0 = .ok (.iload_n 1, 1) := by decide +kernel
theorem d_B_make_1 : decode prog_1_method_5_code 1 = .ok (.ifCond .lt 8, 3) := by decide +kernel
theorem d_B_make_4 : decode prog_1_method_5_code 4 = .ok (.iload_n 1, 1) := by decide +kernel
theorem d_B_make_5 : decode prog_1_method_5_code 5 = .ok (.iconst 3, 1) := by decide +kernel
theorem d_B_make_6 : decode prog_1_method_5_code 6 = .ok (.if_icmp .le 11, 3) := by decide +kernel
theorem d_B_make_9 : decode prog_1_method_5_code 9 = .ok (.new 66, 3) := by decide +kernel
theorem d_B_make_12 : decode prog_1_method_5_code 12 = .ok (.dup, 1) := by decide +kernel
theorem d_B_make_13 : decode prog_1_method_5_code 13 = .ok (.invokespecial 68, 3) := by decide +kernel
theorem d_B_make_16 : decode prog_1_method_5_code 16 = .ok (.athrow, 1) := by decide +kernel
theorem d_B_make_17 : decode prog_1_method_5_code 17 = .ok (.iload_n 1, 1) := by decide +kernel
theorem d_B_make_18 : decode prog_1_method_5_code 18 = .ok (.iconst 2, 1) := by decide +kernel
theorem d_B_make_19 : decode prog_1_method_5_code 19 = .ok (.if_icmp .ne 34, 3) := by decide +kernel
theorem d_B_make_22 : decode prog_1_method_5_code 22 = .ok (.aload_n 0, 1) := by decide +kernel
theorem d_B_make_23 : decode prog_1_method_5_code 23 = .ok (.getfield 12, 3) := by decide +kernel
theorem d_B_make_26 : decode prog_1_method_5_code 26 = .ok (.invokevirtual 87, 3) := by decide +kernel
theorem d_B_make_29 : decode prog_1_method_5_code 29 = .ok (.ifCond .eq 16, 3) := by decide +kernel
theorem d_B_make_32 : decode prog_1_method_5_code 32 = .ok (.aload_n 0, 1) := by decide +kernel
theorem d_B_make_33 : decode prog_1_method_5_code 33 = .ok (.getfield 12, 3) := by decide +kernel
theorem d_B_make_36 : decode prog_1_method_5_code 36 = .ok (.invokevirtual 91, 3) := by decide +kernel
theorem d_B_make_39 : decode prog_1_method_5_code 39 = .ok (.invokestatic 95, 3) := by decide +kernel
theorem d_B_make_42 : decode prog_1_method_5_code 42 = .ok (.ifCond .ne 11, 3) := by decide +kernel
theorem d_B_make_45 : decode prog_1_method_5_code 45 = .ok (.new 98, 3) := by decide +kernel
theorem d_B_make_48 : decode prog_1_method_5_code 48 = .ok (.dup, 1) := by decide +kernel
theorem d_B_make_49 : decode prog_1_method_5_code 49 = .ok (.invokespecial 100, 3) := by decide +kernel
theorem d_B_make_52 : decode prog_1_method_5_code 52 = .ok (.athrow, 1) := by decide +kernel
theorem d_B_make_53 : decode prog_1_method_5_code 53 = .ok (.aload_n 0, 1) := by decide +kernel
theorem d_B_make_54 : decode prog_1_method_5_code 54 = .ok (.getfield 30, 3) := by decide +kernel
theorem d_B_make_57 : decode prog_1_method_5_code 57 = .ok (.invokevirtual 69, 3) := by decide +kernel
theorem d_B_make_60 : decode prog_1_method_5_code 60 = .ok (.iload_n 1, 1) := by decide +kernel
theorem d_B_make_61 : decode prog_1_method_5_code 61 = .ok (.ifCond .ne 10, 3) := by decide +kernel
theorem d_B_make_64 : decode prog_1_method_5_code 64 = .ok (.aload_n 0, 1) := by decide +kernel
theorem d_B_make_65 : decode prog_1_method_5_code 65 = .ok (.invokevirtual 101, 3) := by decide +kernel
theorem d_B_make_68 : decode prog_1_method_5_code 68 = .ok (.goto 53, 3) := by decide +kernel
theorem d_B_make_71 : decode prog_1_method_5_code 71 = .ok (.iload_n 1, 1) := by decide +kernel
theorem d_B_make_72 : decode prog_1_method_5_code 72 = .ok (.iconst 1, 1) := by decide +kernel
theorem d_B_make_73 : decode prog_1_method_5_code 73 = .ok (.if_icmp .ne 10, 3) := by decide +kernel
theorem d_B_make_76 : decode prog_1_method_5_code 76 = .ok (.aload_n 0, 1) := by decide +kernel
theorem d_B_make_77 : decode prog_1_method_5_code 77 = .ok (.invokevirtual 104, 3) := by decide +kernel
theorem d_B_make_80 : decode prog_1_method_5_code 80 = .ok (.goto 41, 3) := by decide +kernel
theorem d_B_make_83 : decode prog_1_method_5_code 83 = .ok (.iload_n 1, 1) := by decide +kernel
theorem d_B_make_84 : decode prog_1_method_5_code 84 = .ok (.iconst 2, 1) := by decide +kernel
theorem d_B_make_85 : decode prog_1_method_5_code 85 = .ok (.if_icmp .ne 21, 3) := by decide +kernel
theorem d_B_make_88 : decode prog_1_method_5_code 88 = .ok (.aload_n 0, 1) := by decide +kernel
theorem d_B_make_89 : decode prog_1_method_5_code 89 = .ok (.getfield 51, 3) := by decide +kernel
theorem d_B_make_92 : decode prog_1_method_5_code 92 = .ok (.aload_n 0, 1) := by decide +kernel
theorem d_B_make_93 : decode prog_1_method_5_code 93 = .ok (.getfield 12, 3) := by decide +kernel
theorem d_B_make_96 : decode prog_1_method_5_code 96 = .ok (.aload_n 0, 1) := by decide +kernel
theorem d_B_make_97 : decode prog_1_method_5_code 97 = .ok (.getfield 30, 3) := by decide +kernel
theorem d_B_make_100 : decode prog_1_method_5_code 100 = .ok (.invokevirtual 107, 3) := by decide +kernel
theorem d_B_make_103 : decode prog_1_method_5_code 103 = .ok (.goto 18, 3) := by decide +kernel
theorem d_B_make_106 : decode prog_1_method_5_code 106 = .ok (.aload_n 0, 1) := by decide +kernel
theorem d_B_make_107 : decode prog_1_method_5_code 107 = .ok (.getfield 58, 3) := by decide +kernel
theorem d_B_make_110 : decode prog_1_method_5_code 110 = .ok (.aload_n 0, 1) := by decide +kernel
theorem d_B_make_111 : decode prog_1_method_5_code 111 = .ok (.getfield 12, 3) := by decide +kernel
theorem d_B_make_114 : decode prog_1_method_5_code 114 = .ok (.aload_n 0, 1) := by decide +kernel
theorem d_B_make_115 : decode prog_1_method_5_code 115 = .ok (.getfield 30, 3) := by decide +kernel
theorem d_B_make_118 : decode prog_1_method_5_code 118 = .ok (.invokevirtual 111, 3) := by decide +kernel
theorem d_B_make_121 : decode prog_1_method_5_code 121 = .ok (.aload_n 0, 1) := by decide +kernel
theorem d_B_make_122 : decode prog_1_method_5_code 122 = .ok (.getfield 30, 3) := by decide +kernel
theorem d_B_make_125 : decode prog_1_method_5_code 125 = .ok (.invokevirtual 112, 3) := by decide +kernel
theorem d_B_make_128 : decode prog_1_method_5_code 128 = .ok (.ireturn, 1) := by decide +kernel
def w_B_make_121 (Φ : bs_R → bs_H → Prop) (x0 : Nat) (h : bs_H) : Prop :=
  bs_fA h x0 0 4 (fun v1 => bs_on h v1 2 (w_P_length (bs_kI Φ fun v2 h3 => (Φ (.ok (some (.int v2))) h3)) v1 h))
def w_B_make_53 (Φ : bs_R → bs_H → Prop) (x0 : Nat) (x1 : Int32) (h : bs_H) : Prop :=
  bs_fA h x0 0 4 (fun v1 => bs_on h v1 2 (w_P_clear (bs_kV Φ fun h2 => (bs_if (x1 = 0) (bs_on h2 x0 0 (w_B_writeShifts (bs_kV Φ fun h12 => (w_B_make_121 Φ x0 h12)) x0 h2)) (bs_if (x1 = 1) (bs_on h2 x0 0 (w_B_writeRotations (bs_kV Φ fun h11 => (w_B_make_121 Φ x0 h11)) x0 h2)) (bs_if (x1 = 2) (bs_fA h2 x0 0 7 (fun v7 => bs_fA h2 x0 0 0 (fun v8 => bs_fA h2 x0 0 4 (fun v9 => bs_on h2 v7 5 (w_X_write (bs_kV Φ fun h10 => (w_B_make_121 Φ x0 h10)) v7 v8 v9 h2))))) (bs_fA h2 x0 0 8 (fun v3 => bs_fA h2 x0 0 0 (fun v4 => bs_fA h2 x0 0 4 (fun v5 => bs_on h2 v3 6 (w_G_write (bs_kV Φ fun h6 => (w_B_make_121 Φ x0 h6)) v3 v4 v5 h2))))))))) v1 h))
def w_B_make_45 (Φ : bs_R → bs_H → Prop) (h : bs_H) : Prop :=
  bs_th h Φ "java/lang/UnsupportedOperationException"
def w_B_make_9 (Φ : bs_R → bs_H → Prop) (h : bs_H) : Prop :=
  bs_th h Φ "java/lang/IllegalArgumentException"
def w_B_make (Φ : bs_R → bs_H → Prop) (x0 : Nat) (x1 : Int32) (h : bs_H) : Prop :=
  bs_if (x1 < 0) (w_B_make_9 Φ h) (bs_if (x1 ≤ 3) (bs_if (x1 = 2) (bs_fA h x0 0 0 (fun v1 => bs_on h v1 1 (w_M_isPermutation (bs_kI Φ fun v2 h3 => (bs_if (v2 = 0) (w_B_make_45 Φ h3) (bs_fA h3 x0 0 0 (fun v4 => bs_on h3 v4 1 (w_M_bits (bs_kI Φ fun v5 h6 => (w_B_isPowerOfTwo (bs_kI Φ fun v7 h8 => (bs_if (v7 = 0) (w_B_make_45 Φ h8) (w_B_make_53 Φ x0 x1 h8))) v5 h6)) v4 h3))))) v1 h))) (w_B_make_53 Φ x0 x1 h)) (w_B_make_9 Φ h))
theorem m_B_make_121 {l : Launch} {R : Room} {Φ : bs_R → bs_H → Prop} (hR : bs_rm 5 R) {x0 : Nat} {h : bs_H} (hw : w_B_make_121 Φ x0 h) : bs_J l K_B_make R Φ 121 [(0, .ref x0)] [] h := by
  unfold w_B_make_121 at hw
  refine bj_aload_n (pc := 121) 0 d_B_make_121 rfl rfl ?_
  obtain ⟨fs, v1, hx, hv, hw⟩ := hw
  refine bj_get (pc := 122) (ci := 0) (k := 4) (fs := fs) (v := .ref v1) d_B_make_122 rfl (by decide) q_200 hx hv ?_
  obtain ⟨⟨fs, hx⟩, hw⟩ := hw
  refine bj_callV (pc := 125) (np := 0) (K' := K_P_length) (argsL := []) (st := []) (d1 := 1) (ci := 2) (fs := fs) rfl d_B_make_125 (Or.inl q_228) q_229 rfl q_230 c_P_length n_P_length hR (by decide) (by decide) rfl (Nat.le_of_ble_eq_true rfl) rfl (Nat.le_of_ble_eq_true rfl) hx (fun R' hR' => m_P_length hR' hw) (bs_kI_ok fun v2 h3 hw => ?_) (fun _ _ z => z)
  exact bj_iret (pc := 128) d_B_make_128 rfl hw
theorem m_B_make_53 {l : Launch} {R : Room} {Φ : bs_R → bs_H → Prop} (hR : bs_rm 5 R) {x0 : Nat} {x1 : Int32} {h : bs_H} (hw : w_B_make_53 Φ x0 x1 h) : bs_J l K_B_make R Φ 53 [(0, .ref x0), (1, .int x1)] [] h := by
  unfold w_B_make_53 at hw
  refine bj_aload_n (pc := 53) 0 d_B_make_53 rfl rfl ?_
  obtain ⟨fs, v1, hx, hv, hw⟩ := hw
  refine bj_get (pc := 54) (ci := 0) (k := 4) (fs := fs) (v := .ref v1) d_B_make_54 rfl (by decide) q_200 hx hv ?_
  obtain ⟨⟨fs, hx⟩, hw⟩ := hw
  refine bj_callV (pc := 57) (np := 0) (K' := K_P_clear) (argsL := []) (st := []) (d1 := 1) (ci := 2) (fs := fs) rfl d_B_make_57 (Or.inl q_445) q_446 rfl q_447 c_P_clear n_P_clear hR (by decide) (by decide) rfl (Nat.le_of_ble_eq_true rfl) rfl (Nat.le_of_ble_eq_true rfl) hx (fun R' hR' => m_P_clear hR' hw) (bs_kV_ok fun h2 hw => ?_) (fun _ _ z => z)
  refine bj_iload_n (pc := 60) 1 d_B_make_60 rfl rfl ?_
  refine bj_if_ne (pc := 61) (tgt := 71) d_B_make_61 (by decide) (fun hc => ?_) (fun hc => ?_)
  · replace hw := hw.2 hc
    refine bj_iload_n (pc := 71) 1 d_B_make_71 rfl rfl ?_
    refine bj_iconst (pc := 72) (v := 1) d_B_make_72 (by decide) ?_
    refine bj_icmp_ne (pc := 73) (tgt := 83) d_B_make_73 (by decide) (fun hc => ?_) (fun hc => ?_)
    · replace hw := hw.2 hc
      refine bj_iload_n (pc := 83) 1 d_B_make_83 rfl rfl ?_
      refine bj_iconst (pc := 84) (v := 2) d_B_make_84 (by decide) ?_
      refine bj_icmp_ne (pc := 85) (tgt := 106) d_B_make_85 (by decide) (fun hc => ?_) (fun hc => ?_)
      · replace hw := hw.2 hc
        refine bj_aload_n (pc := 106) 0 d_B_make_106 rfl rfl ?_
        obtain ⟨fs, v3, hx, hv, hw⟩ := hw
        refine bj_get (pc := 107) (ci := 0) (k := 8) (fs := fs) (v := .ref v3) d_B_make_107 rfl (by decide) q_204 hx hv ?_
        refine bj_aload_n (pc := 110) 0 d_B_make_110 rfl rfl ?_
        obtain ⟨fs, v4, hx, hv, hw⟩ := hw
        refine bj_get (pc := 111) (ci := 0) (k := 0) (fs := fs) (v := .ref v4) d_B_make_111 rfl (by decide) q_196 hx hv ?_
        refine bj_aload_n (pc := 114) 0 d_B_make_114 rfl rfl ?_
        obtain ⟨fs, v5, hx, hv, hw⟩ := hw
        refine bj_get (pc := 115) (ci := 0) (k := 4) (fs := fs) (v := .ref v5) d_B_make_115 rfl (by decide) q_200 hx hv ?_
        obtain ⟨⟨fs, hx⟩, hw⟩ := hw
        refine bj_callV (pc := 118) (np := 2) (K' := K_G_write) (argsL := [.ref v4, .ref v5]) (st := []) (d1 := 4) (ci := 6) (fs := fs) rfl d_B_make_118 (Or.inl q_578) q_579 rfl q_580 c_G_write n_G_write hR (by decide) (by decide) rfl (Nat.le_of_ble_eq_true rfl) rfl (Nat.le_of_ble_eq_true rfl) hx (fun R' hR' => m_G_write hR' hw) (bs_kV_ok fun h6 hw => ?_) (fun _ _ z => z)
        refine bj_sub [0] (lo' := [(0, .ref x0)]) rfl ?_
        exact m_B_make_121 hR hw
      · replace hw := hw.1 hc
        refine bj_aload_n (pc := 88) 0 d_B_make_88 rfl rfl ?_
        obtain ⟨fs, v7, hx, hv, hw⟩ := hw
        refine bj_get (pc := 89) (ci := 0) (k := 7) (fs := fs) (v := .ref v7) d_B_make_89 rfl (by decide) q_203 hx hv ?_
        refine bj_aload_n (pc := 92) 0 d_B_make_92 rfl rfl ?_
        obtain ⟨fs, v8, hx, hv, hw⟩ := hw
        refine bj_get (pc := 93) (ci := 0) (k := 0) (fs := fs) (v := .ref v8) d_B_make_93 rfl (by decide) q_196 hx hv ?_
        refine bj_aload_n (pc := 96) 0 d_B_make_96 rfl rfl ?_
        obtain ⟨fs, v9, hx, hv, hw⟩ := hw
        refine bj_get (pc := 97) (ci := 0) (k := 4) (fs := fs) (v := .ref v9) d_B_make_97 rfl (by decide) q_200 hx hv ?_
        obtain ⟨⟨fs, hx⟩, hw⟩ := hw
        refine bj_callV (pc := 100) (np := 2) (K' := K_X_write) (argsL := [.ref v8, .ref v9]) (st := []) (d1 := 4) (ci := 5) (fs := fs) rfl d_B_make_100 (Or.inl q_550) q_551 rfl q_552 c_X_write n_X_write hR (by decide) (by decide) rfl (Nat.le_of_ble_eq_true rfl) rfl (Nat.le_of_ble_eq_true rfl) hx (fun R' hR' => m_X_write hR' hw) (bs_kV_ok fun h10 hw => ?_) (fun _ _ z => z)
        refine bj_goto (pc := 103) (tgt := 121) d_B_make_103 (by decide) ?_
        refine bj_sub [0] (lo' := [(0, .ref x0)]) rfl ?_
        exact m_B_make_121 hR hw
    · replace hw := hw.1 hc
      refine bj_aload_n (pc := 76) 0 d_B_make_76 rfl rfl ?_
      obtain ⟨⟨fs, hx⟩, hw⟩ := hw
      refine bj_callV (pc := 77) (np := 0) (K' := K_B_writeRotations) (argsL := []) (st := []) (d1 := 4) (ci := 0) (fs := fs) rfl d_B_make_77 (Or.inl q_541) q_543 rfl q_15 c_B_writeRotations n_B_writeRotations hR (by decide) (by decide) rfl (Nat.le_of_ble_eq_true rfl) rfl (Nat.le_of_ble_eq_true rfl) hx (fun R' hR' => m_B_writeRotations hR' hw) (bs_kV_ok fun h11 hw => ?_) (fun _ _ z => z)
      refine bj_goto (pc := 80) (tgt := 121) d_B_make_80 (by decide) ?_
      refine bj_sub [0] (lo' := [(0, .ref x0)]) rfl ?_
      exact m_B_make_121 hR hw
  · replace hw := hw.1 hc
    refine bj_aload_n (pc := 64) 0 d_B_make_64 rfl rfl ?_
    obtain ⟨⟨fs, hx⟩, hw⟩ := hw
    refine bj_callV (pc := 65) (np := 0) (K' := K_B_writeShifts) (argsL := []) (st := []) (d1 := 4) (ci := 0) (fs := fs) rfl d_B_make_65 (Or.inl q_516) q_518 rfl q_14 c_B_writeShifts n_B_writeShifts hR (by decide) (by decide) rfl (Nat.le_of_ble_eq_true rfl) rfl (Nat.le_of_ble_eq_true rfl) hx (fun R' hR' => m_B_writeShifts hR' hw) (bs_kV_ok fun h12 hw => ?_) (fun _ _ z => z)
    refine bj_goto (pc := 68) (tgt := 121) d_B_make_68 (by decide) ?_
    refine bj_sub [0] (lo' := [(0, .ref x0)]) rfl ?_
    exact m_B_make_121 hR hw
theorem m_B_make_45 {l : Launch} {R : Room} {Φ : bs_R → bs_H → Prop} (hR : bs_rm 5 R) {h : bs_H} (hw : w_B_make_45 Φ h) : bs_J l K_B_make R Φ 45 [] [] h := by
  unfold w_B_make_45 at hw
  obtain ⟨h1, h2, hw⟩ := hw
  exact bj_throw (pc := 45) (names := bs_up2) d_B_make_45 d_B_make_48 d_B_make_49 d_B_make_52 q_501 q_502 q_59 a_B_100 (by decide +kernel) (by decide +kernel) (by decide) rfl hR (Nat.le_of_ble_eq_true rfl) h1 h2 hw
theorem m_B_make_9 {l : Launch} {R : Room} {Φ : bs_R → bs_H → Prop} (hR : bs_rm 5 R) {h : bs_H} (hw : w_B_make_9 Φ h) : bs_J l K_B_make R Φ 9 [] [] h := by
  unfold w_B_make_9 at hw
  obtain ⟨h1, h2, hw⟩ := hw
  exact bj_throw (pc := 9) (names := bs_up2) d_B_make_9 d_B_make_12 d_B_make_13 d_B_make_16 q_381 q_382 q_57 a_B_68 (by decide +kernel) (by decide +kernel) (by decide) rfl hR (Nat.le_of_ble_eq_true rfl) h1 h2 hw
theorem m_B_make {l : Launch} {R : Room} (hR : bs_rm 5 R) {Φ : bs_R → bs_H → Prop} {x0 : Nat} {x1 : Int32} {h : bs_H} (hw : w_B_make Φ x0 x1 h) : bs_J l K_B_make R Φ 0 [(0, .ref x0), (1, .int x1)] [] h := by
  unfold w_B_make at hw
  refine bj_iload_n (pc := 0) 1 d_B_make_0 rfl rfl ?_
  refine bj_if_lt (pc := 1) (tgt := 9) d_B_make_1 (by decide) (fun hc => ?_) (fun hc => ?_)
  · replace hw := hw.1 hc
    refine bj_sub [] (lo' := []) rfl ?_
    exact m_B_make_9 hR hw
  · replace hw := hw.2 hc
    refine bj_iload_n (pc := 4) 1 d_B_make_4 rfl rfl ?_
    refine bj_iconst (pc := 5) (v := 3) d_B_make_5 (by decide) ?_
    refine bj_icmp_le (pc := 6) (tgt := 17) d_B_make_6 (by decide) (fun hc => ?_) (fun hc => ?_)
    · replace hw := hw.1 hc
      refine bj_iload_n (pc := 17) 1 d_B_make_17 rfl rfl ?_
      refine bj_iconst (pc := 18) (v := 2) d_B_make_18 (by decide) ?_
      refine bj_icmp_ne (pc := 19) (tgt := 53) d_B_make_19 (by decide) (fun hc => ?_) (fun hc => ?_)
      · replace hw := hw.2 hc
        exact m_B_make_53 hR hw
      · replace hw := hw.1 hc
        refine bj_aload_n (pc := 22) 0 d_B_make_22 rfl rfl ?_
        obtain ⟨fs, v1, hx, hv, hw⟩ := hw
        refine bj_get (pc := 23) (ci := 0) (k := 0) (fs := fs) (v := .ref v1) d_B_make_23 rfl (by decide) q_196 hx hv ?_
        obtain ⟨⟨fs, hx⟩, hw⟩ := hw
        refine bj_callV (pc := 26) (np := 0) (K' := K_M_isPermutation) (argsL := []) (st := []) (d1 := 2) (ci := 1) (fs := fs) rfl d_B_make_26 (Or.inl q_488) q_489 rfl q_490 c_M_isPermutation n_M_isPermutation hR (by decide) (by decide) rfl (Nat.le_of_ble_eq_true rfl) rfl (Nat.le_of_ble_eq_true rfl) hx (fun R' hR' => m_M_isPermutation hR' hw) (bs_kI_ok fun v2 h3 hw => ?_) (fun _ _ z => z)
        refine bj_if_eq (pc := 29) (tgt := 45) d_B_make_29 (by decide) (fun hc => ?_) (fun hc => ?_)
        · replace hw := hw.1 hc
          refine bj_sub [] (lo' := []) rfl ?_
          exact m_B_make_45 hR hw
        · replace hw := hw.2 hc
          refine bj_aload_n (pc := 32) 0 d_B_make_32 rfl rfl ?_
          obtain ⟨fs, v4, hx, hv, hw⟩ := hw
          refine bj_get (pc := 33) (ci := 0) (k := 0) (fs := fs) (v := .ref v4) d_B_make_33 rfl (by decide) q_196 hx hv ?_
          obtain ⟨⟨fs, hx⟩, hw⟩ := hw
          refine bj_callV (pc := 36) (np := 0) (K' := K_M_bits) (argsL := []) (st := []) (d1 := 1) (ci := 1) (fs := fs) rfl d_B_make_36 (Or.inl q_236) q_237 rfl q_238 c_M_bits n_M_bits hR (by decide) (by decide) rfl (Nat.le_of_ble_eq_true rfl) rfl (Nat.le_of_ble_eq_true rfl) hx (fun R' hR' => m_M_bits hR' hw) (bs_kI_ok fun v5 h6 hw => ?_) (fun _ _ z => z)
          refine bj_callS (pc := 39) (np := 1) (K' := K_B_isPowerOfTwo) (argsL := [.int v5]) (st := []) (d1 := 2) rfl d_B_make_39 (Or.inl q_492) q_493 q_46 c_B_isPowerOfTwo n_B_isPowerOfTwo hR (by decide) (by decide) rfl (Nat.le_of_ble_eq_true rfl) rfl (Nat.le_of_ble_eq_true rfl) (fun R' hR' => m_B_isPowerOfTwo hR' hw) (bs_kI_ok fun v7 h8 hw => ?_) (fun _ _ z => z)
          refine bj_if_ne (pc := 42) (tgt := 53) d_B_make_42 (by decide) (fun hc => ?_) (fun hc => ?_)
          · replace hw := hw.2 hc
            exact m_B_make_53 hR hw
          · replace hw := hw.1 hc
            refine bj_sub [] (lo' := []) rfl ?_
            exact m_B_make_45 hR hw
    · replace hw := hw.2 hc
      refine bj_sub [] (lo' := []) rfl ?_
      exact m_B_make_9 hR hw
theorem d_L_make_0 : decode method_6_code 0 = .ok (.aload_n 2, 1) := by decide +kernel
theorem d_L_make_1 : decode method_6_code 1 = .ok (.iconst 0, 1) := by decide +kernel
theorem d_L_make_2 : decode method_6_code 2 = .ok (.aload_n 0, 1) := by decide +kernel
theorem d_L_make_3 : decode method_6_code 3 = .ok (.iload_n 1, 1) := by decide +kernel
theorem d_L_make_4 : decode method_6_code 4 = .ok (.invokevirtual 23, 3) := by decide +kernel
theorem d_L_make_7 : decode method_6_code 7 = .ok (.i2l, 1) := by decide +kernel
theorem d_L_make_8 : decode method_6_code 8 = .ok (.lastore, 1) := by decide +kernel
theorem d_L_make_9 : decode method_6_code 9 = .ok (.goto 9, 3) := by decide +kernel
theorem d_L_make_12 : decode method_6_code 12 = .ok (.astore_n 3, 1) := by decide +kernel
theorem d_L_make_13 : decode method_6_code 13 = .ok (.iconst 1, 1) := by decide +kernel
theorem d_L_make_14 : decode method_6_code 14 = .ok (.ireturn, 1) := by decide +kernel
theorem d_L_make_15 : decode method_6_code 15 = .ok (.astore_n 3, 1) := by decide +kernel
theorem d_L_make_16 : decode method_6_code 16 = .ok (.iconst 2, 1) := by decide +kernel
theorem d_L_make_17 : decode method_6_code 17 = .ok (.ireturn, 1) := by decide +kernel
theorem d_L_make_18 : decode method_6_code 18 = .ok (.iconst 0, 1) := by decide +kernel
theorem d_L_make_19 : decode method_6_code 19 = .ok (.ireturn, 1) := by decide +kernel
def w_L_make_15 (Φ : bs_R → bs_H → Prop) (s0 : Nat) (h : bs_H) : Prop :=
  Φ (.ok (some (.int 2))) h
def w_L_make_12 (Φ : bs_R → bs_H → Prop) (s0 : Nat) (h : bs_H) : Prop :=
  Φ (.ok (some (.int 1))) h
def w_L_make (Φ : bs_R → bs_H → Prop) (x0 : Nat) (x1 : Int32) (x2 : Nat) (h : bs_H) : Prop :=
  bs_on h x0 0 (w_B_make (bs_kI (bs_hd fun E3 h4 => (E3 = "java/lang/IllegalArgumentException" ∧ ∀ a, w_L_make_12 Φ a h4) ∨ (E3 = "java/lang/UnsupportedOperationException" ∧ ∀ a, w_L_make_15 Φ a h4)) fun v1 h2 => (bs_sL h2 x2 0 v1.toInt64 (fun h5 => Φ (.ok (some (.int 0))) h5))) x0 x1 h)
theorem m_L_make_15 {l : Launch} {R : Room} {Φ : bs_R → bs_H → Prop} (hR : bs_rm 6 R) {s0 : Nat} {h : bs_H} (hw : w_L_make_15 Φ s0 h) : bs_J l K_L_make R Φ 15 [] [.ref s0] h := by
  unfold w_L_make_15 at hw
  refine bj_astore_n (pc := 15) (lo' := [(3, .ref s0)]) d_L_make_15 rfl (by decide) rfl ?_
  refine bj_iconst (pc := 16) (v := 2) d_L_make_16 (by decide) ?_
  exact bj_iret (pc := 17) d_L_make_17 rfl hw
theorem m_L_make_12 {l : Launch} {R : Room} {Φ : bs_R → bs_H → Prop} (hR : bs_rm 6 R) {s0 : Nat} {h : bs_H} (hw : w_L_make_12 Φ s0 h) : bs_J l K_L_make R Φ 12 [] [.ref s0] h := by
  unfold w_L_make_12 at hw
  refine bj_astore_n (pc := 12) (lo' := [(3, .ref s0)]) d_L_make_12 rfl (by decide) rfl ?_
  refine bj_iconst (pc := 13) (v := 1) d_L_make_13 (by decide) ?_
  exact bj_iret (pc := 14) d_L_make_14 rfl hw
theorem m_L_make {l : Launch} {R : Room} (hR : bs_rm 6 R) {Φ : bs_R → bs_H → Prop} {x0 : Nat} {x1 : Int32} {x2 : Nat} {h : bs_H} (hw : w_L_make Φ x0 x1 x2 h) : bs_J l K_L_make R Φ 0 [(0, .ref x0), (1, .int x1), (2, .ref x2)] [] h := by
  unfold w_L_make at hw
  refine bj_aload_n (pc := 0) 2 d_L_make_0 rfl rfl ?_
  refine bj_iconst (pc := 1) (v := 0) d_L_make_1 (by decide) ?_
  refine bj_aload_n (pc := 2) 0 d_L_make_2 rfl rfl ?_
  refine bj_iload_n (pc := 3) 1 d_L_make_3 rfl rfl ?_
  obtain ⟨⟨fs, hx⟩, hw⟩ := hw
  refine bj_callVC (pc := 4) (np := 1) (K' := K_B_make) (argsL := [.int x1]) (st := [.int 0, .ref x2]) (d1 := 5) (ci := 0) (fs := fs) rfl d_L_make_4 (Or.inl q_484) q_485 rfl q_486 c_B_make n_B_make hR (by decide) (by decide) (Nat.le_of_ble_eq_true rfl) rfl (Nat.le_of_ble_eq_true rfl) hx (fun R' hR' => m_B_make hR' hw) (bs_kI_ok fun v1 h2 hw => ?_) ?_
  · refine bj_i2l (pc := 7) d_L_make_7 ?_
    obtain ⟨n, f, hx, hin, hw⟩ := hw
    refine bj_last (pc := 8) (n := n) (f := f) d_L_make_8 hx hin ?_
    refine bj_goto (pc := 9) (tgt := 18) d_L_make_9 (by decide) ?_
    refine bj_iconst (pc := 18) (v := 0) d_L_make_18 (by decide) ?_
    exact bj_iret (pc := 19) d_L_make_19 rfl hw
  · intro E3 h4 hw
    rcases hw with ⟨rfl, hw⟩ | ⟨rfl, hw⟩
    · refine ⟨12, bs_hand1 rfl (by decide) (by decide) q_376 q_383, fun a => ?_⟩
      replace hw := hw a
      refine bj_sub [] (lo' := []) rfl ?_
      exact m_L_make_12 hR hw
    · refine ⟨15, bs_hand2 rfl (by decide) (by decide) (by decide) (by decide) q_376 q_483 q_503 ?_, fun a => ?_⟩
      · exact nc_UnsupportedOperationException_IllegalArgumentException
      replace hw := hw a
      refine bj_sub [] (lo' := []) rfl ?_
      exact m_L_make_15 hR hw
theorem d_R_isPermutation_0 : decode prog_9_method_8_code 0 = .ok (.iconst 0, 1) := by decide +kernel
theorem d_R_isPermutation_1 : decode prog_9_method_8_code 1 = .ok (.istore_n 1, 1) := by decide +kernel
theorem d_R_isPermutation_2 : decode prog_9_method_8_code 2 = .ok (.iload_n 1, 1) := by decide +kernel
theorem d_R_isPermutation_3 : decode prog_9_method_8_code 3 = .ok (.aload_n 0, 1) := by decide +kernel
theorem d_R_isPermutation_4 : decode prog_9_method_8_code 4 = .ok (.getfield 89, 3) := by decide +kernel
theorem d_R_isPermutation_7 : decode prog_9_method_8_code 7 = .ok (.if_icmp .ge 16, 3) := by decide +kernel
theorem d_R_isPermutation_10 : decode prog_9_method_8_code 10 = .ok (.aload_n 0, 1) := by decide +kernel
theorem d_R_isPermutation_11 : decode prog_9_method_8_code 11 = .ok (.getfield 78, 3) := by decide +kernel
theorem d_R_isPermutation_14 : decode prog_9_method_8_code 14 = .ok (.iload_n 1, 1) := by decide +kernel
theorem d_R_isPermutation_15 : decode prog_9_method_8_code 15 = .ok (.iconst 0, 1) := by decide +kernel
theorem d_R_isPermutation_16 : decode prog_9_method_8_code 16 = .ok (.iastore, 1) := by decide +kernel
theorem d_R_isPermutation_17 : decode prog_9_method_8_code 17 = .ok (.iinc 1 1, 3) := by decide +kernel
theorem d_R_isPermutation_20 : decode prog_9_method_8_code 20 = .ok (.goto (-18), 3) := by decide +kernel
theorem d_R_isPermutation_23 : decode prog_9_method_8_code 23 = .ok (.iconst 1, 1) := by decide +kernel
theorem d_R_isPermutation_24 : decode prog_9_method_8_code 24 = .ok (.istore_n 1, 1) := by decide +kernel
theorem d_R_isPermutation_25 : decode prog_9_method_8_code 25 = .ok (.iconst 0, 1) := by decide +kernel
theorem d_R_isPermutation_26 : decode prog_9_method_8_code 26 = .ok (.istore_n 2, 1) := by decide +kernel
theorem d_R_isPermutation_27 : decode prog_9_method_8_code 27 = .ok (.iload_n 2, 1) := by decide +kernel
theorem d_R_isPermutation_28 : decode prog_9_method_8_code 28 = .ok (.aload_n 0, 1) := by decide +kernel
theorem d_R_isPermutation_29 : decode prog_9_method_8_code 29 = .ok (.getfield 89, 3) := by decide +kernel
theorem d_R_isPermutation_32 : decode prog_9_method_8_code 32 = .ok (.if_icmp .ge 70, 3) := by decide +kernel
theorem d_R_isPermutation_35 : decode prog_9_method_8_code 35 = .ok (.iload_n 1, 1) := by decide +kernel
theorem d_R_isPermutation_36 : decode prog_9_method_8_code 36 = .ok (.ifCond .eq 18, 3) := by decide +kernel
theorem d_R_isPermutation_39 : decode prog_9_method_8_code 39 = .ok (.aload_n 0, 1) := by decide +kernel
theorem d_R_isPermutation_40 : decode prog_9_method_8_code 40 = .ok (.getfield 7, 3) := by decide +kernel
theorem d_R_isPermutation_43 : decode prog_9_method_8_code 43 = .ok (.iload_n 2, 1) := by decide +kernel
theorem d_R_isPermutation_44 : decode prog_9_method_8_code 44 = .ok (.iaload, 1) := by decide +kernel
theorem d_R_isPermutation_45 : decode prog_9_method_8_code 45 = .ok (.bipush 64, 2) := by decide +kernel
theorem d_R_isPermutation_47 : decode prog_9_method_8_code 47 = .ok (.if_icmp .ge 7, 3) := by decide +kernel
theorem d_R_isPermutation_50 : decode prog_9_method_8_code 50 = .ok (.iconst 1, 1) := by decide +kernel
theorem d_R_isPermutation_51 : decode prog_9_method_8_code 51 = .ok (.goto 4, 3) := by decide +kernel
theorem d_R_isPermutation_54 : decode prog_9_method_8_code 54 = .ok (.iconst 0, 1) := by decide +kernel
theorem d_R_isPermutation_55 : decode prog_9_method_8_code 55 = .ok (.istore_n 1, 1) := by decide +kernel
theorem d_R_isPermutation_56 : decode prog_9_method_8_code 56 = .ok (.iload_n 1, 1) := by decide +kernel
theorem d_R_isPermutation_57 : decode prog_9_method_8_code 57 = .ok (.ifCond .eq 39, 3) := by decide +kernel
theorem d_R_isPermutation_60 : decode prog_9_method_8_code 60 = .ok (.aload_n 0, 1) := by decide +kernel
theorem d_R_isPermutation_61 : decode prog_9_method_8_code 61 = .ok (.getfield 78, 3) := by decide +kernel
theorem d_R_isPermutation_64 : decode prog_9_method_8_code 64 = .ok (.aload_n 0, 1) := by decide +kernel
theorem d_R_isPermutation_65 : decode prog_9_method_8_code 65 = .ok (.getfield 7, 3) := by decide +kernel
theorem d_R_isPermutation_68 : decode prog_9_method_8_code 68 = .ok (.iload_n 2, 1) := by decide +kernel
theorem d_R_isPermutation_69 : decode prog_9_method_8_code 69 = .ok (.iaload, 1) := by decide +kernel
theorem d_R_isPermutation_70 : decode prog_9_method_8_code 70 = .ok (.dup2, 1) := by decide +kernel
theorem d_R_isPermutation_71 : decode prog_9_method_8_code 71 = .ok (.iaload, 1) := by decide +kernel
theorem d_R_isPermutation_72 : decode prog_9_method_8_code 72 = .ok (.iconst 1, 1) := by decide +kernel
theorem d_R_isPermutation_73 : decode prog_9_method_8_code 73 = .ok (.iadd, 1) := by decide +kernel
theorem d_R_isPermutation_74 : decode prog_9_method_8_code 74 = .ok (.iastore, 1) := by decide +kernel
theorem d_R_isPermutation_75 : decode prog_9_method_8_code 75 = .ok (.aload_n 0, 1) := by decide +kernel
theorem d_R_isPermutation_76 : decode prog_9_method_8_code 76 = .ok (.getfield 78, 3) := by decide +kernel
theorem d_R_isPermutation_79 : decode prog_9_method_8_code 79 = .ok (.aload_n 0, 1) := by decide +kernel
theorem d_R_isPermutation_80 : decode prog_9_method_8_code 80 = .ok (.getfield 7, 3) := by decide +kernel
theorem d_R_isPermutation_83 : decode prog_9_method_8_code 83 = .ok (.iload_n 2, 1) := by decide +kernel
theorem d_R_isPermutation_84 : decode prog_9_method_8_code 84 = .ok (.iaload, 1) := by decide +kernel
theorem d_R_isPermutation_85 : decode prog_9_method_8_code 85 = .ok (.iaload, 1) := by decide +kernel
theorem d_R_isPermutation_86 : decode prog_9_method_8_code 86 = .ok (.iconst 1, 1) := by decide +kernel
theorem d_R_isPermutation_87 : decode prog_9_method_8_code 87 = .ok (.if_icmp .ne 7, 3) := by decide +kernel
theorem d_R_isPermutation_90 : decode prog_9_method_8_code 90 = .ok (.iconst 1, 1) := by decide +kernel
theorem d_R_isPermutation_91 : decode prog_9_method_8_code 91 = .ok (.goto 4, 3) := by decide +kernel
theorem d_R_isPermutation_94 : decode prog_9_method_8_code 94 = .ok (.iconst 0, 1) := by decide +kernel
theorem d_R_isPermutation_95 : decode prog_9_method_8_code 95 = .ok (.istore_n 1, 1) := by decide +kernel
theorem d_R_isPermutation_96 : decode prog_9_method_8_code 96 = .ok (.iinc 2 1, 3) := by decide +kernel
theorem d_R_isPermutation_99 : decode prog_9_method_8_code 99 = .ok (.goto (-72), 3) := by decide +kernel
theorem d_R_isPermutation_102 : decode prog_9_method_8_code 102 = .ok (.iload_n 1, 1) := by decide +kernel
theorem d_R_isPermutation_103 : decode prog_9_method_8_code 103 = .ok (.ireturn, 1) := by decide +kernel
def w_R_isPermutation_96 (Φ : bs_R → bs_H → Prop) (nx27 : Nat → Int32 → Int32 → bs_H → Prop) (x0 : Nat) (x1 : Int32) (x2 : Int32) (h : bs_H) : Prop :=
  nx27 x0 x1 (x2 + 1) h
def w_R_isPermutation_95 (Φ : bs_R → bs_H → Prop) (nx27 : Nat → Int32 → Int32 → bs_H → Prop) (x0 : Nat) (x2 : Int32) (s0 : Int32) (h : bs_H) : Prop :=
  w_R_isPermutation_96 Φ nx27 x0 s0 x2 h
def w_R_isPermutation_55 (Φ : bs_R → bs_H → Prop) (nx27 : Nat → Int32 → Int32 → bs_H → Prop) (x0 : Nat) (x2 : Int32) (s0 : Int32) (h : bs_H) : Prop :=
  bs_if (s0 = 0) (w_R_isPermutation_96 Φ nx27 x0 s0 x2 h) (bs_fA h x0 7 26 (fun v1 => bs_fA h x0 7 2 (fun v2 => bs_lI h v2 x2 (fun v3 => bs_lI h v1 v3 (fun v4 => bs_sI h v1 v3 (v4 + 1) (fun h5 => bs_fA h5 x0 7 26 (fun v6 => bs_fA h5 x0 7 2 (fun v7 => bs_lI h5 v7 x2 (fun v8 => bs_lI h5 v6 v8 (fun v9 => bs_if (v9 = 1) (w_R_isPermutation_95 Φ nx27 x0 x2 1 h5) (w_R_isPermutation_95 Φ nx27 x0 x2 0 h5)))))))))))
def w_R_isPermutation_54 (Φ : bs_R → bs_H → Prop) (nx27 : Nat → Int32 → Int32 → bs_H → Prop) (x0 : Nat) (x2 : Int32) (h : bs_H) : Prop :=
  w_R_isPermutation_55 Φ nx27 x0 x2 0 h
def w_R_isPermutation_27_s (Φ : bs_R → bs_H → Prop) (nx27 : Nat → Int32 → Int32 → bs_H → Prop) (x0 : Nat) (x1 : Int32) (x2 : Int32) (h : bs_H) : Prop :=
  bs_fI h x0 7 1 (fun v1 => bs_if (v1 ≤ x2) (bs_rZ Φ x1 h) (bs_if (x1 = 0) (w_R_isPermutation_54 Φ nx27 x0 x2 h) (bs_fA h x0 7 2 (fun v2 => bs_lI h v2 x2 (fun v3 => bs_if ((64 : Int32) ≤ v3) (w_R_isPermutation_54 Φ nx27 x0 x2 h) (w_R_isPermutation_55 Φ nx27 x0 x2 1 h))))))
def w_R_isPermutation_27 (Φ : bs_R → bs_H → Prop) : Nat → Nat → Int32 → Int32 → bs_H → Prop
  | 0 => fun _ _ _ _ => False
  | n + 1 => fun x0 x1 x2 h => w_R_isPermutation_27_s Φ (w_R_isPermutation_27 Φ n) x0 x1 x2 h
def w_R_isPermutation_2_s (Φ : bs_R → bs_H → Prop) (nx2 : Nat → Int32 → bs_H → Prop) (x0 : Nat) (x1 : Int32) (h : bs_H) : Prop :=
  bs_fI h x0 7 1 (fun v1 => bs_if (v1 ≤ x1) (w_R_isPermutation_27 Φ 1000 x0 1 0 h) (bs_fA h x0 7 26 (fun v2 => bs_sI h v2 x1 0 (fun h3 => nx2 x0 (x1 + 1) h3))))
def w_R_isPermutation_2 (Φ : bs_R → bs_H → Prop) : Nat → Nat → Int32 → bs_H → Prop
  | 0 => fun _ _ _ => False
  | n + 1 => fun x0 x1 h => w_R_isPermutation_2_s Φ (w_R_isPermutation_2 Φ n) x0 x1 h
def w_R_isPermutation (Φ : bs_R → bs_H → Prop) (x0 : Nat) (h : bs_H) : Prop :=
  w_R_isPermutation_2 Φ 1000 x0 0 h
theorem m_R_isPermutation_96 {l : Launch} {R : Room} {Φ : bs_R → bs_H → Prop} (hR : bs_rm 1 R) {nx27 : Nat → Int32 → Int32 → bs_H → Prop} (hnx27 : ∀ (x0 : Nat) (x1 : Int32) (x2 : Int32) (h : bs_H), nx27 x0 x1 x2 h → bs_J l K_R_isPermutation R Φ 27 [(0, .ref x0), (1, .int x1), (2, .int x2)] [] h) {x0 : Nat} {x1 : Int32} {x2 : Int32} {h : bs_H} (hw : w_R_isPermutation_96 Φ nx27 x0 x1 x2 h) : bs_J l K_R_isPermutation R Φ 96 [(0, .ref x0), (1, .int x1), (2, .int x2)] [] h := by
  unfold w_R_isPermutation_96 at hw
  refine bj_iinc (pc := 96) (v := (x2 + 1)) (lo' := [(2, .int (x2 + 1)), (0, .ref x0), (1, .int x1)]) 2 d_R_isPermutation_96 rfl rfl (by decide) rfl ?_
  refine bj_goto (pc := 99) (tgt := 27) d_R_isPermutation_99 (by decide) ?_
  refine bj_sub [1, 2, 0] (lo' := [(0, .ref x0), (1, .int x1), (2, .int (x2 + 1))]) rfl ?_
  exact hnx27 _ _ _ _ hw
theorem m_R_isPermutation_95 {l : Launch} {R : Room} {Φ : bs_R → bs_H → Prop} (hR : bs_rm 1 R) {nx27 : Nat → Int32 → Int32 → bs_H → Prop} (hnx27 : ∀ (x0 : Nat) (x1 : Int32) (x2 : Int32) (h : bs_H), nx27 x0 x1 x2 h → bs_J l K_R_isPermutation R Φ 27 [(0, .ref x0), (1, .int x1), (2, .int x2)] [] h) {x0 : Nat} {x2 : Int32} {s0 : Int32} {h : bs_H} (hw : w_R_isPermutation_95 Φ nx27 x0 x2 s0 h) : bs_J l K_R_isPermutation R Φ 95 [(0, .ref x0), (2, .int x2)] [.int s0] h := by
  unfold w_R_isPermutation_95 at hw
  refine bj_istore_n (pc := 95) (lo' := [(1, .int s0), (0, .ref x0), (2, .int x2)]) d_R_isPermutation_95 rfl (by decide) rfl ?_
  refine bj_sub [1, 0, 2] (lo' := [(0, .ref x0), (1, .int s0), (2, .int x2)]) rfl ?_
  exact m_R_isPermutation_96 hR hnx27 hw
theorem m_R_isPermutation_55 {l : Launch} {R : Room} {Φ : bs_R → bs_H → Prop} (hR : bs_rm 1 R) {nx27 : Nat → Int32 → Int32 → bs_H → Prop} (hnx27 : ∀ (x0 : Nat) (x1 : Int32) (x2 : Int32) (h : bs_H), nx27 x0 x1 x2 h → bs_J l K_R_isPermutation R Φ 27 [(0, .ref x0), (1, .int x1), (2, .int x2)] [] h) {x0 : Nat} {x2 : Int32} {s0 : Int32} {h : bs_H} (hw : w_R_isPermutation_55 Φ nx27 x0 x2 s0 h) : bs_J l K_R_isPermutation R Φ 55 [(0, .ref x0), (2, .int x2)] [.int s0] h := by
  unfold w_R_isPermutation_55 at hw
  refine bj_istore_n (pc := 55) (lo' := [(1, .int s0), (0, .ref x0), (2, .int x2)]) d_R_isPermutation_55 rfl (by decide) rfl ?_
  refine bj_iload_n (pc := 56) 0 d_R_isPermutation_56 rfl rfl ?_
  refine bj_if_eq (pc := 57) (tgt := 96) d_R_isPermutation_57 (by decide) (fun hc => ?_) (fun hc => ?_)
  · replace hw := hw.1 hc
    refine bj_sub [1, 0, 2] (lo' := [(0, .ref x0), (1, .int s0), (2, .int x2)]) rfl ?_
    exact m_R_isPermutation_96 hR hnx27 hw
  · replace hw := hw.2 hc
    refine bj_aload_n (pc := 60) 1 d_R_isPermutation_60 rfl rfl ?_
    obtain ⟨fs, v1, hx, hv, hw⟩ := hw
    refine bj_get (pc := 61) (ci := 7) (k := 26) (fs := fs) (v := .ref v1) d_R_isPermutation_61 rfl (by decide) q_774 hx hv ?_
    refine bj_aload_n (pc := 64) 1 d_R_isPermutation_64 rfl rfl ?_
    obtain ⟨fs, v2, hx, hv, hw⟩ := hw
    refine bj_get (pc := 65) (ci := 7) (k := 2) (fs := fs) (v := .ref v2) d_R_isPermutation_65 rfl (by decide) q_750 hx hv ?_
    refine bj_iload_n (pc := 68) 2 d_R_isPermutation_68 rfl rfl ?_
    obtain ⟨n, f, v3, hx, hin, hv, hw⟩ := hw
    refine bj_iald (pc := 69) (n := n) (f := f) d_R_isPermutation_69 hx hin hv ?_
    refine bj_dup2 (pc := 70) d_R_isPermutation_70 rfl rfl ?_
    obtain ⟨n, f, v4, hx, hin, hv, hw⟩ := hw
    refine bj_iald (pc := 71) (n := n) (f := f) d_R_isPermutation_71 hx hin hv ?_
    refine bj_iconst (pc := 72) (v := 1) d_R_isPermutation_72 (by decide) ?_
    refine bj_iadd (pc := 73) d_R_isPermutation_73 ?_
    obtain ⟨n, f, hx, hin, hw⟩ := hw
    refine bj_iast (pc := 74) (n := n) (f := f) d_R_isPermutation_74 hx hin ?_
    refine bj_aload_n (pc := 75) 1 d_R_isPermutation_75 rfl rfl ?_
    obtain ⟨fs, v6, hx, hv, hw⟩ := hw
    refine bj_get (pc := 76) (ci := 7) (k := 26) (fs := fs) (v := .ref v6) d_R_isPermutation_76 rfl (by decide) q_774 hx hv ?_
    refine bj_aload_n (pc := 79) 1 d_R_isPermutation_79 rfl rfl ?_
    obtain ⟨fs, v7, hx, hv, hw⟩ := hw
    refine bj_get (pc := 80) (ci := 7) (k := 2) (fs := fs) (v := .ref v7) d_R_isPermutation_80 rfl (by decide) q_750 hx hv ?_
    refine bj_iload_n (pc := 83) 2 d_R_isPermutation_83 rfl rfl ?_
    obtain ⟨n, f, v8, hx, hin, hv, hw⟩ := hw
    refine bj_iald (pc := 84) (n := n) (f := f) d_R_isPermutation_84 hx hin hv ?_
    obtain ⟨n, f, v9, hx, hin, hv, hw⟩ := hw
    refine bj_iald (pc := 85) (n := n) (f := f) d_R_isPermutation_85 hx hin hv ?_
    refine bj_iconst (pc := 86) (v := 1) d_R_isPermutation_86 (by decide) ?_
    refine bj_icmp_ne (pc := 87) (tgt := 94) d_R_isPermutation_87 (by decide) (fun hc => ?_) (fun hc => ?_)
    · replace hw := hw.2 hc
      refine bj_iconst (pc := 94) (v := 0) d_R_isPermutation_94 (by decide) ?_
      refine bj_sub [1, 2] (lo' := [(0, .ref x0), (2, .int x2)]) rfl ?_
      exact m_R_isPermutation_95 hR hnx27 hw
    · replace hw := hw.1 hc
      refine bj_iconst (pc := 90) (v := 1) d_R_isPermutation_90 (by decide) ?_
      refine bj_goto (pc := 91) (tgt := 95) d_R_isPermutation_91 (by decide) ?_
      refine bj_sub [1, 2] (lo' := [(0, .ref x0), (2, .int x2)]) rfl ?_
      exact m_R_isPermutation_95 hR hnx27 hw
theorem m_R_isPermutation_54 {l : Launch} {R : Room} {Φ : bs_R → bs_H → Prop} (hR : bs_rm 1 R) {nx27 : Nat → Int32 → Int32 → bs_H → Prop} (hnx27 : ∀ (x0 : Nat) (x1 : Int32) (x2 : Int32) (h : bs_H), nx27 x0 x1 x2 h → bs_J l K_R_isPermutation R Φ 27 [(0, .ref x0), (1, .int x1), (2, .int x2)] [] h) {x0 : Nat} {x2 : Int32} {h : bs_H} (hw : w_R_isPermutation_54 Φ nx27 x0 x2 h) : bs_J l K_R_isPermutation R Φ 54 [(0, .ref x0), (2, .int x2)] [] h := by
  unfold w_R_isPermutation_54 at hw
  refine bj_iconst (pc := 54) (v := 0) d_R_isPermutation_54 (by decide) ?_
  exact m_R_isPermutation_55 hR hnx27 hw
theorem m_R_isPermutation_27 {l : Launch} {R : Room} {Φ : bs_R → bs_H → Prop} (hR : bs_rm 1 R) : ∀ (n : Nat) (x0 : Nat) (x1 : Int32) (x2 : Int32) (h : bs_H), w_R_isPermutation_27 Φ n x0 x1 x2 h → bs_J l K_R_isPermutation R Φ 27 [(0, .ref x0), (1, .int x1), (2, .int x2)] [] h := by
  intro n
  induction n with
  | zero => intro x0 x1 x2 h hw; exact hw.elim
  | succ n ih =>
    have hnx27 := ih
    intro x0 x1 x2 h hw
    replace hw : w_R_isPermutation_27_s Φ (w_R_isPermutation_27 Φ n) x0 x1 x2 h := hw
    unfold w_R_isPermutation_27_s at hw
    refine bj_iload_n (pc := 27) 2 d_R_isPermutation_27 rfl rfl ?_
    refine bj_aload_n (pc := 28) 0 d_R_isPermutation_28 rfl rfl ?_
    obtain ⟨fs, v1, hx, hv, hw⟩ := hw
    refine bj_get (pc := 29) (ci := 7) (k := 1) (fs := fs) (v := .int v1) d_R_isPermutation_29 rfl (by decide) q_749 hx hv ?_
    refine bj_icmp_ge (pc := 32) (tgt := 102) d_R_isPermutation_32 (by decide) (fun hc => ?_) (fun hc => ?_)
    · replace hw := hw.1 hc
      refine bj_iload_n (pc := 102) 1 d_R_isPermutation_102 rfl rfl ?_
      exact bj_zret (pc := 103) d_R_isPermutation_103 rfl hw.1 hw.2
    · replace hw := hw.2 hc
      refine bj_iload_n (pc := 35) 1 d_R_isPermutation_35 rfl rfl ?_
      refine bj_if_eq (pc := 36) (tgt := 54) d_R_isPermutation_36 (by decide) (fun hc => ?_) (fun hc => ?_)
      · replace hw := hw.1 hc
        refine bj_sub [0, 2] (lo' := [(0, .ref x0), (2, .int x2)]) rfl ?_
        exact m_R_isPermutation_54 hR hnx27 hw
      · replace hw := hw.2 hc
        refine bj_aload_n (pc := 39) 0 d_R_isPermutation_39 rfl rfl ?_
        obtain ⟨fs, v2, hx, hv, hw⟩ := hw
        refine bj_get (pc := 40) (ci := 7) (k := 2) (fs := fs) (v := .ref v2) d_R_isPermutation_40 rfl (by decide) q_750 hx hv ?_
        refine bj_iload_n (pc := 43) 2 d_R_isPermutation_43 rfl rfl ?_
        obtain ⟨n, f, v3, hx, hin, hv, hw⟩ := hw
        refine bj_iald (pc := 44) (n := n) (f := f) d_R_isPermutation_44 hx hin hv ?_
        refine bj_bipush (pc := 45) (v := 64) d_R_isPermutation_45 (by decide) ?_
        refine bj_icmp_ge (pc := 47) (tgt := 54) d_R_isPermutation_47 (by decide) (fun hc => ?_) (fun hc => ?_)
        · replace hw := hw.1 hc
          refine bj_sub [0, 2] (lo' := [(0, .ref x0), (2, .int x2)]) rfl ?_
          exact m_R_isPermutation_54 hR hnx27 hw
        · replace hw := hw.2 hc
          refine bj_iconst (pc := 50) (v := 1) d_R_isPermutation_50 (by decide) ?_
          refine bj_goto (pc := 51) (tgt := 55) d_R_isPermutation_51 (by decide) ?_
          refine bj_sub [0, 2] (lo' := [(0, .ref x0), (2, .int x2)]) rfl ?_
          exact m_R_isPermutation_55 hR hnx27 hw
theorem m_R_isPermutation_2 {l : Launch} {R : Room} {Φ : bs_R → bs_H → Prop} (hR : bs_rm 1 R) : ∀ (n : Nat) (x0 : Nat) (x1 : Int32) (h : bs_H), w_R_isPermutation_2 Φ n x0 x1 h → bs_J l K_R_isPermutation R Φ 2 [(0, .ref x0), (1, .int x1)] [] h := by
  intro n
  induction n with
  | zero => intro x0 x1 h hw; exact hw.elim
  | succ n ih =>
    have hnx2 := ih
    intro x0 x1 h hw
    replace hw : w_R_isPermutation_2_s Φ (w_R_isPermutation_2 Φ n) x0 x1 h := hw
    unfold w_R_isPermutation_2_s at hw
    refine bj_iload_n (pc := 2) 1 d_R_isPermutation_2 rfl rfl ?_
    refine bj_aload_n (pc := 3) 0 d_R_isPermutation_3 rfl rfl ?_
    obtain ⟨fs, v1, hx, hv, hw⟩ := hw
    refine bj_get (pc := 4) (ci := 7) (k := 1) (fs := fs) (v := .int v1) d_R_isPermutation_4 rfl (by decide) q_749 hx hv ?_
    refine bj_icmp_ge (pc := 7) (tgt := 23) d_R_isPermutation_7 (by decide) (fun hc => ?_) (fun hc => ?_)
    · replace hw := hw.1 hc
      refine bj_iconst (pc := 23) (v := 1) d_R_isPermutation_23 (by decide) ?_
      refine bj_istore_n (pc := 24) (lo' := [(1, .int 1), (0, .ref x0)]) d_R_isPermutation_24 rfl (by decide) rfl ?_
      refine bj_iconst (pc := 25) (v := 0) d_R_isPermutation_25 (by decide) ?_
      refine bj_istore_n (pc := 26) (lo' := [(2, .int 0), (1, .int 1), (0, .ref x0)]) d_R_isPermutation_26 rfl (by decide) rfl ?_
      refine bj_sub [2, 1, 0] (lo' := [(0, .ref x0), (1, .int 1), (2, .int 0)]) rfl ?_
      exact m_R_isPermutation_27 hR 1000 _ _ _ _ hw
    · replace hw := hw.2 hc
      refine bj_aload_n (pc := 10) 0 d_R_isPermutation_10 rfl rfl ?_
      obtain ⟨fs, v2, hx, hv, hw⟩ := hw
      refine bj_get (pc := 11) (ci := 7) (k := 26) (fs := fs) (v := .ref v2) d_R_isPermutation_11 rfl (by decide) q_774 hx hv ?_
      refine bj_iload_n (pc := 14) 1 d_R_isPermutation_14 rfl rfl ?_
      refine bj_iconst (pc := 15) (v := 0) d_R_isPermutation_15 (by decide) ?_
      obtain ⟨n, f, hx, hin, hw⟩ := hw
      refine bj_iast (pc := 16) (n := n) (f := f) d_R_isPermutation_16 hx hin ?_
      refine bj_iinc (pc := 17) (v := (x1 + 1)) (lo' := [(1, .int (x1 + 1)), (0, .ref x0)]) 1 d_R_isPermutation_17 rfl rfl (by decide) rfl ?_
      refine bj_goto (pc := 20) (tgt := 2) d_R_isPermutation_20 (by decide) ?_
      refine bj_sub [1, 0] (lo' := [(0, .ref x0), (1, .int (x1 + 1))]) rfl ?_
      exact hnx2 _ _ _ hw
theorem m_R_isPermutation {l : Launch} {R : Room} (hR : bs_rm 1 R) {Φ : bs_R → bs_H → Prop} {x0 : Nat} {h : bs_H} (hw : w_R_isPermutation Φ x0 h) : bs_J l K_R_isPermutation R Φ 0 [(0, .ref x0)] [] h := by
  unfold w_R_isPermutation at hw
  refine bj_iconst (pc := 0) (v := 0) d_R_isPermutation_0 (by decide) ?_
  refine bj_istore_n (pc := 1) (lo' := [(1, .int 0), (0, .ref x0)]) d_R_isPermutation_1 rfl (by decide) rfl ?_
  refine bj_sub [1, 0] (lo' := [(0, .ref x0), (1, .int 0)]) rfl ?_
  exact m_R_isPermutation_2 hR 1000 _ _ _ hw
