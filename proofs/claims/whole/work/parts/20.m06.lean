/-! Decode rows, meanings and rows of: L_mask, R_mask, B_allBits, B_fitsWidth, B_fitsSwap, B_fitsOp, B_patch, L_patch, R_isIn, R_fits, R_patch, W_rotated, B_exchanged, W_gathered, W_scattered. Written by program. -/
theorem d_L_mask_0 : decode method_8_code 0 = .ok (.aload_n 2, 1) := by decide +kernel
theorem d_L_mask_1 : decode method_8_code 1 = .ok (.iconst 0, 1) := by decide +kernel
theorem d_L_mask_2 : decode method_8_code 2 = .ok (.aload_n 0, 1) := by decide +kernel
theorem d_L_mask_3 : decode method_8_code 3 = .ok (.iload_n 1, 1) := by decide +kernel
theorem d_L_mask_4 : decode method_8_code 4 = .ok (.invokevirtual 34, 3) := by decide +kernel
theorem d_L_mask_7 : decode method_8_code 7 = .ok (.lastore, 1) := by decide +kernel
theorem d_L_mask_8 : decode method_8_code 8 = .ok (.goto 6, 3) := by decide +kernel
theorem d_L_mask_11 : decode method_8_code 11 = .ok (.astore_n 3, 1) := by decide +kernel
theorem d_L_mask_12 : decode method_8_code 12 = .ok (.iconst 1, 1) := by decide +kernel
theorem d_L_mask_13 : decode method_8_code 13 = .ok (.ireturn, 1) := by decide +kernel
theorem d_L_mask_14 : decode method_8_code 14 = .ok (.iconst 0, 1) := by decide +kernel
theorem d_L_mask_15 : decode method_8_code 15 = .ok (.ireturn, 1) := by decide +kernel
def w_L_mask_11 (Φ : bs_R → bs_H → Prop) (s0 : Nat) (h : bs_H) : Prop :=
  Φ (.ok (some (.int 1))) h
def w_L_mask (Φ : bs_R → bs_H → Prop) (x0 : Nat) (x1 : Int32) (x2 : Nat) (h : bs_H) : Prop :=
  bs_on h x0 0 (w_B_mask (bs_kL (bs_hd fun E3 h4 => (E3 = "java/lang/IndexOutOfBoundsException" ∧ ∀ a, w_L_mask_11 Φ a h4)) fun v1 h2 => (bs_sL h2 x2 0 v1 (fun h5 => Φ (.ok (some (.int 0))) h5))) x0 x1 h)
theorem m_L_mask_11 {l : Launch} {R : Room} {Φ : bs_R → bs_H → Prop} (hR : bs_rm 4 R) {s0 : Nat} {h : bs_H} (hw : w_L_mask_11 Φ s0 h) : bs_J l K_L_mask R Φ 11 [] [.ref s0] h := by
  unfold w_L_mask_11 at hw
  refine bj_astore_n (pc := 11) (lo' := [(3, .ref s0)]) d_L_mask_11 rfl (by decide) rfl ?_
  refine bj_iconst (pc := 12) (v := 1) d_L_mask_12 (by decide) ?_
  exact bj_iret (pc := 13) d_L_mask_13 rfl hw
theorem m_L_mask {l : Launch} {R : Room} (hR : bs_rm 4 R) {Φ : bs_R → bs_H → Prop} {x0 : Nat} {x1 : Int32} {x2 : Nat} {h : bs_H} (hw : w_L_mask Φ x0 x1 x2 h) : bs_J l K_L_mask R Φ 0 [(0, .ref x0), (1, .int x1), (2, .ref x2)] [] h := by
  unfold w_L_mask at hw
  refine bj_aload_n (pc := 0) 2 d_L_mask_0 rfl rfl ?_
  refine bj_iconst (pc := 1) (v := 0) d_L_mask_1 (by decide) ?_
  refine bj_aload_n (pc := 2) 0 d_L_mask_2 rfl rfl ?_
  refine bj_iload_n (pc := 3) 1 d_L_mask_3 rfl rfl ?_
  obtain ⟨⟨fs, hx⟩, hw⟩ := hw
  refine bj_callVC (pc := 4) (np := 1) (K' := K_B_mask) (argsL := [.int x1]) (st := [.int 0, .ref x2]) (d1 := 3) (ci := 0) (fs := fs) rfl d_L_mask_4 (Or.inl q_624) q_625 rfl q_626 c_B_mask n_B_mask hR (by decide) (by decide) (Nat.le_of_ble_eq_true rfl) rfl (Nat.le_of_ble_eq_true rfl) hx (fun R' hR' => m_B_mask hR' hw) (bs_kL_ok fun v1 h2 hw => ?_) ?_
  · obtain ⟨n, f, hx, hin, hw⟩ := hw
    refine bj_last (pc := 7) (n := n) (f := f) d_L_mask_7 hx hin ?_
    refine bj_goto (pc := 8) (tgt := 14) d_L_mask_8 (by decide) ?_
    refine bj_iconst (pc := 14) (v := 0) d_L_mask_14 (by decide) ?_
    exact bj_iret (pc := 15) d_L_mask_15 rfl hw
  · intro E3 h4 hw
    obtain ⟨rfl, hw⟩ := hw
    refine ⟨11, bs_hand1 rfl (by decide) (by decide) q_595 q_606, fun a => ?_⟩
    replace hw := hw a
    refine bj_sub [] (lo' := []) rfl ?_
    exact m_L_mask_11 hR hw
theorem d_R_mask_0 : decode prog_9_method_21_code 0 = .ok (.aload_n 0, 1) := by decide +kernel
theorem d_R_mask_1 : decode prog_9_method_21_code 1 = .ok (.aload_n 0, 1) := by decide +kernel
theorem d_R_mask_2 : decode prog_9_method_21_code 2 = .ok (.iload_n 1, 1) := by decide +kernel
theorem d_R_mask_3 : decode prog_9_method_21_code 3 = .ok (.invokevirtual 132, 3) := by decide +kernel
theorem d_R_mask_6 : decode prog_9_method_21_code 6 = .ok (.ifCond .eq 7, 3) := by decide +kernel
theorem d_R_mask_9 : decode prog_9_method_21_code 9 = .ok (.iconst 1, 1) := by decide +kernel
theorem d_R_mask_10 : decode prog_9_method_21_code 10 = .ok (.goto 4, 3) := by decide +kernel
theorem d_R_mask_13 : decode prog_9_method_21_code 13 = .ok (.iconst 0, 1) := by decide +kernel
theorem d_R_mask_14 : decode prog_9_method_21_code 14 = .ok (.putfield 85, 3) := by decide +kernel
theorem d_R_mask_17 : decode prog_9_method_21_code 17 = .ok (.aload_n 0, 1) := by decide +kernel
theorem d_R_mask_18 : decode prog_9_method_21_code 18 = .ok (.getfield 85, 3) := by decide +kernel
theorem d_R_mask_21 : decode prog_9_method_21_code 21 = .ok (.ifCond .eq 7, 3) := by decide +kernel
theorem d_R_mask_24 : decode prog_9_method_21_code 24 = .ok (.lconst 0, 1) := by decide +kernel
theorem d_R_mask_25 : decode prog_9_method_21_code 25 = .ok (.goto 9, 3) := by decide +kernel
theorem d_R_mask_28 : decode prog_9_method_21_code 28 = .ok (.aload_n 0, 1) := by decide +kernel
theorem d_R_mask_29 : decode prog_9_method_21_code 29 = .ok (.getfield 19, 3) := by decide +kernel
theorem d_R_mask_32 : decode prog_9_method_21_code 32 = .ok (.iload_n 1, 1) := by decide +kernel
theorem d_R_mask_33 : decode prog_9_method_21_code 33 = .ok (.laload, 1) := by decide +kernel
theorem d_R_mask_34 : decode prog_9_method_21_code 34 = .ok (.lreturn, 1) := by decide +kernel
def w_R_mask_34 (Φ : bs_R → bs_H → Prop) (s0 : Int64) (h : bs_H) : Prop :=
  Φ (.ok (some (.long s0))) h
def w_R_mask_14 (Φ : bs_R → bs_H → Prop) (x0 : Nat) (x1 : Int32) (s0 : Nat) (s1 : Int32) (h : bs_H) : Prop :=
  bs_p h s0 7 0 (.int s1) (fun h1 => bs_fI h1 x0 7 0 (fun v2 => bs_if (v2 = 0) (bs_fA h1 x0 7 6 (fun v3 => bs_lL h1 v3 x1 (fun v4 => w_R_mask_34 Φ v4 h1))) (w_R_mask_34 Φ 0 h1)))
def w_R_mask (Φ : bs_R → bs_H → Prop) (x0 : Nat) (x1 : Int32) (h : bs_H) : Prop :=
  bs_on h x0 7 (w_R_noStep (bs_kI Φ fun v1 h2 => (bs_if (v1 = 0) (w_R_mask_14 Φ x0 x1 x0 0 h2) (w_R_mask_14 Φ x0 x1 x0 1 h2))) x0 x1 h)
theorem m_R_mask_34 {l : Launch} {R : Room} {Φ : bs_R → bs_H → Prop} (hR : bs_rm 2 R) {s0 : Int64} {h : bs_H} (hw : w_R_mask_34 Φ s0 h) : bs_J l K_R_mask R Φ 34 [] [.long s0] h := by
  unfold w_R_mask_34 at hw
  exact bj_lret (pc := 34) d_R_mask_34 rfl hw
theorem m_R_mask_14 {l : Launch} {R : Room} {Φ : bs_R → bs_H → Prop} (hR : bs_rm 2 R) {x0 : Nat} {x1 : Int32} {s0 : Nat} {s1 : Int32} {h : bs_H} (hw : w_R_mask_14 Φ x0 x1 s0 s1 h) : bs_J l K_R_mask R Φ 14 [(0, .ref x0), (1, .int x1)] [.int s1, .ref s0] h := by
  unfold w_R_mask_14 at hw
  obtain ⟨fs, hx, hlen, hw⟩ := hw
  refine bj_put (pc := 14) (ci := 7) (k := 0) (fs := fs) (v := (.int s1)) (ty := .int) d_R_mask_14 rfl (by decide) q_748 rfl (by decide +kernel) rfl rfl hx hlen ?_
  refine bj_aload_n (pc := 17) 0 d_R_mask_17 rfl rfl ?_
  obtain ⟨fs, v2, hx, hv, hw⟩ := hw
  refine bj_get (pc := 18) (ci := 7) (k := 0) (fs := fs) (v := .int v2) d_R_mask_18 rfl (by decide) q_748 hx hv ?_
  refine bj_if_eq (pc := 21) (tgt := 28) d_R_mask_21 (by decide) (fun hc => ?_) (fun hc => ?_)
  · replace hw := hw.1 hc
    refine bj_aload_n (pc := 28) 0 d_R_mask_28 rfl rfl ?_
    obtain ⟨fs, v3, hx, hv, hw⟩ := hw
    refine bj_get (pc := 29) (ci := 7) (k := 6) (fs := fs) (v := .ref v3) d_R_mask_29 rfl (by decide) q_754 hx hv ?_
    refine bj_iload_n (pc := 32) 1 d_R_mask_32 rfl rfl ?_
    obtain ⟨n, f, v4, hx, hin, hv, hw⟩ := hw
    refine bj_lald (pc := 33) (n := n) (f := f) d_R_mask_33 hx hin hv ?_
    refine bj_sub [] (lo' := []) rfl ?_
    exact m_R_mask_34 hR hw
  · replace hw := hw.2 hc
    refine bj_lconst (pc := 24) (v := 0) d_R_mask_24 (by decide) ?_
    refine bj_goto (pc := 25) (tgt := 34) d_R_mask_25 (by decide) ?_
    refine bj_sub [] (lo' := []) rfl ?_
    exact m_R_mask_34 hR hw
theorem m_R_mask {l : Launch} {R : Room} (hR : bs_rm 2 R) {Φ : bs_R → bs_H → Prop} {x0 : Nat} {x1 : Int32} {h : bs_H} (hw : w_R_mask Φ x0 x1 h) : bs_J l K_R_mask R Φ 0 [(0, .ref x0), (1, .int x1)] [] h := by
  unfold w_R_mask at hw
  refine bj_aload_n (pc := 0) 0 d_R_mask_0 rfl rfl ?_
  refine bj_aload_n (pc := 1) 0 d_R_mask_1 rfl rfl ?_
  refine bj_iload_n (pc := 2) 1 d_R_mask_2 rfl rfl ?_
  obtain ⟨⟨fs, hx⟩, hw⟩ := hw
  refine bj_callV (pc := 3) (np := 1) (K' := K_R_noStep) (argsL := [.int x1]) (st := [.ref x0]) (d1 := 1) (ci := 7) (fs := fs) rfl d_R_mask_3 (Or.inl q_899) q_901 rfl q_34 c_R_noStep n_R_noStep hR (by decide) (by decide) rfl (Nat.le_of_ble_eq_true rfl) rfl (Nat.le_of_ble_eq_true rfl) hx (fun R' hR' => m_R_noStep hR' hw) (bs_kI_ok fun v1 h2 hw => ?_) (fun _ _ z => z)
  refine bj_if_eq (pc := 6) (tgt := 13) d_R_mask_6 (by decide) (fun hc => ?_) (fun hc => ?_)
  · replace hw := hw.1 hc
    refine bj_iconst (pc := 13) (v := 0) d_R_mask_13 (by decide) ?_
    exact m_R_mask_14 hR hw
  · replace hw := hw.2 hc
    refine bj_iconst (pc := 9) (v := 1) d_R_mask_9 (by decide) ?_
    refine bj_goto (pc := 10) (tgt := 14) d_R_mask_10 (by decide) ?_
    exact m_R_mask_14 hR hw
theorem d_B_allBits_0 : decode prog_1_method_30_code 0 = .ok (.ldc2_w 228, 3) := by decide +kernel
theorem d_B_allBits_3 : decode prog_1_method_30_code 3 = .ok (.bipush 64, 2) := by decide +kernel
theorem d_B_allBits_5 : decode prog_1_method_30_code 5 = .ok (.iload_n 0, 1) := by decide +kernel
theorem d_B_allBits_6 : decode prog_1_method_30_code 6 = .ok (.isub, 1) := by decide +kernel
theorem d_B_allBits_7 : decode prog_1_method_30_code 7 = .ok (.lushr, 1) := by decide +kernel
theorem d_B_allBits_8 : decode prog_1_method_30_code 8 = .ok (.lreturn, 1) := by decide +kernel
def w_B_allBits (Φ : bs_R → bs_H → Prop) (x0 : Int32) (h : bs_H) : Prop :=
  Φ (.ok (some (.long (bs_ushr (-1) ((64 : Int32) - x0))))) h
theorem m_B_allBits {l : Launch} {R : Room} (hR : bs_rm 1 R) {Φ : bs_R → bs_H → Prop} {x0 : Int32} {h : bs_H} (hw : w_B_allBits Φ x0 h) : bs_J l K_B_allBits R Φ 0 [(0, .int x0)] [] h := by
  unfold w_B_allBits at hw
  refine bj_ldc2 (pc := 0) (v := (-1)) d_B_allBits_0 q_247 ?_
  refine bj_bipush (pc := 3) (v := 64) d_B_allBits_3 (by decide) ?_
  refine bj_iload_n (pc := 5) 0 d_B_allBits_5 rfl rfl ?_
  refine bj_isub (pc := 6) d_B_allBits_6 ?_
  refine bj_lushr (pc := 7) d_B_allBits_7 ?_
  exact bj_lret (pc := 8) d_B_allBits_8 rfl hw
theorem d_B_fitsWidth_0 : decode prog_1_method_28_code 0 = .ok (.lload_n 0, 1) := by decide +kernel
theorem d_B_fitsWidth_1 : decode prog_1_method_28_code 1 = .ok (.iload_n 2, 1) := by decide +kernel
theorem d_B_fitsWidth_2 : decode prog_1_method_28_code 2 = .ok (.invokestatic 225, 3) := by decide +kernel
theorem d_B_fitsWidth_5 : decode prog_1_method_28_code 5 = .ok (.ldc2_w 228, 3) := by decide +kernel
theorem d_B_fitsWidth_8 : decode prog_1_method_28_code 8 = .ok (.lxor, 1) := by decide +kernel
theorem d_B_fitsWidth_9 : decode prog_1_method_28_code 9 = .ok (.land, 1) := by decide +kernel
theorem d_B_fitsWidth_10 : decode prog_1_method_28_code 10 = .ok (.lconst 0, 1) := by decide +kernel
theorem d_B_fitsWidth_11 : decode prog_1_method_28_code 11 = .ok (.lcmp, 1) := by decide +kernel
theorem d_B_fitsWidth_12 : decode prog_1_method_28_code 12 = .ok (.ifCond .ne 7, 3) := by decide +kernel
theorem d_B_fitsWidth_15 : decode prog_1_method_28_code 15 = .ok (.iconst 1, 1) := by decide +kernel
theorem d_B_fitsWidth_16 : decode prog_1_method_28_code 16 = .ok (.goto 4, 3) := by decide +kernel
theorem d_B_fitsWidth_19 : decode prog_1_method_28_code 19 = .ok (.iconst 0, 1) := by decide +kernel
theorem d_B_fitsWidth_20 : decode prog_1_method_28_code 20 = .ok (.ireturn, 1) := by decide +kernel
def w_B_fitsWidth_20 (Φ : bs_R → bs_H → Prop) (s0 : Int32) (h : bs_H) : Prop :=
  bs_rZ Φ s0 h
def w_B_fitsWidth (Φ : bs_R → bs_H → Prop) (x0 : Int64) (x2 : Int32) (h : bs_H) : Prop :=
  w_B_allBits (bs_kL Φ fun v1 h2 => (bs_if ((x0 &&& (v1 ^^^ (-1))) = 0) (w_B_fitsWidth_20 Φ 1 h2) (w_B_fitsWidth_20 Φ 0 h2))) x2 h
theorem m_B_fitsWidth_20 {l : Launch} {R : Room} {Φ : bs_R → bs_H → Prop} (hR : bs_rm 2 R) {s0 : Int32} {h : bs_H} (hw : w_B_fitsWidth_20 Φ s0 h) : bs_J l K_B_fitsWidth R Φ 20 [] [.int s0] h := by
  unfold w_B_fitsWidth_20 at hw
  exact bj_zret (pc := 20) d_B_fitsWidth_20 rfl hw.1 hw.2
theorem m_B_fitsWidth {l : Launch} {R : Room} (hR : bs_rm 2 R) {Φ : bs_R → bs_H → Prop} {x0 : Int64} {x2 : Int32} {h : bs_H} (hw : w_B_fitsWidth Φ x0 x2 h) : bs_J l K_B_fitsWidth R Φ 0 [(0, .long x0), (2, .int x2)] [] h := by
  unfold w_B_fitsWidth at hw
  refine bj_lload_n (pc := 0) 0 d_B_fitsWidth_0 rfl rfl ?_
  refine bj_iload_n (pc := 1) 1 d_B_fitsWidth_1 rfl rfl ?_
  refine bj_callS (pc := 2) (np := 1) (K' := K_B_allBits) (argsL := [.int x2]) (st := [.long x0]) (d1 := 1) rfl d_B_fitsWidth_2 (Or.inl q_645) q_245 q_46 c_B_allBits n_B_allBits hR (by decide) (by decide) rfl (Nat.le_of_ble_eq_true rfl) rfl (Nat.le_of_ble_eq_true rfl) (fun R' hR' => m_B_allBits hR' hw) (bs_kL_ok fun v1 h2 hw => ?_) (fun _ _ z => z)
  refine bj_ldc2 (pc := 5) (v := (-1)) d_B_fitsWidth_5 q_247 ?_
  refine bj_lxor (pc := 8) d_B_fitsWidth_8 ?_
  refine bj_land (pc := 9) d_B_fitsWidth_9 ?_
  refine bj_lconst (pc := 10) (v := 0) d_B_fitsWidth_10 (by decide) ?_
  refine bj_lc_ne (pc := 11) (tgt := 19) d_B_fitsWidth_11 d_B_fitsWidth_12 (by decide) (fun hc => ?_) (fun hc => ?_)
  · replace hw := hw.2 hc
    refine bj_iconst (pc := 19) (v := 0) d_B_fitsWidth_19 (by decide) ?_
    refine bj_sub [] (lo' := []) rfl ?_
    exact m_B_fitsWidth_20 hR hw
  · replace hw := hw.1 hc
    refine bj_iconst (pc := 15) (v := 1) d_B_fitsWidth_15 (by decide) ?_
    refine bj_goto (pc := 16) (tgt := 20) d_B_fitsWidth_16 (by decide) ?_
    refine bj_sub [] (lo' := []) rfl ?_
    exact m_B_fitsWidth_20 hR hw
theorem d_B_fitsSwap_0 : decode prog_1_method_29_code 0 = .ok (.iload_n 0, 1) := by decide +kernel
theorem d_B_fitsSwap_1 : decode prog_1_method_29_code 1 = .ok (.ifCond .le 8, 3) := by decide +kernel
theorem d_B_fitsSwap_4 : decode prog_1_method_29_code 4 = .ok (.iload_n 0, 1) := by decide +kernel
theorem d_B_fitsSwap_5 : decode prog_1_method_29_code 5 = .ok (.iload_n 3, 1) := by decide +kernel
theorem d_B_fitsSwap_6 : decode prog_1_method_29_code 6 = .ok (.if_icmp .lt 5, 3) := by decide +kernel
theorem d_B_fitsSwap_9 : decode prog_1_method_29_code 9 = .ok (.iconst 0, 1) := by decide +kernel
theorem d_B_fitsSwap_10 : decode prog_1_method_29_code 10 = .ok (.ireturn, 1) := by decide +kernel
theorem d_B_fitsSwap_11 : decode prog_1_method_29_code 11 = .ok (.lload_n 1, 1) := by decide +kernel
theorem d_B_fitsSwap_12 : decode prog_1_method_29_code 12 = .ok (.iload_n 3, 1) := by decide +kernel
theorem d_B_fitsSwap_13 : decode prog_1_method_29_code 13 = .ok (.iload_n 0, 1) := by decide +kernel
theorem d_B_fitsSwap_14 : decode prog_1_method_29_code 14 = .ok (.isub, 1) := by decide +kernel
theorem d_B_fitsSwap_15 : decode prog_1_method_29_code 15 = .ok (.invokestatic 222, 3) := by decide +kernel
theorem d_B_fitsSwap_18 : decode prog_1_method_29_code 18 = .ok (.ifCond .eq 17, 3) := by decide +kernel
theorem d_B_fitsSwap_21 : decode prog_1_method_29_code 21 = .ok (.lload_n 1, 1) := by decide +kernel
theorem d_B_fitsSwap_22 : decode prog_1_method_29_code 22 = .ok (.lload_n 1, 1) := by decide +kernel
theorem d_B_fitsSwap_23 : decode prog_1_method_29_code 23 = .ok (.iload_n 0, 1) := by decide +kernel
theorem d_B_fitsSwap_24 : decode prog_1_method_29_code 24 = .ok (.lshl, 1) := by decide +kernel
theorem d_B_fitsSwap_25 : decode prog_1_method_29_code 25 = .ok (.land, 1) := by decide +kernel
theorem d_B_fitsSwap_26 : decode prog_1_method_29_code 26 = .ok (.lconst 0, 1) := by decide +kernel
theorem d_B_fitsSwap_27 : decode prog_1_method_29_code 27 = .ok (.lcmp, 1) := by decide +kernel
theorem d_B_fitsSwap_28 : decode prog_1_method_29_code 28 = .ok (.ifCond .ne 7, 3) := by decide +kernel
theorem d_B_fitsSwap_31 : decode prog_1_method_29_code 31 = .ok (.iconst 1, 1) := by decide +kernel
theorem d_B_fitsSwap_32 : decode prog_1_method_29_code 32 = .ok (.goto 4, 3) := by decide +kernel
theorem d_B_fitsSwap_35 : decode prog_1_method_29_code 35 = .ok (.iconst 0, 1) := by decide +kernel
theorem d_B_fitsSwap_36 : decode prog_1_method_29_code 36 = .ok (.ireturn, 1) := by decide +kernel
def w_B_fitsSwap_36 (Φ : bs_R → bs_H → Prop) (s0 : Int32) (h : bs_H) : Prop :=
  bs_rZ Φ s0 h
def w_B_fitsSwap_35 (Φ : bs_R → bs_H → Prop) (h : bs_H) : Prop :=
  w_B_fitsSwap_36 Φ 0 h
def w_B_fitsSwap_9 (Φ : bs_R → bs_H → Prop) (h : bs_H) : Prop :=
  bs_rZ Φ 0 h
def w_B_fitsSwap (Φ : bs_R → bs_H → Prop) (x0 : Int32) (x1 : Int64) (x3 : Int32) (h : bs_H) : Prop :=
  bs_if (x0 ≤ 0) (w_B_fitsSwap_9 Φ h) (bs_if (x0 < x3) (w_B_fitsWidth (bs_kI Φ fun v1 h2 => (bs_if (v1 = 0) (w_B_fitsSwap_35 Φ h2) (bs_if ((x1 &&& (bs_shl x1 x0)) = 0) (w_B_fitsSwap_36 Φ 1 h2) (w_B_fitsSwap_35 Φ h2)))) x1 (x3 - x0) h) (w_B_fitsSwap_9 Φ h))
theorem m_B_fitsSwap_36 {l : Launch} {R : Room} {Φ : bs_R → bs_H → Prop} (hR : bs_rm 3 R) {s0 : Int32} {h : bs_H} (hw : w_B_fitsSwap_36 Φ s0 h) : bs_J l K_B_fitsSwap R Φ 36 [] [.int s0] h := by
  unfold w_B_fitsSwap_36 at hw
  exact bj_zret (pc := 36) d_B_fitsSwap_36 rfl hw.1 hw.2
theorem m_B_fitsSwap_35 {l : Launch} {R : Room} {Φ : bs_R → bs_H → Prop} (hR : bs_rm 3 R) {h : bs_H} (hw : w_B_fitsSwap_35 Φ h) : bs_J l K_B_fitsSwap R Φ 35 [] [] h := by
  unfold w_B_fitsSwap_35 at hw
  refine bj_iconst (pc := 35) (v := 0) d_B_fitsSwap_35 (by decide) ?_
  exact m_B_fitsSwap_36 hR hw
theorem m_B_fitsSwap_9 {l : Launch} {R : Room} {Φ : bs_R → bs_H → Prop} (hR : bs_rm 3 R) {h : bs_H} (hw : w_B_fitsSwap_9 Φ h) : bs_J l K_B_fitsSwap R Φ 9 [] [] h := by
  unfold w_B_fitsSwap_9 at hw
  refine bj_iconst (pc := 9) (v := 0) d_B_fitsSwap_9 (by decide) ?_
  exact bj_zret (pc := 10) d_B_fitsSwap_10 rfl hw.1 hw.2
theorem m_B_fitsSwap {l : Launch} {R : Room} (hR : bs_rm 3 R) {Φ : bs_R → bs_H → Prop} {x0 : Int32} {x1 : Int64} {x3 : Int32} {h : bs_H} (hw : w_B_fitsSwap Φ x0 x1 x3 h) : bs_J l K_B_fitsSwap R Φ 0 [(0, .int x0), (1, .long x1), (3, .int x3)] [] h := by
  unfold w_B_fitsSwap at hw
  refine bj_iload_n (pc := 0) 0 d_B_fitsSwap_0 rfl rfl ?_
  refine bj_if_le (pc := 1) (tgt := 9) d_B_fitsSwap_1 (by decide) (fun hc => ?_) (fun hc => ?_)
  · replace hw := hw.1 hc
    refine bj_sub [] (lo' := []) rfl ?_
    exact m_B_fitsSwap_9 hR hw
  · replace hw := hw.2 hc
    refine bj_iload_n (pc := 4) 0 d_B_fitsSwap_4 rfl rfl ?_
    refine bj_iload_n (pc := 5) 2 d_B_fitsSwap_5 rfl rfl ?_
    refine bj_icmp_lt (pc := 6) (tgt := 11) d_B_fitsSwap_6 (by decide) (fun hc => ?_) (fun hc => ?_)
    · replace hw := hw.1 hc
      refine bj_lload_n (pc := 11) 1 d_B_fitsSwap_11 rfl rfl ?_
      refine bj_iload_n (pc := 12) 2 d_B_fitsSwap_12 rfl rfl ?_
      refine bj_iload_n (pc := 13) 0 d_B_fitsSwap_13 rfl rfl ?_
      refine bj_isub (pc := 14) d_B_fitsSwap_14 ?_
      refine bj_callS (pc := 15) (np := 2) (K' := K_B_fitsWidth) (argsL := [.long x1, .int (x3 - x0)]) (st := []) (d1 := 2) rfl d_B_fitsSwap_15 (Or.inl q_642) q_643 q_46 c_B_fitsWidth n_B_fitsWidth hR (by decide) (by decide) rfl (Nat.le_of_ble_eq_true rfl) rfl (Nat.le_of_ble_eq_true rfl) (fun R' hR' => m_B_fitsWidth hR' hw) (bs_kI_ok fun v1 h2 hw => ?_) (fun _ _ z => z)
      refine bj_if_eq (pc := 18) (tgt := 35) d_B_fitsSwap_18 (by decide) (fun hc => ?_) (fun hc => ?_)
      · replace hw := hw.1 hc
        refine bj_sub [] (lo' := []) rfl ?_
        exact m_B_fitsSwap_35 hR hw
      · replace hw := hw.2 hc
        refine bj_lload_n (pc := 21) 1 d_B_fitsSwap_21 rfl rfl ?_
        refine bj_lload_n (pc := 22) 1 d_B_fitsSwap_22 rfl rfl ?_
        refine bj_iload_n (pc := 23) 0 d_B_fitsSwap_23 rfl rfl ?_
        refine bj_lshl (pc := 24) d_B_fitsSwap_24 ?_
        refine bj_land (pc := 25) d_B_fitsSwap_25 ?_
        refine bj_lconst (pc := 26) (v := 0) d_B_fitsSwap_26 (by decide) ?_
        refine bj_lc_ne (pc := 27) (tgt := 35) d_B_fitsSwap_27 d_B_fitsSwap_28 (by decide) (fun hc => ?_) (fun hc => ?_)
        · replace hw := hw.2 hc
          refine bj_sub [] (lo' := []) rfl ?_
          exact m_B_fitsSwap_35 hR hw
        · replace hw := hw.1 hc
          refine bj_iconst (pc := 31) (v := 1) d_B_fitsSwap_31 (by decide) ?_
          refine bj_goto (pc := 32) (tgt := 36) d_B_fitsSwap_32 (by decide) ?_
          refine bj_sub [] (lo' := []) rfl ?_
          exact m_B_fitsSwap_36 hR hw
    · replace hw := hw.2 hc
      refine bj_sub [] (lo' := []) rfl ?_
      exact m_B_fitsSwap_9 hR hw
theorem d_B_fitsOp_0 : decode prog_1_method_27_code 0 = .ok (.iload_n 0, 1) := by decide +kernel
theorem d_B_fitsOp_1 : decode prog_1_method_27_code 1 = .ok (.tableswitch 115 0 6 #[43, 68, 115, 91, 115, 107, 91], 43) := by decide +kernel
theorem d_B_fitsOp_44 : decode prog_1_method_27_code 44 = .ok (.iload 4, 2) := by decide +kernel
theorem d_B_fitsOp_46 : decode prog_1_method_27_code 46 = .ok (.ineg, 1) := by decide +kernel
theorem d_B_fitsOp_47 : decode prog_1_method_27_code 47 = .ok (.iload_n 1, 1) := by decide +kernel
theorem d_B_fitsOp_48 : decode prog_1_method_27_code 48 = .ok (.if_icmp .ge 19, 3) := by decide +kernel
theorem d_B_fitsOp_51 : decode prog_1_method_27_code 51 = .ok (.iload_n 1, 1) := by decide +kernel
theorem d_B_fitsOp_52 : decode prog_1_method_27_code 52 = .ok (.iload 4, 2) := by decide +kernel
theorem d_B_fitsOp_54 : decode prog_1_method_27_code 54 = .ok (.if_icmp .ge 13, 3) := by decide +kernel
theorem d_B_fitsOp_57 : decode prog_1_method_27_code 57 = .ok (.lload_n 2, 1) := by decide +kernel
theorem d_B_fitsOp_58 : decode prog_1_method_27_code 58 = .ok (.lconst 0, 1) := by decide +kernel
theorem d_B_fitsOp_59 : decode prog_1_method_27_code 59 = .ok (.lcmp, 1) := by decide +kernel
theorem d_B_fitsOp_60 : decode prog_1_method_27_code 60 = .ok (.ifCond .ne 7, 3) := by decide +kernel
theorem d_B_fitsOp_63 : decode prog_1_method_27_code 63 = .ok (.iconst 1, 1) := by decide +kernel
theorem d_B_fitsOp_64 : decode prog_1_method_27_code 64 = .ok (.goto 4, 3) := by decide +kernel
theorem d_B_fitsOp_67 : decode prog_1_method_27_code 67 = .ok (.iconst 0, 1) := by decide +kernel
theorem d_B_fitsOp_68 : decode prog_1_method_27_code 68 = .ok (.ireturn, 1) := by decide +kernel
theorem d_B_fitsOp_69 : decode prog_1_method_27_code 69 = .ok (.iconst 0, 1) := by decide +kernel
theorem d_B_fitsOp_70 : decode prog_1_method_27_code 70 = .ok (.iload_n 1, 1) := by decide +kernel
theorem d_B_fitsOp_71 : decode prog_1_method_27_code 71 = .ok (.if_icmp .gt 19, 3) := by decide +kernel
theorem d_B_fitsOp_74 : decode prog_1_method_27_code 74 = .ok (.iload_n 1, 1) := by decide +kernel
theorem d_B_fitsOp_75 : decode prog_1_method_27_code 75 = .ok (.iload 4, 2) := by decide +kernel
theorem d_B_fitsOp_77 : decode prog_1_method_27_code 77 = .ok (.if_icmp .ge 13, 3) := by decide +kernel
theorem d_B_fitsOp_80 : decode prog_1_method_27_code 80 = .ok (.lload_n 2, 1) := by decide +kernel
theorem d_B_fitsOp_81 : decode prog_1_method_27_code 81 = .ok (.lconst 0, 1) := by decide +kernel
theorem d_B_fitsOp_82 : decode prog_1_method_27_code 82 = .ok (.lcmp, 1) := by decide +kernel
theorem d_B_fitsOp_83 : decode prog_1_method_27_code 83 = .ok (.ifCond .ne 7, 3) := by decide +kernel
theorem d_B_fitsOp_86 : decode prog_1_method_27_code 86 = .ok (.iconst 1, 1) := by decide +kernel
theorem d_B_fitsOp_87 : decode prog_1_method_27_code 87 = .ok (.goto 4, 3) := by decide +kernel
theorem d_B_fitsOp_90 : decode prog_1_method_27_code 90 = .ok (.iconst 0, 1) := by decide +kernel
theorem d_B_fitsOp_91 : decode prog_1_method_27_code 91 = .ok (.ireturn, 1) := by decide +kernel
theorem d_B_fitsOp_92 : decode prog_1_method_27_code 92 = .ok (.iload_n 1, 1) := by decide +kernel
theorem d_B_fitsOp_93 : decode prog_1_method_27_code 93 = .ok (.ifCond .ne 13, 3) := by decide +kernel
theorem d_B_fitsOp_96 : decode prog_1_method_27_code 96 = .ok (.lload_n 2, 1) := by decide +kernel
theorem d_B_fitsOp_97 : decode prog_1_method_27_code 97 = .ok (.lconst 0, 1) := by decide +kernel
theorem d_B_fitsOp_98 : decode prog_1_method_27_code 98 = .ok (.lcmp, 1) := by decide +kernel
theorem d_B_fitsOp_99 : decode prog_1_method_27_code 99 = .ok (.ifCond .ne 7, 3) := by decide +kernel
theorem d_B_fitsOp_102 : decode prog_1_method_27_code 102 = .ok (.iconst 1, 1) := by decide +kernel
theorem d_B_fitsOp_103 : decode prog_1_method_27_code 103 = .ok (.goto 4, 3) := by decide +kernel
theorem d_B_fitsOp_106 : decode prog_1_method_27_code 106 = .ok (.iconst 0, 1) := by decide +kernel
theorem d_B_fitsOp_107 : decode prog_1_method_27_code 107 = .ok (.ireturn, 1) := by decide +kernel
theorem d_B_fitsOp_108 : decode prog_1_method_27_code 108 = .ok (.iload_n 1, 1) := by decide +kernel
theorem d_B_fitsOp_109 : decode prog_1_method_27_code 109 = .ok (.lload_n 2, 1) := by decide +kernel
theorem d_B_fitsOp_110 : decode prog_1_method_27_code 110 = .ok (.iload 4, 2) := by decide +kernel
theorem d_B_fitsOp_112 : decode prog_1_method_27_code 112 = .ok (.invokestatic 205, 3) := by decide +kernel
theorem d_B_fitsOp_115 : decode prog_1_method_27_code 115 = .ok (.ireturn, 1) := by decide +kernel
theorem d_B_fitsOp_116 : decode prog_1_method_27_code 116 = .ok (.iload_n 1, 1) := by decide +kernel
theorem d_B_fitsOp_117 : decode prog_1_method_27_code 117 = .ok (.ifCond .ne 16, 3) := by decide +kernel
theorem d_B_fitsOp_120 : decode prog_1_method_27_code 120 = .ok (.lload_n 2, 1) := by decide +kernel
theorem d_B_fitsOp_121 : decode prog_1_method_27_code 121 = .ok (.iload 4, 2) := by decide +kernel
theorem d_B_fitsOp_123 : decode prog_1_method_27_code 123 = .ok (.invokestatic 222, 3) := by decide +kernel
theorem d_B_fitsOp_126 : decode prog_1_method_27_code 126 = .ok (.ifCond .eq 7, 3) := by decide +kernel
theorem d_B_fitsOp_129 : decode prog_1_method_27_code 129 = .ok (.iconst 1, 1) := by decide +kernel
theorem d_B_fitsOp_130 : decode prog_1_method_27_code 130 = .ok (.goto 4, 3) := by decide +kernel
theorem d_B_fitsOp_133 : decode prog_1_method_27_code 133 = .ok (.iconst 0, 1) := by decide +kernel
theorem d_B_fitsOp_134 : decode prog_1_method_27_code 134 = .ok (.ireturn, 1) := by decide +kernel
def w_B_fitsOp_134 (Φ : bs_R → bs_H → Prop) (s0 : Int32) (h : bs_H) : Prop :=
  bs_rZ Φ s0 h
def w_B_fitsOp_133 (Φ : bs_R → bs_H → Prop) (h : bs_H) : Prop :=
  w_B_fitsOp_134 Φ 0 h
def w_B_fitsOp_107 (Φ : bs_R → bs_H → Prop) (s0 : Int32) (h : bs_H) : Prop :=
  bs_rZ Φ s0 h
def w_B_fitsOp_106 (Φ : bs_R → bs_H → Prop) (h : bs_H) : Prop :=
  w_B_fitsOp_107 Φ 0 h
def w_B_fitsOp_91 (Φ : bs_R → bs_H → Prop) (s0 : Int32) (h : bs_H) : Prop :=
  bs_rZ Φ s0 h
def w_B_fitsOp_90 (Φ : bs_R → bs_H → Prop) (h : bs_H) : Prop :=
  w_B_fitsOp_91 Φ 0 h
def w_B_fitsOp_68 (Φ : bs_R → bs_H → Prop) (s0 : Int32) (h : bs_H) : Prop :=
  bs_rZ Φ s0 h
def w_B_fitsOp_67 (Φ : bs_R → bs_H → Prop) (h : bs_H) : Prop :=
  w_B_fitsOp_68 Φ 0 h
def w_B_fitsOp (Φ : bs_R → bs_H → Prop) (x0 : Int32) (x1 : Int32) (x2 : Int64) (x4 : Int32) (h : bs_H) : Prop :=
  bs_if (x0 = 0) (bs_if (x1 ≤ (-x4)) (w_B_fitsOp_67 Φ h) (bs_if (x4 ≤ x1) (w_B_fitsOp_67 Φ h) (bs_if (x2 = 0) (w_B_fitsOp_68 Φ 1 h) (w_B_fitsOp_67 Φ h)))) (bs_if (x0 = 1) (bs_if (x1 < 0) (w_B_fitsOp_90 Φ h) (bs_if (x4 ≤ x1) (w_B_fitsOp_90 Φ h) (bs_if (x2 = 0) (w_B_fitsOp_91 Φ 1 h) (w_B_fitsOp_90 Φ h)))) (bs_if (x0 = 3) (bs_if (x1 = 0) (bs_if (x2 = 0) (w_B_fitsOp_107 Φ 1 h) (w_B_fitsOp_106 Φ h)) (w_B_fitsOp_106 Φ h)) (bs_if (x0 = 5) (w_B_fitsSwap (bs_kI Φ fun v1 h2 => (bs_rZ Φ v1 h2)) x1 x2 x4 h) (bs_if (x0 = 6) (bs_if (x1 = 0) (bs_if (x2 = 0) (w_B_fitsOp_107 Φ 1 h) (w_B_fitsOp_106 Φ h)) (w_B_fitsOp_106 Φ h)) (bs_if (x1 = 0) (w_B_fitsWidth (bs_kI Φ fun v3 h4 => (bs_if (v3 = 0) (w_B_fitsOp_133 Φ h4) (w_B_fitsOp_134 Φ 1 h4))) x2 x4 h) (w_B_fitsOp_133 Φ h))))))
theorem m_B_fitsOp_134 {l : Launch} {R : Room} {Φ : bs_R → bs_H → Prop} (hR : bs_rm 4 R) {s0 : Int32} {h : bs_H} (hw : w_B_fitsOp_134 Φ s0 h) : bs_J l K_B_fitsOp R Φ 134 [] [.int s0] h := by
  unfold w_B_fitsOp_134 at hw
  exact bj_zret (pc := 134) d_B_fitsOp_134 rfl hw.1 hw.2
theorem m_B_fitsOp_133 {l : Launch} {R : Room} {Φ : bs_R → bs_H → Prop} (hR : bs_rm 4 R) {h : bs_H} (hw : w_B_fitsOp_133 Φ h) : bs_J l K_B_fitsOp R Φ 133 [] [] h := by
  unfold w_B_fitsOp_133 at hw
  refine bj_iconst (pc := 133) (v := 0) d_B_fitsOp_133 (by decide) ?_
  exact m_B_fitsOp_134 hR hw
theorem m_B_fitsOp_107 {l : Launch} {R : Room} {Φ : bs_R → bs_H → Prop} (hR : bs_rm 4 R) {s0 : Int32} {h : bs_H} (hw : w_B_fitsOp_107 Φ s0 h) : bs_J l K_B_fitsOp R Φ 107 [] [.int s0] h := by
  unfold w_B_fitsOp_107 at hw
  exact bj_zret (pc := 107) d_B_fitsOp_107 rfl hw.1 hw.2
theorem m_B_fitsOp_106 {l : Launch} {R : Room} {Φ : bs_R → bs_H → Prop} (hR : bs_rm 4 R) {h : bs_H} (hw : w_B_fitsOp_106 Φ h) : bs_J l K_B_fitsOp R Φ 106 [] [] h := by
  unfold w_B_fitsOp_106 at hw
  refine bj_iconst (pc := 106) (v := 0) d_B_fitsOp_106 (by decide) ?_
  exact m_B_fitsOp_107 hR hw
theorem m_B_fitsOp_91 {l : Launch} {R : Room} {Φ : bs_R → bs_H → Prop} (hR : bs_rm 4 R) {s0 : Int32} {h : bs_H} (hw : w_B_fitsOp_91 Φ s0 h) : bs_J l K_B_fitsOp R Φ 91 [] [.int s0] h := by
  unfold w_B_fitsOp_91 at hw
  exact bj_zret (pc := 91) d_B_fitsOp_91 rfl hw.1 hw.2
theorem m_B_fitsOp_90 {l : Launch} {R : Room} {Φ : bs_R → bs_H → Prop} (hR : bs_rm 4 R) {h : bs_H} (hw : w_B_fitsOp_90 Φ h) : bs_J l K_B_fitsOp R Φ 90 [] [] h := by
  unfold w_B_fitsOp_90 at hw
  refine bj_iconst (pc := 90) (v := 0) d_B_fitsOp_90 (by decide) ?_
  exact m_B_fitsOp_91 hR hw
theorem m_B_fitsOp_68 {l : Launch} {R : Room} {Φ : bs_R → bs_H → Prop} (hR : bs_rm 4 R) {s0 : Int32} {h : bs_H} (hw : w_B_fitsOp_68 Φ s0 h) : bs_J l K_B_fitsOp R Φ 68 [] [.int s0] h := by
  unfold w_B_fitsOp_68 at hw
  exact bj_zret (pc := 68) d_B_fitsOp_68 rfl hw.1 hw.2
theorem m_B_fitsOp_67 {l : Launch} {R : Room} {Φ : bs_R → bs_H → Prop} (hR : bs_rm 4 R) {h : bs_H} (hw : w_B_fitsOp_67 Φ h) : bs_J l K_B_fitsOp R Φ 67 [] [] h := by
  unfold w_B_fitsOp_67 at hw
  refine bj_iconst (pc := 67) (v := 0) d_B_fitsOp_67 (by decide) ?_
  exact m_B_fitsOp_68 hR hw
theorem m_B_fitsOp {l : Launch} {R : Room} (hR : bs_rm 4 R) {Φ : bs_R → bs_H → Prop} {x0 : Int32} {x1 : Int32} {x2 : Int64} {x4 : Int32} {h : bs_H} (hw : w_B_fitsOp Φ x0 x1 x2 x4 h) : bs_J l K_B_fitsOp R Φ 0 [(0, .int x0), (1, .int x1), (2, .long x2), (4, .int x4)] [] h := by
  unfold w_B_fitsOp at hw
  refine bj_iload_n (pc := 0) 0 d_B_fitsOp_0 rfl rfl ?_
  by_cases hc0 : x0 = 0
  · replace hw := hw.1 hc0
    refine bj_tableIn (pc := 1) (tgt := 44) d_B_fitsOp_1 (by rw [hc0]; decide) (by rw [hc0]; decide) (by rw [hc0]; rfl) (by decide) ?_
    refine bj_iload (pc := 44) 3 d_B_fitsOp_44 rfl ?_
    refine bj_ineg (pc := 46) d_B_fitsOp_46 ?_
    refine bj_iload_n (pc := 47) 1 d_B_fitsOp_47 rfl rfl ?_
    refine bj_icmp_ge (pc := 48) (tgt := 67) d_B_fitsOp_48 (by decide) (fun hc => ?_) (fun hc => ?_)
    · replace hw := hw.1 hc
      refine bj_sub [] (lo' := []) rfl ?_
      exact m_B_fitsOp_67 hR hw
    · replace hw := hw.2 hc
      refine bj_iload_n (pc := 51) 1 d_B_fitsOp_51 rfl rfl ?_
      refine bj_iload (pc := 52) 3 d_B_fitsOp_52 rfl ?_
      refine bj_icmp_ge (pc := 54) (tgt := 67) d_B_fitsOp_54 (by decide) (fun hc => ?_) (fun hc => ?_)
      · replace hw := hw.1 hc
        refine bj_sub [] (lo' := []) rfl ?_
        exact m_B_fitsOp_67 hR hw
      · replace hw := hw.2 hc
        refine bj_lload_n (pc := 57) 2 d_B_fitsOp_57 rfl rfl ?_
        refine bj_lconst (pc := 58) (v := 0) d_B_fitsOp_58 (by decide) ?_
        refine bj_lc_ne (pc := 59) (tgt := 67) d_B_fitsOp_59 d_B_fitsOp_60 (by decide) (fun hc => ?_) (fun hc => ?_)
        · replace hw := hw.2 hc
          refine bj_sub [] (lo' := []) rfl ?_
          exact m_B_fitsOp_67 hR hw
        · replace hw := hw.1 hc
          refine bj_iconst (pc := 63) (v := 1) d_B_fitsOp_63 (by decide) ?_
          refine bj_goto (pc := 64) (tgt := 68) d_B_fitsOp_64 (by decide) ?_
          refine bj_sub [] (lo' := []) rfl ?_
          exact m_B_fitsOp_68 hR hw
  replace hw := hw.2 hc0
  by_cases hc1 : x0 = 1
  · replace hw := hw.1 hc1
    refine bj_tableIn (pc := 1) (tgt := 69) d_B_fitsOp_1 (by rw [hc1]; decide) (by rw [hc1]; decide) (by rw [hc1]; rfl) (by decide) ?_
    refine bj_iconst (pc := 69) (v := 0) d_B_fitsOp_69 (by decide) ?_
    refine bj_iload_n (pc := 70) 1 d_B_fitsOp_70 rfl rfl ?_
    refine bj_icmp_gt (pc := 71) (tgt := 90) d_B_fitsOp_71 (by decide) (fun hc => ?_) (fun hc => ?_)
    · replace hw := hw.1 hc
      refine bj_sub [] (lo' := []) rfl ?_
      exact m_B_fitsOp_90 hR hw
    · replace hw := hw.2 hc
      refine bj_iload_n (pc := 74) 1 d_B_fitsOp_74 rfl rfl ?_
      refine bj_iload (pc := 75) 3 d_B_fitsOp_75 rfl ?_
      refine bj_icmp_ge (pc := 77) (tgt := 90) d_B_fitsOp_77 (by decide) (fun hc => ?_) (fun hc => ?_)
      · replace hw := hw.1 hc
        refine bj_sub [] (lo' := []) rfl ?_
        exact m_B_fitsOp_90 hR hw
      · replace hw := hw.2 hc
        refine bj_lload_n (pc := 80) 2 d_B_fitsOp_80 rfl rfl ?_
        refine bj_lconst (pc := 81) (v := 0) d_B_fitsOp_81 (by decide) ?_
        refine bj_lc_ne (pc := 82) (tgt := 90) d_B_fitsOp_82 d_B_fitsOp_83 (by decide) (fun hc => ?_) (fun hc => ?_)
        · replace hw := hw.2 hc
          refine bj_sub [] (lo' := []) rfl ?_
          exact m_B_fitsOp_90 hR hw
        · replace hw := hw.1 hc
          refine bj_iconst (pc := 86) (v := 1) d_B_fitsOp_86 (by decide) ?_
          refine bj_goto (pc := 87) (tgt := 91) d_B_fitsOp_87 (by decide) ?_
          refine bj_sub [] (lo' := []) rfl ?_
          exact m_B_fitsOp_91 hR hw
  replace hw := hw.2 hc1
  by_cases hc3 : x0 = 3
  · replace hw := hw.1 hc3
    refine bj_tableIn (pc := 1) (tgt := 92) d_B_fitsOp_1 (by rw [hc3]; decide) (by rw [hc3]; decide) (by rw [hc3]; rfl) (by decide) ?_
    refine bj_iload_n (pc := 92) 1 d_B_fitsOp_92 rfl rfl ?_
    refine bj_if_ne (pc := 93) (tgt := 106) d_B_fitsOp_93 (by decide) (fun hc => ?_) (fun hc => ?_)
    · replace hw := hw.2 hc
      refine bj_sub [] (lo' := []) rfl ?_
      exact m_B_fitsOp_106 hR hw
    · replace hw := hw.1 hc
      refine bj_lload_n (pc := 96) 2 d_B_fitsOp_96 rfl rfl ?_
      refine bj_lconst (pc := 97) (v := 0) d_B_fitsOp_97 (by decide) ?_
      refine bj_lc_ne (pc := 98) (tgt := 106) d_B_fitsOp_98 d_B_fitsOp_99 (by decide) (fun hc => ?_) (fun hc => ?_)
      · replace hw := hw.2 hc
        refine bj_sub [] (lo' := []) rfl ?_
        exact m_B_fitsOp_106 hR hw
      · replace hw := hw.1 hc
        refine bj_iconst (pc := 102) (v := 1) d_B_fitsOp_102 (by decide) ?_
        refine bj_goto (pc := 103) (tgt := 107) d_B_fitsOp_103 (by decide) ?_
        refine bj_sub [] (lo' := []) rfl ?_
        exact m_B_fitsOp_107 hR hw
  replace hw := hw.2 hc3
  by_cases hc5 : x0 = 5
  · replace hw := hw.1 hc5
    refine bj_tableIn (pc := 1) (tgt := 108) d_B_fitsOp_1 (by rw [hc5]; decide) (by rw [hc5]; decide) (by rw [hc5]; rfl) (by decide) ?_
    refine bj_iload_n (pc := 108) 1 d_B_fitsOp_108 rfl rfl ?_
    refine bj_lload_n (pc := 109) 2 d_B_fitsOp_109 rfl rfl ?_
    refine bj_iload (pc := 110) 3 d_B_fitsOp_110 rfl ?_
    refine bj_callS (pc := 112) (np := 3) (K' := K_B_fitsSwap) (argsL := [.int x1, .long x2, .int x4]) (st := []) (d1 := 3) rfl d_B_fitsOp_112 (Or.inl q_639) q_640 q_46 c_B_fitsSwap n_B_fitsSwap hR (by decide) (by decide) rfl (Nat.le_of_ble_eq_true rfl) rfl (Nat.le_of_ble_eq_true rfl) (fun R' hR' => m_B_fitsSwap hR' hw) (bs_kI_ok fun v1 h2 hw => ?_) (fun _ _ z => z)
    exact bj_zret (pc := 115) d_B_fitsOp_115 rfl hw.1 hw.2
  replace hw := hw.2 hc5
  by_cases hc6 : x0 = 6
  · replace hw := hw.1 hc6
    refine bj_tableIn (pc := 1) (tgt := 92) d_B_fitsOp_1 (by rw [hc6]; decide) (by rw [hc6]; decide) (by rw [hc6]; rfl) (by decide) ?_
    refine bj_iload_n (pc := 92) 1 d_B_fitsOp_92 rfl rfl ?_
    refine bj_if_ne (pc := 93) (tgt := 106) d_B_fitsOp_93 (by decide) (fun hc => ?_) (fun hc => ?_)
    · replace hw := hw.2 hc
      refine bj_sub [] (lo' := []) rfl ?_
      exact m_B_fitsOp_106 hR hw
    · replace hw := hw.1 hc
      refine bj_lload_n (pc := 96) 2 d_B_fitsOp_96 rfl rfl ?_
      refine bj_lconst (pc := 97) (v := 0) d_B_fitsOp_97 (by decide) ?_
      refine bj_lc_ne (pc := 98) (tgt := 106) d_B_fitsOp_98 d_B_fitsOp_99 (by decide) (fun hc => ?_) (fun hc => ?_)
      · replace hw := hw.2 hc
        refine bj_sub [] (lo' := []) rfl ?_
        exact m_B_fitsOp_106 hR hw
      · replace hw := hw.1 hc
        refine bj_iconst (pc := 102) (v := 1) d_B_fitsOp_102 (by decide) ?_
        refine bj_goto (pc := 103) (tgt := 107) d_B_fitsOp_103 (by decide) ?_
        refine bj_sub [] (lo' := []) rfl ?_
        exact m_B_fitsOp_107 hR hw
  replace hw := hw.2 hc6
  by_cases hc2 : x0 = 2
  · refine bj_tableIn (pc := 1) (tgt := 116) d_B_fitsOp_1 (by rw [hc2]; decide) (by rw [hc2]; decide) (by rw [hc2]; rfl) (by decide) ?_
    refine bj_iload_n (pc := 116) 1 d_B_fitsOp_116 rfl rfl ?_
    refine bj_if_ne (pc := 117) (tgt := 133) d_B_fitsOp_117 (by decide) (fun hc => ?_) (fun hc => ?_)
    · replace hw := hw.2 hc
      refine bj_sub [] (lo' := []) rfl ?_
      exact m_B_fitsOp_133 hR hw
    · replace hw := hw.1 hc
      refine bj_lload_n (pc := 120) 2 d_B_fitsOp_120 rfl rfl ?_
      refine bj_iload (pc := 121) 3 d_B_fitsOp_121 rfl ?_
      refine bj_callS (pc := 123) (np := 2) (K' := K_B_fitsWidth) (argsL := [.long x2, .int x4]) (st := []) (d1 := 2) rfl d_B_fitsOp_123 (Or.inl q_642) q_643 q_46 c_B_fitsWidth n_B_fitsWidth hR (by decide) (by decide) rfl (Nat.le_of_ble_eq_true rfl) rfl (Nat.le_of_ble_eq_true rfl) (fun R' hR' => m_B_fitsWidth hR' hw) (bs_kI_ok fun v3 h4 hw => ?_) (fun _ _ z => z)
      refine bj_if_eq (pc := 126) (tgt := 133) d_B_fitsOp_126 (by decide) (fun hc => ?_) (fun hc => ?_)
      · replace hw := hw.1 hc
        refine bj_sub [] (lo' := []) rfl ?_
        exact m_B_fitsOp_133 hR hw
      · replace hw := hw.2 hc
        refine bj_iconst (pc := 129) (v := 1) d_B_fitsOp_129 (by decide) ?_
        refine bj_goto (pc := 130) (tgt := 134) d_B_fitsOp_130 (by decide) ?_
        refine bj_sub [] (lo' := []) rfl ?_
        exact m_B_fitsOp_134 hR hw
  by_cases hc4 : x0 = 4
  · refine bj_tableIn (pc := 1) (tgt := 116) d_B_fitsOp_1 (by rw [hc4]; decide) (by rw [hc4]; decide) (by rw [hc4]; rfl) (by decide) ?_
    refine bj_iload_n (pc := 116) 1 d_B_fitsOp_116 rfl rfl ?_
    refine bj_if_ne (pc := 117) (tgt := 133) d_B_fitsOp_117 (by decide) (fun hc => ?_) (fun hc => ?_)
    · replace hw := hw.2 hc
      refine bj_sub [] (lo' := []) rfl ?_
      exact m_B_fitsOp_133 hR hw
    · replace hw := hw.1 hc
      refine bj_lload_n (pc := 120) 2 d_B_fitsOp_120 rfl rfl ?_
      refine bj_iload (pc := 121) 3 d_B_fitsOp_121 rfl ?_
      refine bj_callS (pc := 123) (np := 2) (K' := K_B_fitsWidth) (argsL := [.long x2, .int x4]) (st := []) (d1 := 2) rfl d_B_fitsOp_123 (Or.inl q_642) q_643 q_46 c_B_fitsWidth n_B_fitsWidth hR (by decide) (by decide) rfl (Nat.le_of_ble_eq_true rfl) rfl (Nat.le_of_ble_eq_true rfl) (fun R' hR' => m_B_fitsWidth hR' hw) (bs_kI_ok fun v3 h4 hw => ?_) (fun _ _ z => z)
      refine bj_if_eq (pc := 126) (tgt := 133) d_B_fitsOp_126 (by decide) (fun hc => ?_) (fun hc => ?_)
      · replace hw := hw.1 hc
        refine bj_sub [] (lo' := []) rfl ?_
        exact m_B_fitsOp_133 hR hw
      · replace hw := hw.2 hc
        refine bj_iconst (pc := 129) (v := 1) d_B_fitsOp_129 (by decide) ?_
        refine bj_goto (pc := 130) (tgt := 134) d_B_fitsOp_130 (by decide) ?_
        refine bj_sub [] (lo' := []) rfl ?_
        exact m_B_fitsOp_134 hR hw
  refine bj_tableOut (pc := 1) (tgt := 116) d_B_fitsOp_1 ?_ (by decide) ?_
  · have n0 := lv_neT (k := 0) (a := 0) hc0 (by decide) ; have n1 := lv_neT (k := 1) (a := 1) hc1 (by decide) ; have n2 := lv_neT (k := 2) (a := 2) hc2 (by decide) ; have n3 := lv_neT (k := 3) (a := 3) hc3 (by decide) ; have n4 := lv_neT (k := 4) (a := 4) hc4 (by decide) ; have n5 := lv_neT (k := 5) (a := 5) hc5 (by decide) ; have n6 := lv_neT (k := 6) (a := 6) hc6 (by decide) ; omega
  refine bj_iload_n (pc := 116) 1 d_B_fitsOp_116 rfl rfl ?_
  refine bj_if_ne (pc := 117) (tgt := 133) d_B_fitsOp_117 (by decide) (fun hc => ?_) (fun hc => ?_)
  · replace hw := hw.2 hc
    refine bj_sub [] (lo' := []) rfl ?_
    exact m_B_fitsOp_133 hR hw
  · replace hw := hw.1 hc
    refine bj_lload_n (pc := 120) 2 d_B_fitsOp_120 rfl rfl ?_
    refine bj_iload (pc := 121) 3 d_B_fitsOp_121 rfl ?_
    refine bj_callS (pc := 123) (np := 2) (K' := K_B_fitsWidth) (argsL := [.long x2, .int x4]) (st := []) (d1 := 2) rfl d_B_fitsOp_123 (Or.inl q_642) q_643 q_46 c_B_fitsWidth n_B_fitsWidth hR (by decide) (by decide) rfl (Nat.le_of_ble_eq_true rfl) rfl (Nat.le_of_ble_eq_true rfl) (fun R' hR' => m_B_fitsWidth hR' hw) (bs_kI_ok fun v3 h4 hw => ?_) (fun _ _ z => z)
    refine bj_if_eq (pc := 126) (tgt := 133) d_B_fitsOp_126 (by decide) (fun hc => ?_) (fun hc => ?_)
    · replace hw := hw.1 hc
      refine bj_sub [] (lo' := []) rfl ?_
      exact m_B_fitsOp_133 hR hw
    · replace hw := hw.2 hc
      refine bj_iconst (pc := 129) (v := 1) d_B_fitsOp_129 (by decide) ?_
      refine bj_goto (pc := 130) (tgt := 134) d_B_fitsOp_130 (by decide) ?_
      refine bj_sub [] (lo' := []) rfl ?_
      exact m_B_fitsOp_134 hR hw
theorem d_B_patch_0 : decode prog_1_method_9_code 0 = .ok (.aload_n 0, 1) := by decide +kernel
theorem d_B_patch_1 : decode prog_1_method_9_code 1 = .ok (.iload_n 1, 1) := by decide +kernel
theorem d_B_patch_2 : decode prog_1_method_9_code 2 = .ok (.invokevirtual 115, 3) := by decide +kernel
theorem d_B_patch_5 : decode prog_1_method_9_code 5 = .ok (.aload_n 0, 1) := by decide +kernel
theorem d_B_patch_6 : decode prog_1_method_9_code 6 = .ok (.getfield 30, 3) := by decide +kernel
theorem d_B_patch_9 : decode prog_1_method_9_code 9 = .ok (.iload_n 1, 1) := by decide +kernel
theorem d_B_patch_10 : decode prog_1_method_9_code 10 = .ok (.invokevirtual 121, 3) := by decide +kernel
theorem d_B_patch_13 : decode prog_1_method_9_code 13 = .ok (.iload_n 2, 1) := by decide +kernel
theorem d_B_patch_14 : decode prog_1_method_9_code 14 = .ok (.lload_n 3, 1) := by decide +kernel
theorem d_B_patch_15 : decode prog_1_method_9_code 15 = .ok (.aload_n 0, 1) := by decide +kernel
theorem d_B_patch_16 : decode prog_1_method_9_code 16 = .ok (.getfield 12, 3) := by decide +kernel
theorem d_B_patch_19 : decode prog_1_method_9_code 19 = .ok (.invokevirtual 91, 3) := by decide +kernel
theorem d_B_patch_22 : decode prog_1_method_9_code 22 = .ok (.invokestatic 128, 3) := by decide +kernel
theorem d_B_patch_25 : decode prog_1_method_9_code 25 = .ok (.ifCond .ne 11, 3) := by decide +kernel
theorem d_B_patch_28 : decode prog_1_method_9_code 28 = .ok (.new 66, 3) := by decide +kernel
theorem d_B_patch_31 : decode prog_1_method_9_code 31 = .ok (.dup, 1) := by decide +kernel
theorem d_B_patch_32 : decode prog_1_method_9_code 32 = .ok (.invokespecial 68, 3) := by decide +kernel
theorem d_B_patch_35 : decode prog_1_method_9_code 35 = .ok (.athrow, 1) := by decide +kernel
theorem d_B_patch_36 : decode prog_1_method_9_code 36 = .ok (.aload_n 0, 1) := by decide +kernel
theorem d_B_patch_37 : decode prog_1_method_9_code 37 = .ok (.getfield 30, 3) := by decide +kernel
theorem d_B_patch_40 : decode prog_1_method_9_code 40 = .ok (.iload_n 1, 1) := by decide +kernel
theorem d_B_patch_41 : decode prog_1_method_9_code 41 = .ok (.iload_n 2, 1) := by decide +kernel
theorem d_B_patch_42 : decode prog_1_method_9_code 42 = .ok (.lload_n 3, 1) := by decide +kernel
theorem d_B_patch_43 : decode prog_1_method_9_code 43 = .ok (.invokevirtual 132, 3) := by decide +kernel
theorem d_B_patch_46 : decode prog_1_method_9_code 46 = .ok (.return_, 1) := by decide +kernel
def w_B_patch (Φ : bs_R → bs_H → Prop) (x0 : Nat) (x1 : Int32) (x2 : Int32) (x3 : Int64) (h : bs_H) : Prop :=
  bs_on h x0 0 (w_B_requireStep (bs_kV Φ fun h1 => (bs_fA h1 x0 0 4 (fun v2 => bs_on h1 v2 2 (w_P_opAt (bs_kI Φ fun v3 h4 => (bs_fA h4 x0 0 0 (fun v5 => bs_on h4 v5 1 (w_M_bits (bs_kI Φ fun v6 h7 => (w_B_fitsOp (bs_kI Φ fun v8 h9 => (bs_if (v8 = 0) (bs_th h9 Φ "java/lang/IllegalArgumentException") (bs_fA h9 x0 0 4 (fun v10 => bs_on h9 v10 2 (w_P_change (bs_kV Φ fun h11 => (Φ (.ok none) h11)) v10 x1 x2 x3 h9))))) v3 x2 x3 v6 h7)) v5 h4)))) v2 x1 h1)))) x0 x1 h)
theorem m_B_patch {l : Launch} {R : Room} (hR : bs_rm 5 R) {Φ : bs_R → bs_H → Prop} {x0 : Nat} {x1 : Int32} {x2 : Int32} {x3 : Int64} {h : bs_H} (hw : w_B_patch Φ x0 x1 x2 x3 h) : bs_J l K_B_patch R Φ 0 [(0, .ref x0), (1, .int x1), (2, .int x2), (3, .long x3)] [] h := by
  unfold w_B_patch at hw
  refine bj_aload_n (pc := 0) 0 d_B_patch_0 rfl rfl ?_
  refine bj_iload_n (pc := 1) 1 d_B_patch_1 rfl rfl ?_
  obtain ⟨⟨fs, hx⟩, hw⟩ := hw
  refine bj_callV (pc := 2) (np := 1) (K' := K_B_requireStep) (argsL := [.int x1]) (st := []) (d1 := 2) (ci := 0) (fs := fs) rfl d_B_patch_2 (Or.inl q_600) q_602 rfl q_21 c_B_requireStep n_B_requireStep hR (by decide) (by decide) rfl (Nat.le_of_ble_eq_true rfl) rfl (Nat.le_of_ble_eq_true rfl) hx (fun R' hR' => m_B_requireStep hR' hw) (bs_kV_ok fun h1 hw => ?_) (fun _ _ z => z)
  refine bj_aload_n (pc := 5) 0 d_B_patch_5 rfl rfl ?_
  obtain ⟨fs, v2, hx, hv, hw⟩ := hw
  refine bj_get (pc := 6) (ci := 0) (k := 4) (fs := fs) (v := .ref v2) d_B_patch_6 rfl (by decide) q_200 hx hv ?_
  refine bj_iload_n (pc := 9) 1 d_B_patch_9 rfl rfl ?_
  obtain ⟨⟨fs, hx⟩, hw⟩ := hw
  refine bj_callV (pc := 10) (np := 1) (K' := K_P_opAt) (argsL := [.int x1]) (st := []) (d1 := 1) (ci := 2) (fs := fs) rfl d_B_patch_10 (Or.inl q_620) q_250 rfl q_251 c_P_opAt n_P_opAt hR (by decide) (by decide) rfl (Nat.le_of_ble_eq_true rfl) rfl (Nat.le_of_ble_eq_true rfl) hx (fun R' hR' => m_P_opAt hR' hw) (bs_kI_ok fun v3 h4 hw => ?_) (fun _ _ z => z)
  refine bj_iload_n (pc := 13) 2 d_B_patch_13 rfl rfl ?_
  refine bj_lload_n (pc := 14) 3 d_B_patch_14 rfl rfl ?_
  refine bj_aload_n (pc := 15) 0 d_B_patch_15 rfl rfl ?_
  obtain ⟨fs, v5, hx, hv, hw⟩ := hw
  refine bj_get (pc := 16) (ci := 0) (k := 0) (fs := fs) (v := .ref v5) d_B_patch_16 rfl (by decide) q_196 hx hv ?_
  obtain ⟨⟨fs, hx⟩, hw⟩ := hw
  refine bj_callV (pc := 19) (np := 0) (K' := K_M_bits) (argsL := []) (st := [.long x3, .int x2, .int v3]) (d1 := 1) (ci := 1) (fs := fs) rfl d_B_patch_19 (Or.inl q_236) q_237 rfl q_238 c_M_bits n_M_bits hR (by decide) (by decide) rfl (Nat.le_of_ble_eq_true rfl) rfl (Nat.le_of_ble_eq_true rfl) hx (fun R' hR' => m_M_bits hR' hw) (bs_kI_ok fun v6 h7 hw => ?_) (fun _ _ z => z)
  refine bj_callS (pc := 22) (np := 4) (K' := K_B_fitsOp) (argsL := [.int v3, .int x2, .long x3, .int v6]) (st := []) (d1 := 4) rfl d_B_patch_22 (Or.inl q_636) q_637 q_46 c_B_fitsOp n_B_fitsOp hR (by decide) (by decide) rfl (Nat.le_of_ble_eq_true rfl) rfl (Nat.le_of_ble_eq_true rfl) (fun R' hR' => m_B_fitsOp hR' hw) (bs_kI_ok fun v8 h9 hw => ?_) (fun _ _ z => z)
  refine bj_if_ne (pc := 25) (tgt := 36) d_B_patch_25 (by decide) (fun hc => ?_) (fun hc => ?_)
  · replace hw := hw.2 hc
    refine bj_aload_n (pc := 36) 0 d_B_patch_36 rfl rfl ?_
    obtain ⟨fs, v10, hx, hv, hw⟩ := hw
    refine bj_get (pc := 37) (ci := 0) (k := 4) (fs := fs) (v := .ref v10) d_B_patch_37 rfl (by decide) q_200 hx hv ?_
    refine bj_iload_n (pc := 40) 1 d_B_patch_40 rfl rfl ?_
    refine bj_iload_n (pc := 41) 2 d_B_patch_41 rfl rfl ?_
    refine bj_lload_n (pc := 42) 3 d_B_patch_42 rfl rfl ?_
    obtain ⟨⟨fs, hx⟩, hw⟩ := hw
    refine bj_callV (pc := 43) (np := 3) (K' := K_P_change) (argsL := [.int x1, .int x2, .long x3]) (st := []) (d1 := 1) (ci := 2) (fs := fs) rfl d_B_patch_43 (Or.inl q_646) q_533 rfl q_534 c_P_change n_P_change hR (by decide) (by decide) rfl (Nat.le_of_ble_eq_true rfl) rfl (Nat.le_of_ble_eq_true rfl) hx (fun R' hR' => m_P_change hR' hw) (bs_kV_ok fun h11 hw => ?_) (fun _ _ z => z)
    exact bj_vret (pc := 46) d_B_patch_46 rfl hw
  · replace hw := hw.1 hc
    obtain ⟨h1, h2, hw⟩ := hw
    exact bj_throw (pc := 28) (names := bs_up2) d_B_patch_28 d_B_patch_31 d_B_patch_32 d_B_patch_35 q_381 q_382 q_57 a_B_68 (by decide +kernel) (by decide +kernel) (by decide) rfl hR (Nat.le_of_ble_eq_true rfl) h1 h2 hw
theorem d_L_patch_0 : decode method_9_code 0 = .ok (.aload_n 0, 1) := by decide +kernel
theorem d_L_patch_1 : decode method_9_code 1 = .ok (.iload_n 1, 1) := by decide +kernel
theorem d_L_patch_2 : decode method_9_code 2 = .ok (.iload_n 2, 1) := by decide +kernel
theorem d_L_patch_3 : decode method_9_code 3 = .ok (.lload_n 3, 1) := by decide +kernel
theorem d_L_patch_4 : decode method_9_code 4 = .ok (.invokevirtual 38, 3) := by decide +kernel
theorem d_L_patch_7 : decode method_9_code 7 = .ok (.goto 11, 3) := by decide +kernel
theorem d_L_patch_10 : decode method_9_code 10 = .ok (.astore 5, 2) := by decide +kernel
theorem d_L_patch_12 : decode method_9_code 12 = .ok (.iconst 1, 1) := by decide +kernel
theorem d_L_patch_13 : decode method_9_code 13 = .ok (.ireturn, 1) := by decide +kernel
theorem d_L_patch_14 : decode method_9_code 14 = .ok (.astore 5, 2) := by decide +kernel
theorem d_L_patch_16 : decode method_9_code 16 = .ok (.iconst 2, 1) := by decide +kernel
theorem d_L_patch_17 : decode method_9_code 17 = .ok (.ireturn, 1) := by decide +kernel
theorem d_L_patch_18 : decode method_9_code 18 = .ok (.iconst 0, 1) := by decide +kernel
theorem d_L_patch_19 : decode method_9_code 19 = .ok (.ireturn, 1) := by decide +kernel
def w_L_patch_14 (Φ : bs_R → bs_H → Prop) (s0 : Nat) (h : bs_H) : Prop :=
  Φ (.ok (some (.int 2))) h
def w_L_patch_10 (Φ : bs_R → bs_H → Prop) (s0 : Nat) (h : bs_H) : Prop :=
  Φ (.ok (some (.int 1))) h
def w_L_patch (Φ : bs_R → bs_H → Prop) (x0 : Nat) (x1 : Int32) (x2 : Int32) (x3 : Int64) (h : bs_H) : Prop :=
  bs_on h x0 0 (w_B_patch (bs_kV (bs_hd fun E2 h3 => (E2 = "java/lang/IndexOutOfBoundsException" ∧ ∀ a, w_L_patch_10 Φ a h3) ∨ (E2 = "java/lang/IllegalArgumentException" ∧ ∀ a, w_L_patch_14 Φ a h3)) fun h1 => (Φ (.ok (some (.int 0))) h1)) x0 x1 x2 x3 h)
theorem m_L_patch_14 {l : Launch} {R : Room} {Φ : bs_R → bs_H → Prop} (hR : bs_rm 6 R) {s0 : Nat} {h : bs_H} (hw : w_L_patch_14 Φ s0 h) : bs_J l K_L_patch R Φ 14 [] [.ref s0] h := by
  unfold w_L_patch_14 at hw
  refine bj_astore (pc := 14) (lo' := [(5, .ref s0)]) d_L_patch_14 (by decide) rfl ?_
  refine bj_iconst (pc := 16) (v := 2) d_L_patch_16 (by decide) ?_
  exact bj_iret (pc := 17) d_L_patch_17 rfl hw
theorem m_L_patch_10 {l : Launch} {R : Room} {Φ : bs_R → bs_H → Prop} (hR : bs_rm 6 R) {s0 : Nat} {h : bs_H} (hw : w_L_patch_10 Φ s0 h) : bs_J l K_L_patch R Φ 10 [] [.ref s0] h := by
  unfold w_L_patch_10 at hw
  refine bj_astore (pc := 10) (lo' := [(5, .ref s0)]) d_L_patch_10 (by decide) rfl ?_
  refine bj_iconst (pc := 12) (v := 1) d_L_patch_12 (by decide) ?_
  exact bj_iret (pc := 13) d_L_patch_13 rfl hw
theorem m_L_patch {l : Launch} {R : Room} (hR : bs_rm 6 R) {Φ : bs_R → bs_H → Prop} {x0 : Nat} {x1 : Int32} {x2 : Int32} {x3 : Int64} {h : bs_H} (hw : w_L_patch Φ x0 x1 x2 x3 h) : bs_J l K_L_patch R Φ 0 [(0, .ref x0), (1, .int x1), (2, .int x2), (3, .long x3)] [] h := by
  unfold w_L_patch at hw
  refine bj_aload_n (pc := 0) 0 d_L_patch_0 rfl rfl ?_
  refine bj_iload_n (pc := 1) 1 d_L_patch_1 rfl rfl ?_
  refine bj_iload_n (pc := 2) 2 d_L_patch_2 rfl rfl ?_
  refine bj_lload_n (pc := 3) 3 d_L_patch_3 rfl rfl ?_
  obtain ⟨⟨fs, hx⟩, hw⟩ := hw
  refine bj_callVC (pc := 4) (np := 3) (K' := K_B_patch) (argsL := [.int x1, .int x2, .long x3]) (st := []) (d1 := 5) (ci := 0) (fs := fs) rfl d_L_patch_4 (Or.inl q_632) q_633 rfl q_634 c_B_patch n_B_patch hR (by decide) (by decide) (Nat.le_of_ble_eq_true rfl) rfl (Nat.le_of_ble_eq_true rfl) hx (fun R' hR' => m_B_patch hR' hw) (bs_kV_ok fun h1 hw => ?_) ?_
  · refine bj_goto (pc := 7) (tgt := 18) d_L_patch_7 (by decide) ?_
    refine bj_iconst (pc := 18) (v := 0) d_L_patch_18 (by decide) ?_
    exact bj_iret (pc := 19) d_L_patch_19 rfl hw
  · intro E2 h3 hw
    rcases hw with ⟨rfl, hw⟩ | ⟨rfl, hw⟩
    · refine ⟨10, bs_hand1 rfl (by decide) (by decide) q_595 q_606, fun a => ?_⟩
      replace hw := hw a
      refine bj_sub [] (lo' := []) rfl ?_
      exact m_L_patch_10 hR hw
    · refine ⟨14, bs_hand2 rfl (by decide) (by decide) (by decide) (by decide) q_595 q_376 q_383 ?_, fun a => ?_⟩
      · exact nc_IllegalArgumentException_IndexOutOfBoundsException
      replace hw := hw a
      refine bj_sub [] (lo' := []) rfl ?_
      exact m_L_patch_14 hR hw
theorem d_R_isIn_0 : decode prog_9_method_22_code 0 = .ok (.lload_n 1, 1) := by decide +kernel
theorem d_R_isIn_1 : decode prog_9_method_22_code 1 = .ok (.iload_n 3, 1) := by decide +kernel
theorem d_R_isIn_2 : decode prog_9_method_22_code 2 = .ok (.lshr, 1) := by decide +kernel
theorem d_R_isIn_3 : decode prog_9_method_22_code 3 = .ok (.lconst 1, 1) := by decide +kernel
theorem d_R_isIn_4 : decode prog_9_method_22_code 4 = .ok (.land, 1) := by decide +kernel
theorem d_R_isIn_5 : decode prog_9_method_22_code 5 = .ok (.lconst 1, 1) := by decide +kernel
theorem d_R_isIn_6 : decode prog_9_method_22_code 6 = .ok (.lcmp, 1) := by decide +kernel
theorem d_R_isIn_7 : decode prog_9_method_22_code 7 = .ok (.ifCond .ne 7, 3) := by decide +kernel
theorem d_R_isIn_10 : decode prog_9_method_22_code 10 = .ok (.iconst 1, 1) := by decide +kernel
theorem d_R_isIn_11 : decode prog_9_method_22_code 11 = .ok (.goto 4, 3) := by decide +kernel
theorem d_R_isIn_14 : decode prog_9_method_22_code 14 = .ok (.iconst 0, 1) := by decide +kernel
theorem d_R_isIn_15 : decode prog_9_method_22_code 15 = .ok (.ireturn, 1) := by decide +kernel
def w_R_isIn_15 (Φ : bs_R → bs_H → Prop) (s0 : Int32) (h : bs_H) : Prop :=
  bs_rZ Φ s0 h
def w_R_isIn (Φ : bs_R → bs_H → Prop) (x0 : Nat) (x1 : Int64) (x3 : Int32) (h : bs_H) : Prop :=
  bs_if (((bs_shr x1 x3) &&& 1) = 1) (w_R_isIn_15 Φ 1 h) (w_R_isIn_15 Φ 0 h)
theorem m_R_isIn_15 {l : Launch} {R : Room} {Φ : bs_R → bs_H → Prop} (hR : bs_rm 1 R) {s0 : Int32} {h : bs_H} (hw : w_R_isIn_15 Φ s0 h) : bs_J l K_R_isIn R Φ 15 [] [.int s0] h := by
  unfold w_R_isIn_15 at hw
  exact bj_zret (pc := 15) d_R_isIn_15 rfl hw.1 hw.2
theorem m_R_isIn {l : Launch} {R : Room} (hR : bs_rm 1 R) {Φ : bs_R → bs_H → Prop} {x0 : Nat} {x1 : Int64} {x3 : Int32} {h : bs_H} (hw : w_R_isIn Φ x0 x1 x3 h) : bs_J l K_R_isIn R Φ 0 [(0, .ref x0), (1, .long x1), (3, .int x3)] [] h := by
  unfold w_R_isIn at hw
  refine bj_lload_n (pc := 0) 1 d_R_isIn_0 rfl rfl ?_
  refine bj_iload_n (pc := 1) 2 d_R_isIn_1 rfl rfl ?_
  refine bj_lshr (pc := 2) d_R_isIn_2 ?_
  refine bj_lconst (pc := 3) (v := 1) d_R_isIn_3 (by decide) ?_
  refine bj_land (pc := 4) d_R_isIn_4 ?_
  refine bj_lconst (pc := 5) (v := 1) d_R_isIn_5 (by decide) ?_
  refine bj_lc_ne (pc := 6) (tgt := 14) d_R_isIn_6 d_R_isIn_7 (by decide) (fun hc => ?_) (fun hc => ?_)
  · replace hw := hw.2 hc
    refine bj_iconst (pc := 14) (v := 0) d_R_isIn_14 (by decide) ?_
    refine bj_sub [] (lo' := []) rfl ?_
    exact m_R_isIn_15 hR hw
  · replace hw := hw.1 hc
    refine bj_iconst (pc := 10) (v := 1) d_R_isIn_10 (by decide) ?_
    refine bj_goto (pc := 11) (tgt := 15) d_R_isIn_11 (by decide) ?_
    refine bj_sub [] (lo' := []) rfl ?_
    exact m_R_isIn_15 hR hw
theorem d_R_fits_0 : decode prog_9_method_23_code 0 = .ok (.iconst 1, 1) := by decide +kernel
theorem d_R_fits_1 : decode prog_9_method_23_code 1 = .ok (.istore 5, 2) := by decide +kernel
theorem d_R_fits_3 : decode prog_9_method_23_code 3 = .ok (.aload_n 0, 1) := by decide +kernel
theorem d_R_fits_4 : decode prog_9_method_23_code 4 = .ok (.getfield 89, 3) := by decide +kernel
theorem d_R_fits_7 : decode prog_9_method_23_code 7 = .ok (.istore 6, 2) := by decide +kernel
theorem d_R_fits_9 : decode prog_9_method_23_code 9 = .ok (.iload 6, 2) := by decide +kernel
theorem d_R_fits_11 : decode prog_9_method_23_code 11 = .ok (.bipush 64, 2) := by decide +kernel
theorem d_R_fits_13 : decode prog_9_method_23_code 13 = .ok (.if_icmp .ge 31, 3) := by decide +kernel
theorem d_R_fits_16 : decode prog_9_method_23_code 16 = .ok (.iload 5, 2) := by decide +kernel
theorem d_R_fits_18 : decode prog_9_method_23_code 18 = .ok (.ifCond .eq 17, 3) := by decide +kernel
theorem d_R_fits_21 : decode prog_9_method_23_code 21 = .ok (.aload_n 0, 1) := by decide +kernel
theorem d_R_fits_22 : decode prog_9_method_23_code 22 = .ok (.lload_n 3, 1) := by decide +kernel
theorem d_R_fits_23 : decode prog_9_method_23_code 23 = .ok (.iload 6, 2) := by decide +kernel
theorem d_R_fits_25 : decode prog_9_method_23_code 25 = .ok (.invokevirtual 135, 3) := by decide +kernel
theorem d_R_fits_28 : decode prog_9_method_23_code 28 = .ok (.ifCond .ne 7, 3) := by decide +kernel
theorem d_R_fits_31 : decode prog_9_method_23_code 31 = .ok (.iconst 1, 1) := by decide +kernel
theorem d_R_fits_32 : decode prog_9_method_23_code 32 = .ok (.goto 4, 3) := by decide +kernel
theorem d_R_fits_35 : decode prog_9_method_23_code 35 = .ok (.iconst 0, 1) := by decide +kernel
theorem d_R_fits_36 : decode prog_9_method_23_code 36 = .ok (.istore 5, 2) := by decide +kernel
theorem d_R_fits_38 : decode prog_9_method_23_code 38 = .ok (.iinc 6 1, 3) := by decide +kernel
theorem d_R_fits_41 : decode prog_9_method_23_code 41 = .ok (.goto (-32), 3) := by decide +kernel
theorem d_R_fits_44 : decode prog_9_method_23_code 44 = .ok (.iload_n 1, 1) := by decide +kernel
theorem d_R_fits_45 : decode prog_9_method_23_code 45 = .ok (.ifCond .ne 32, 3) := by decide +kernel
theorem d_R_fits_48 : decode prog_9_method_23_code 48 = .ok (.iload_n 2, 1) := by decide +kernel
theorem d_R_fits_49 : decode prog_9_method_23_code 49 = .ok (.aload_n 0, 1) := by decide +kernel
theorem d_R_fits_50 : decode prog_9_method_23_code 50 = .ok (.getfield 89, 3) := by decide +kernel
theorem d_R_fits_53 : decode prog_9_method_23_code 53 = .ok (.ineg, 1) := by decide +kernel
theorem d_R_fits_54 : decode prog_9_method_23_code 54 = .ok (.if_icmp .le 21, 3) := by decide +kernel
theorem d_R_fits_57 : decode prog_9_method_23_code 57 = .ok (.iload_n 2, 1) := by decide +kernel
theorem d_R_fits_58 : decode prog_9_method_23_code 58 = .ok (.aload_n 0, 1) := by decide +kernel
theorem d_R_fits_59 : decode prog_9_method_23_code 59 = .ok (.getfield 89, 3) := by decide +kernel
theorem d_R_fits_62 : decode prog_9_method_23_code 62 = .ok (.if_icmp .ge 13, 3) := by decide +kernel
theorem d_R_fits_65 : decode prog_9_method_23_code 65 = .ok (.lload_n 3, 1) := by decide +kernel
theorem d_R_fits_66 : decode prog_9_method_23_code 66 = .ok (.lconst 0, 1) := by decide +kernel
theorem d_R_fits_67 : decode prog_9_method_23_code 67 = .ok (.lcmp, 1) := by decide +kernel
theorem d_R_fits_68 : decode prog_9_method_23_code 68 = .ok (.ifCond .ne 7, 3) := by decide +kernel
theorem d_R_fits_71 : decode prog_9_method_23_code 71 = .ok (.iconst 1, 1) := by decide +kernel
theorem d_R_fits_72 : decode prog_9_method_23_code 72 = .ok (.goto 4, 3) := by decide +kernel
theorem d_R_fits_75 : decode prog_9_method_23_code 75 = .ok (.iconst 0, 1) := by decide +kernel
theorem d_R_fits_76 : decode prog_9_method_23_code 76 = .ok (.ireturn, 1) := by decide +kernel
theorem d_R_fits_77 : decode prog_9_method_23_code 77 = .ok (.iload_n 1, 1) := by decide +kernel
theorem d_R_fits_78 : decode prog_9_method_23_code 78 = .ok (.iconst 1, 1) := by decide +kernel
theorem d_R_fits_79 : decode prog_9_method_23_code 79 = .ok (.if_icmp .ne 27, 3) := by decide +kernel
theorem d_R_fits_82 : decode prog_9_method_23_code 82 = .ok (.iload_n 2, 1) := by decide +kernel
theorem d_R_fits_83 : decode prog_9_method_23_code 83 = .ok (.ifCond .lt 21, 3) := by decide +kernel
theorem d_R_fits_86 : decode prog_9_method_23_code 86 = .ok (.iload_n 2, 1) := by decide +kernel
theorem d_R_fits_87 : decode prog_9_method_23_code 87 = .ok (.aload_n 0, 1) := by decide +kernel
theorem d_R_fits_88 : decode prog_9_method_23_code 88 = .ok (.getfield 89, 3) := by decide +kernel
theorem d_R_fits_91 : decode prog_9_method_23_code 91 = .ok (.if_icmp .ge 13, 3) := by decide +kernel
theorem d_R_fits_94 : decode prog_9_method_23_code 94 = .ok (.lload_n 3, 1) := by decide +kernel
theorem d_R_fits_95 : decode prog_9_method_23_code 95 = .ok (.lconst 0, 1) := by decide +kernel
theorem d_R_fits_96 : decode prog_9_method_23_code 96 = .ok (.lcmp, 1) := by decide +kernel
theorem d_R_fits_97 : decode prog_9_method_23_code 97 = .ok (.ifCond .ne 7, 3) := by decide +kernel
theorem d_R_fits_100 : decode prog_9_method_23_code 100 = .ok (.iconst 1, 1) := by decide +kernel
theorem d_R_fits_101 : decode prog_9_method_23_code 101 = .ok (.goto 4, 3) := by decide +kernel
theorem d_R_fits_104 : decode prog_9_method_23_code 104 = .ok (.iconst 0, 1) := by decide +kernel
theorem d_R_fits_105 : decode prog_9_method_23_code 105 = .ok (.ireturn, 1) := by decide +kernel
theorem d_R_fits_106 : decode prog_9_method_23_code 106 = .ok (.iload_n 1, 1) := by decide +kernel
theorem d_R_fits_107 : decode prog_9_method_23_code 107 = .ok (.iconst 3, 1) := by decide +kernel
theorem d_R_fits_108 : decode prog_9_method_23_code 108 = .ok (.if_icmp .eq 9, 3) := by decide +kernel
theorem d_R_fits_111 : decode prog_9_method_23_code 111 = .ok (.iload_n 1, 1) := by decide +kernel
theorem d_R_fits_112 : decode prog_9_method_23_code 112 = .ok (.bipush 6, 2) := by decide +kernel
theorem d_R_fits_114 : decode prog_9_method_23_code 114 = .ok (.if_icmp .ne 19, 3) := by decide +kernel
theorem d_R_fits_117 : decode prog_9_method_23_code 117 = .ok (.iload_n 2, 1) := by decide +kernel
theorem d_R_fits_118 : decode prog_9_method_23_code 118 = .ok (.ifCond .ne 13, 3) := by decide +kernel
theorem d_R_fits_121 : decode prog_9_method_23_code 121 = .ok (.lload_n 3, 1) := by decide +kernel
theorem d_R_fits_122 : decode prog_9_method_23_code 122 = .ok (.lconst 0, 1) := by decide +kernel
theorem d_R_fits_123 : decode prog_9_method_23_code 123 = .ok (.lcmp, 1) := by decide +kernel
theorem d_R_fits_124 : decode prog_9_method_23_code 124 = .ok (.ifCond .ne 7, 3) := by decide +kernel
theorem d_R_fits_127 : decode prog_9_method_23_code 127 = .ok (.iconst 1, 1) := by decide +kernel
theorem d_R_fits_128 : decode prog_9_method_23_code 128 = .ok (.goto 4, 3) := by decide +kernel
theorem d_R_fits_131 : decode prog_9_method_23_code 131 = .ok (.iconst 0, 1) := by decide +kernel
theorem d_R_fits_132 : decode prog_9_method_23_code 132 = .ok (.ireturn, 1) := by decide +kernel
theorem d_R_fits_133 : decode prog_9_method_23_code 133 = .ok (.iload_n 1, 1) := by decide +kernel
theorem d_R_fits_134 : decode prog_9_method_23_code 134 = .ok (.iconst 5, 1) := by decide +kernel
theorem d_R_fits_135 : decode prog_9_method_23_code 135 = .ok (.if_icmp .eq 18, 3) := by decide +kernel
theorem d_R_fits_138 : decode prog_9_method_23_code 138 = .ok (.iload_n 2, 1) := by decide +kernel
theorem d_R_fits_139 : decode prog_9_method_23_code 139 = .ok (.ifCond .ne 12, 3) := by decide +kernel
theorem d_R_fits_142 : decode prog_9_method_23_code 142 = .ok (.iload 5, 2) := by decide +kernel
theorem d_R_fits_144 : decode prog_9_method_23_code 144 = .ok (.ifCond .eq 7, 3) := by decide +kernel
theorem d_R_fits_147 : decode prog_9_method_23_code 147 = .ok (.iconst 1, 1) := by decide +kernel
theorem d_R_fits_148 : decode prog_9_method_23_code 148 = .ok (.goto 4, 3) := by decide +kernel
theorem d_R_fits_151 : decode prog_9_method_23_code 151 = .ok (.iconst 0, 1) := by decide +kernel
theorem d_R_fits_152 : decode prog_9_method_23_code 152 = .ok (.ireturn, 1) := by decide +kernel
theorem d_R_fits_153 : decode prog_9_method_23_code 153 = .ok (.iload_n 2, 1) := by decide +kernel
theorem d_R_fits_154 : decode prog_9_method_23_code 154 = .ok (.ifCond .le 20, 3) := by decide +kernel
theorem d_R_fits_157 : decode prog_9_method_23_code 157 = .ok (.iload_n 2, 1) := by decide +kernel
theorem d_R_fits_158 : decode prog_9_method_23_code 158 = .ok (.aload_n 0, 1) := by decide +kernel
theorem d_R_fits_159 : decode prog_9_method_23_code 159 = .ok (.getfield 89, 3) := by decide +kernel
theorem d_R_fits_162 : decode prog_9_method_23_code 162 = .ok (.if_icmp .ge 12, 3) := by decide +kernel
theorem d_R_fits_165 : decode prog_9_method_23_code 165 = .ok (.iload 5, 2) := by decide +kernel
theorem d_R_fits_167 : decode prog_9_method_23_code 167 = .ok (.ifCond .eq 7, 3) := by decide +kernel
theorem d_R_fits_170 : decode prog_9_method_23_code 170 = .ok (.iconst 1, 1) := by decide +kernel
theorem d_R_fits_171 : decode prog_9_method_23_code 171 = .ok (.goto 4, 3) := by decide +kernel
theorem d_R_fits_174 : decode prog_9_method_23_code 174 = .ok (.iconst 0, 1) := by decide +kernel
theorem d_R_fits_175 : decode prog_9_method_23_code 175 = .ok (.istore 6, 2) := by decide +kernel
theorem d_R_fits_177 : decode prog_9_method_23_code 177 = .ok (.iconst 0, 1) := by decide +kernel
theorem d_R_fits_178 : decode prog_9_method_23_code 178 = .ok (.istore 7, 2) := by decide +kernel
theorem d_R_fits_180 : decode prog_9_method_23_code 180 = .ok (.iload 7, 2) := by decide +kernel
theorem d_R_fits_182 : decode prog_9_method_23_code 182 = .ok (.aload_n 0, 1) := by decide +kernel
theorem d_R_fits_183 : decode prog_9_method_23_code 183 = .ok (.getfield 89, 3) := by decide +kernel
theorem d_R_fits_186 : decode prog_9_method_23_code 186 = .ok (.if_icmp .ge 54, 3) := by decide +kernel
theorem d_R_fits_189 : decode prog_9_method_23_code 189 = .ok (.iload 6, 2) := by decide +kernel
theorem d_R_fits_191 : decode prog_9_method_23_code 191 = .ok (.ifCond .eq 49, 3) := by decide +kernel
theorem d_R_fits_194 : decode prog_9_method_23_code 194 = .ok (.aload_n 0, 1) := by decide +kernel
theorem d_R_fits_195 : decode prog_9_method_23_code 195 = .ok (.lload_n 3, 1) := by decide +kernel
theorem d_R_fits_196 : decode prog_9_method_23_code 196 = .ok (.iload 7, 2) := by decide +kernel
theorem d_R_fits_198 : decode prog_9_method_23_code 198 = .ok (.invokevirtual 135, 3) := by decide +kernel
theorem d_R_fits_201 : decode prog_9_method_23_code 201 = .ok (.ifCond .eq 26, 3) := by decide +kernel
theorem d_R_fits_204 : decode prog_9_method_23_code 204 = .ok (.iload 7, 2) := by decide +kernel
theorem d_R_fits_206 : decode prog_9_method_23_code 206 = .ok (.iload_n 2, 1) := by decide +kernel
theorem d_R_fits_207 : decode prog_9_method_23_code 207 = .ok (.iadd, 1) := by decide +kernel
theorem d_R_fits_208 : decode prog_9_method_23_code 208 = .ok (.aload_n 0, 1) := by decide +kernel
theorem d_R_fits_209 : decode prog_9_method_23_code 209 = .ok (.getfield 89, 3) := by decide +kernel
theorem d_R_fits_212 : decode prog_9_method_23_code 212 = .ok (.if_icmp .ge 19, 3) := by decide +kernel
theorem d_R_fits_215 : decode prog_9_method_23_code 215 = .ok (.aload_n 0, 1) := by decide +kernel
theorem d_R_fits_216 : decode prog_9_method_23_code 216 = .ok (.lload_n 3, 1) := by decide +kernel
theorem d_R_fits_217 : decode prog_9_method_23_code 217 = .ok (.iload 7, 2) := by decide +kernel
theorem d_R_fits_219 : decode prog_9_method_23_code 219 = .ok (.iload_n 2, 1) := by decide +kernel
theorem d_R_fits_220 : decode prog_9_method_23_code 220 = .ok (.iadd, 1) := by decide +kernel
theorem d_R_fits_221 : decode prog_9_method_23_code 221 = .ok (.invokevirtual 135, 3) := by decide +kernel
theorem d_R_fits_224 : decode prog_9_method_23_code 224 = .ok (.ifCond .ne 7, 3) := by decide +kernel
theorem d_R_fits_227 : decode prog_9_method_23_code 227 = .ok (.iconst 1, 1) := by decide +kernel
theorem d_R_fits_228 : decode prog_9_method_23_code 228 = .ok (.goto 4, 3) := by decide +kernel
theorem d_R_fits_231 : decode prog_9_method_23_code 231 = .ok (.iconst 0, 1) := by decide +kernel
theorem d_R_fits_232 : decode prog_9_method_23_code 232 = .ok (.istore 6, 2) := by decide +kernel
theorem d_R_fits_234 : decode prog_9_method_23_code 234 = .ok (.iinc 7 1, 3) := by decide +kernel
theorem d_R_fits_237 : decode prog_9_method_23_code 237 = .ok (.goto (-57), 3) := by decide +kernel
theorem d_R_fits_240 : decode prog_9_method_23_code 240 = .ok (.iload 6, 2) := by decide +kernel
theorem d_R_fits_242 : decode prog_9_method_23_code 242 = .ok (.ireturn, 1) := by decide +kernel
def w_R_fits_240 (Φ : bs_R → bs_H → Prop) (x6 : Int32) (h : bs_H) : Prop :=
  bs_rZ Φ x6 h
def w_R_fits_232 (Φ : bs_R → bs_H → Prop) (nx180 : Nat → Int32 → Int64 → Int32 → Int32 → bs_H → Prop) (x0 : Nat) (x2 : Int32) (x3 : Int64) (x7 : Int32) (s0 : Int32) (h : bs_H) : Prop :=
  nx180 x0 x2 x3 s0 (x7 + 1) h
def w_R_fits_231 (Φ : bs_R → bs_H → Prop) (nx180 : Nat → Int32 → Int64 → Int32 → Int32 → bs_H → Prop) (x0 : Nat) (x2 : Int32) (x3 : Int64) (x7 : Int32) (h : bs_H) : Prop :=
  w_R_fits_232 Φ nx180 x0 x2 x3 x7 0 h
def w_R_fits_227 (Φ : bs_R → bs_H → Prop) (nx180 : Nat → Int32 → Int64 → Int32 → Int32 → bs_H → Prop) (x0 : Nat) (x2 : Int32) (x3 : Int64) (x7 : Int32) (h : bs_H) : Prop :=
  w_R_fits_232 Φ nx180 x0 x2 x3 x7 1 h
def w_R_fits_180_s (Φ : bs_R → bs_H → Prop) (nx180 : Nat → Int32 → Int64 → Int32 → Int32 → bs_H → Prop) (x0 : Nat) (x2 : Int32) (x3 : Int64) (x6 : Int32) (x7 : Int32) (h : bs_H) : Prop :=
  bs_fI h x0 7 1 (fun v1 => bs_if (v1 ≤ x7) (w_R_fits_240 Φ x6 h) (bs_if (x6 = 0) (w_R_fits_240 Φ x6 h) (bs_on h x0 7 (w_R_isIn (bs_kI Φ fun v2 h3 => (bs_if (v2 = 0) (w_R_fits_227 Φ nx180 x0 x2 x3 x7 h3) (bs_fI h3 x0 7 1 (fun v4 => bs_if (v4 ≤ (x7 + x2)) (w_R_fits_231 Φ nx180 x0 x2 x3 x7 h3) (bs_on h3 x0 7 (w_R_isIn (bs_kI Φ fun v5 h6 => (bs_if (v5 = 0) (w_R_fits_227 Φ nx180 x0 x2 x3 x7 h6) (w_R_fits_231 Φ nx180 x0 x2 x3 x7 h6))) x0 x3 (x7 + x2) h3)))))) x0 x3 x7 h))))
def w_R_fits_180 (Φ : bs_R → bs_H → Prop) : Nat → Nat → Int32 → Int64 → Int32 → Int32 → bs_H → Prop
  | 0 => fun _ _ _ _ _ _ => False
  | n + 1 => fun x0 x2 x3 x6 x7 h => w_R_fits_180_s Φ (w_R_fits_180 Φ n) x0 x2 x3 x6 x7 h
def w_R_fits_175 (Φ : bs_R → bs_H → Prop) (x0 : Nat) (x2 : Int32) (x3 : Int64) (s0 : Int32) (h : bs_H) : Prop :=
  w_R_fits_180 Φ 1000 x0 x2 x3 s0 0 h
def w_R_fits_174 (Φ : bs_R → bs_H → Prop) (x0 : Nat) (x2 : Int32) (x3 : Int64) (h : bs_H) : Prop :=
  w_R_fits_175 Φ x0 x2 x3 0 h
def w_R_fits_152 (Φ : bs_R → bs_H → Prop) (s0 : Int32) (h : bs_H) : Prop :=
  bs_rZ Φ s0 h
def w_R_fits_151 (Φ : bs_R → bs_H → Prop) (h : bs_H) : Prop :=
  w_R_fits_152 Φ 0 h
def w_R_fits_132 (Φ : bs_R → bs_H → Prop) (s0 : Int32) (h : bs_H) : Prop :=
  bs_rZ Φ s0 h
def w_R_fits_131 (Φ : bs_R → bs_H → Prop) (h : bs_H) : Prop :=
  w_R_fits_132 Φ 0 h
def w_R_fits_117 (Φ : bs_R → bs_H → Prop) (x2 : Int32) (x3 : Int64) (h : bs_H) : Prop :=
  bs_if (x2 = 0) (bs_if (x3 = 0) (w_R_fits_132 Φ 1 h) (w_R_fits_131 Φ h)) (w_R_fits_131 Φ h)
def w_R_fits_105 (Φ : bs_R → bs_H → Prop) (s0 : Int32) (h : bs_H) : Prop :=
  bs_rZ Φ s0 h
def w_R_fits_104 (Φ : bs_R → bs_H → Prop) (h : bs_H) : Prop :=
  w_R_fits_105 Φ 0 h
def w_R_fits_76 (Φ : bs_R → bs_H → Prop) (s0 : Int32) (h : bs_H) : Prop :=
  bs_rZ Φ s0 h
def w_R_fits_75 (Φ : bs_R → bs_H → Prop) (h : bs_H) : Prop :=
  w_R_fits_76 Φ 0 h
def w_R_fits_36 (Φ : bs_R → bs_H → Prop) (nx9 : Nat → Int32 → Int32 → Int64 → Int32 → Int32 → bs_H → Prop) (x0 : Nat) (x1 : Int32) (x2 : Int32) (x3 : Int64) (x6 : Int32) (s0 : Int32) (h : bs_H) : Prop :=
  nx9 x0 x1 x2 x3 s0 (x6 + 1) h
def w_R_fits_35 (Φ : bs_R → bs_H → Prop) (nx9 : Nat → Int32 → Int32 → Int64 → Int32 → Int32 → bs_H → Prop) (x0 : Nat) (x1 : Int32) (x2 : Int32) (x3 : Int64) (x6 : Int32) (h : bs_H) : Prop :=
  w_R_fits_36 Φ nx9 x0 x1 x2 x3 x6 0 h
def w_R_fits_9_s (Φ : bs_R → bs_H → Prop) (nx9 : Nat → Int32 → Int32 → Int64 → Int32 → Int32 → bs_H → Prop) (x0 : Nat) (x1 : Int32) (x2 : Int32) (x3 : Int64) (x5 : Int32) (x6 : Int32) (h : bs_H) : Prop :=
  bs_if ((64 : Int32) ≤ x6) (bs_if (x1 = 0) (bs_fI h x0 7 1 (fun v3 => bs_if (x2 ≤ (-v3)) (w_R_fits_75 Φ h) (bs_fI h x0 7 1 (fun v4 => bs_if (v4 ≤ x2) (w_R_fits_75 Φ h) (bs_if (x3 = 0) (w_R_fits_76 Φ 1 h) (w_R_fits_75 Φ h)))))) (bs_if (x1 = 1) (bs_if (x2 < 0) (w_R_fits_104 Φ h) (bs_fI h x0 7 1 (fun v2 => bs_if (v2 ≤ x2) (w_R_fits_104 Φ h) (bs_if (x3 = 0) (w_R_fits_105 Φ 1 h) (w_R_fits_104 Φ h))))) (bs_if (x1 = 3) (w_R_fits_117 Φ x2 x3 h) (bs_if (x1 = 6) (w_R_fits_117 Φ x2 x3 h) (bs_if (x1 = 5) (bs_if (x2 ≤ 0) (w_R_fits_174 Φ x0 x2 x3 h) (bs_fI h x0 7 1 (fun v1 => bs_if (v1 ≤ x2) (w_R_fits_174 Φ x0 x2 x3 h) (bs_if (x5 = 0) (w_R_fits_174 Φ x0 x2 x3 h) (w_R_fits_175 Φ x0 x2 x3 1 h))))) (bs_if (x2 = 0) (bs_if (x5 = 0) (w_R_fits_151 Φ h) (w_R_fits_152 Φ 1 h)) (w_R_fits_151 Φ h))))))) (bs_if (x5 = 0) (w_R_fits_35 Φ nx9 x0 x1 x2 x3 x6 h) (bs_on h x0 7 (w_R_isIn (bs_kI Φ fun v5 h6 => (bs_if (v5 = 0) (w_R_fits_36 Φ nx9 x0 x1 x2 x3 x6 1 h6) (w_R_fits_35 Φ nx9 x0 x1 x2 x3 x6 h6))) x0 x3 x6 h)))
def w_R_fits_9 (Φ : bs_R → bs_H → Prop) : Nat → Nat → Int32 → Int32 → Int64 → Int32 → Int32 → bs_H → Prop
  | 0 => fun _ _ _ _ _ _ _ => False
  | n + 1 => fun x0 x1 x2 x3 x5 x6 h => w_R_fits_9_s Φ (w_R_fits_9 Φ n) x0 x1 x2 x3 x5 x6 h
def w_R_fits (Φ : bs_R → bs_H → Prop) (x0 : Nat) (x1 : Int32) (x2 : Int32) (x3 : Int64) (h : bs_H) : Prop :=
  bs_fI h x0 7 1 (fun v1 => w_R_fits_9 Φ 1000 x0 x1 x2 x3 1 v1 h)
theorem m_R_fits_240 {l : Launch} {R : Room} {Φ : bs_R → bs_H → Prop} (hR : bs_rm 2 R) {x6 : Int32} {h : bs_H} (hw : w_R_fits_240 Φ x6 h) : bs_J l K_R_fits R Φ 240 [(6, .int x6)] [] h := by
  unfold w_R_fits_240 at hw
  refine bj_iload (pc := 240) 0 d_R_fits_240 rfl ?_
  exact bj_zret (pc := 242) d_R_fits_242 rfl hw.1 hw.2
theorem m_R_fits_232 {l : Launch} {R : Room} {Φ : bs_R → bs_H → Prop} (hR : bs_rm 2 R) {nx180 : Nat → Int32 → Int64 → Int32 → Int32 → bs_H → Prop} (hnx180 : ∀ (x0 : Nat) (x2 : Int32) (x3 : Int64) (x6 : Int32) (x7 : Int32) (h : bs_H), nx180 x0 x2 x3 x6 x7 h → bs_J l K_R_fits R Φ 180 [(0, .ref x0), (2, .int x2), (3, .long x3), (6, .int x6), (7, .int x7)] [] h) {x0 : Nat} {x2 : Int32} {x3 : Int64} {x7 : Int32} {s0 : Int32} {h : bs_H} (hw : w_R_fits_232 Φ nx180 x0 x2 x3 x7 s0 h) : bs_J l K_R_fits R Φ 232 [(0, .ref x0), (2, .int x2), (3, .long x3), (7, .int x7)] [.int s0] h := by
  unfold w_R_fits_232 at hw
  refine bj_istore (pc := 232) (lo' := [(6, .int s0), (0, .ref x0), (2, .int x2), (3, .long x3), (7, .int x7)]) d_R_fits_232 (by decide) rfl ?_
  refine bj_iinc (pc := 234) (v := (x7 + 1)) (lo' := [(7, .int (x7 + 1)), (6, .int s0), (0, .ref x0), (2, .int x2), (3, .long x3)]) 4 d_R_fits_234 rfl rfl (by decide) rfl ?_
  refine bj_goto (pc := 237) (tgt := 180) d_R_fits_237 (by decide) ?_
  refine bj_sub [2, 3, 4, 1, 0] (lo' := [(0, .ref x0), (2, .int x2), (3, .long x3), (6, .int s0), (7, .int (x7 + 1))]) rfl ?_
  exact hnx180 _ _ _ _ _ _ hw
theorem m_R_fits_231 {l : Launch} {R : Room} {Φ : bs_R → bs_H → Prop} (hR : bs_rm 2 R) {nx180 : Nat → Int32 → Int64 → Int32 → Int32 → bs_H → Prop} (hnx180 : ∀ (x0 : Nat) (x2 : Int32) (x3 : Int64) (x6 : Int32) (x7 : Int32) (h : bs_H), nx180 x0 x2 x3 x6 x7 h → bs_J l K_R_fits R Φ 180 [(0, .ref x0), (2, .int x2), (3, .long x3), (6, .int x6), (7, .int x7)] [] h) {x0 : Nat} {x2 : Int32} {x3 : Int64} {x7 : Int32} {h : bs_H} (hw : w_R_fits_231 Φ nx180 x0 x2 x3 x7 h) : bs_J l K_R_fits R Φ 231 [(0, .ref x0), (2, .int x2), (3, .long x3), (7, .int x7)] [] h := by
  unfold w_R_fits_231 at hw
  refine bj_iconst (pc := 231) (v := 0) d_R_fits_231 (by decide) ?_
  exact m_R_fits_232 hR hnx180 hw
theorem m_R_fits_227 {l : Launch} {R : Room} {Φ : bs_R → bs_H → Prop} (hR : bs_rm 2 R) {nx180 : Nat → Int32 → Int64 → Int32 → Int32 → bs_H → Prop} (hnx180 : ∀ (x0 : Nat) (x2 : Int32) (x3 : Int64) (x6 : Int32) (x7 : Int32) (h : bs_H), nx180 x0 x2 x3 x6 x7 h → bs_J l K_R_fits R Φ 180 [(0, .ref x0), (2, .int x2), (3, .long x3), (6, .int x6), (7, .int x7)] [] h) {x0 : Nat} {x2 : Int32} {x3 : Int64} {x7 : Int32} {h : bs_H} (hw : w_R_fits_227 Φ nx180 x0 x2 x3 x7 h) : bs_J l K_R_fits R Φ 227 [(0, .ref x0), (2, .int x2), (3, .long x3), (7, .int x7)] [] h := by
  unfold w_R_fits_227 at hw
  refine bj_iconst (pc := 227) (v := 1) d_R_fits_227 (by decide) ?_
  refine bj_goto (pc := 228) (tgt := 232) d_R_fits_228 (by decide) ?_
  exact m_R_fits_232 hR hnx180 hw
theorem m_R_fits_180 {l : Launch} {R : Room} {Φ : bs_R → bs_H → Prop} (hR : bs_rm 2 R) : ∀ (n : Nat) (x0 : Nat) (x2 : Int32) (x3 : Int64) (x6 : Int32) (x7 : Int32) (h : bs_H), w_R_fits_180 Φ n x0 x2 x3 x6 x7 h → bs_J l K_R_fits R Φ 180 [(0, .ref x0), (2, .int x2), (3, .long x3), (6, .int x6), (7, .int x7)] [] h := by
  intro n
  induction n with
  | zero => intro x0 x2 x3 x6 x7 h hw; exact hw.elim
  | succ n ih =>
    have hnx180 := ih
    intro x0 x2 x3 x6 x7 h hw
    replace hw : w_R_fits_180_s Φ (w_R_fits_180 Φ n) x0 x2 x3 x6 x7 h := hw
    unfold w_R_fits_180_s at hw
    refine bj_iload (pc := 180) 4 d_R_fits_180 rfl ?_
    refine bj_aload_n (pc := 182) 0 d_R_fits_182 rfl rfl ?_
    obtain ⟨fs, v1, hx, hv, hw⟩ := hw
    refine bj_get (pc := 183) (ci := 7) (k := 1) (fs := fs) (v := .int v1) d_R_fits_183 rfl (by decide) q_749 hx hv ?_
    refine bj_icmp_ge (pc := 186) (tgt := 240) d_R_fits_186 (by decide) (fun hc => ?_) (fun hc => ?_)
    · replace hw := hw.1 hc
      refine bj_sub [3] (lo' := [(6, .int x6)]) rfl ?_
      exact m_R_fits_240 hR hw
    · replace hw := hw.2 hc
      refine bj_iload (pc := 189) 3 d_R_fits_189 rfl ?_
      refine bj_if_eq (pc := 191) (tgt := 240) d_R_fits_191 (by decide) (fun hc => ?_) (fun hc => ?_)
      · replace hw := hw.1 hc
        refine bj_sub [3] (lo' := [(6, .int x6)]) rfl ?_
        exact m_R_fits_240 hR hw
      · replace hw := hw.2 hc
        refine bj_aload_n (pc := 194) 0 d_R_fits_194 rfl rfl ?_
        refine bj_lload_n (pc := 195) 2 d_R_fits_195 rfl rfl ?_
        refine bj_iload (pc := 196) 4 d_R_fits_196 rfl ?_
        obtain ⟨⟨fs, hx⟩, hw⟩ := hw
        refine bj_callV (pc := 198) (np := 2) (K' := K_R_isIn) (argsL := [.long x3, .int x7]) (st := []) (d1 := 1) (ci := 7) (fs := fs) rfl d_R_fits_198 (Or.inl q_915) q_917 rfl q_36 c_R_isIn n_R_isIn hR (by decide) (by decide) rfl (Nat.le_of_ble_eq_true rfl) rfl (Nat.le_of_ble_eq_true rfl) hx (fun R' hR' => m_R_isIn hR' hw) (bs_kI_ok fun v2 h3 hw => ?_) (fun _ _ z => z)
        refine bj_if_eq (pc := 201) (tgt := 227) d_R_fits_201 (by decide) (fun hc => ?_) (fun hc => ?_)
        · replace hw := hw.1 hc
          refine bj_sub [0, 1, 2, 4] (lo' := [(0, .ref x0), (2, .int x2), (3, .long x3), (7, .int x7)]) rfl ?_
          exact m_R_fits_227 hR hnx180 hw
        · replace hw := hw.2 hc
          refine bj_iload (pc := 204) 4 d_R_fits_204 rfl ?_
          refine bj_iload_n (pc := 206) 1 d_R_fits_206 rfl rfl ?_
          refine bj_iadd (pc := 207) d_R_fits_207 ?_
          refine bj_aload_n (pc := 208) 0 d_R_fits_208 rfl rfl ?_
          obtain ⟨fs, v4, hx, hv, hw⟩ := hw
          refine bj_get (pc := 209) (ci := 7) (k := 1) (fs := fs) (v := .int v4) d_R_fits_209 rfl (by decide) q_749 hx hv ?_
          refine bj_icmp_ge (pc := 212) (tgt := 231) d_R_fits_212 (by decide) (fun hc => ?_) (fun hc => ?_)
          · replace hw := hw.1 hc
            refine bj_sub [0, 1, 2, 4] (lo' := [(0, .ref x0), (2, .int x2), (3, .long x3), (7, .int x7)]) rfl ?_
            exact m_R_fits_231 hR hnx180 hw
          · replace hw := hw.2 hc
            refine bj_aload_n (pc := 215) 0 d_R_fits_215 rfl rfl ?_
            refine bj_lload_n (pc := 216) 2 d_R_fits_216 rfl rfl ?_
            refine bj_iload (pc := 217) 4 d_R_fits_217 rfl ?_
            refine bj_iload_n (pc := 219) 1 d_R_fits_219 rfl rfl ?_
            refine bj_iadd (pc := 220) d_R_fits_220 ?_
            obtain ⟨⟨fs, hx⟩, hw⟩ := hw
            refine bj_callV (pc := 221) (np := 2) (K' := K_R_isIn) (argsL := [.long x3, .int (x7 + x2)]) (st := []) (d1 := 1) (ci := 7) (fs := fs) rfl d_R_fits_221 (Or.inl q_915) q_917 rfl q_36 c_R_isIn n_R_isIn hR (by decide) (by decide) rfl (Nat.le_of_ble_eq_true rfl) rfl (Nat.le_of_ble_eq_true rfl) hx (fun R' hR' => m_R_isIn hR' hw) (bs_kI_ok fun v5 h6 hw => ?_) (fun _ _ z => z)
            refine bj_if_ne (pc := 224) (tgt := 231) d_R_fits_224 (by decide) (fun hc => ?_) (fun hc => ?_)
            · replace hw := hw.2 hc
              refine bj_sub [0, 1, 2, 4] (lo' := [(0, .ref x0), (2, .int x2), (3, .long x3), (7, .int x7)]) rfl ?_
              exact m_R_fits_231 hR hnx180 hw
            · replace hw := hw.1 hc
              refine bj_sub [0, 1, 2, 4] (lo' := [(0, .ref x0), (2, .int x2), (3, .long x3), (7, .int x7)]) rfl ?_
              exact m_R_fits_227 hR hnx180 hw
theorem m_R_fits_175 {l : Launch} {R : Room} {Φ : bs_R → bs_H → Prop} (hR : bs_rm 2 R) {x0 : Nat} {x2 : Int32} {x3 : Int64} {s0 : Int32} {h : bs_H} (hw : w_R_fits_175 Φ x0 x2 x3 s0 h) : bs_J l K_R_fits R Φ 175 [(0, .ref x0), (2, .int x2), (3, .long x3)] [.int s0] h := by
  unfold w_R_fits_175 at hw
  refine bj_istore (pc := 175) (lo' := [(6, .int s0), (0, .ref x0), (2, .int x2), (3, .long x3)]) d_R_fits_175 (by decide) rfl ?_
  refine bj_iconst (pc := 177) (v := 0) d_R_fits_177 (by decide) ?_
  refine bj_istore (pc := 178) (lo' := [(7, .int 0), (6, .int s0), (0, .ref x0), (2, .int x2), (3, .long x3)]) d_R_fits_178 (by decide) rfl ?_
  refine bj_sub [2, 3, 4, 1, 0] (lo' := [(0, .ref x0), (2, .int x2), (3, .long x3), (6, .int s0), (7, .int 0)]) rfl ?_
  exact m_R_fits_180 hR 1000 _ _ _ _ _ _ hw
theorem m_R_fits_174 {l : Launch} {R : Room} {Φ : bs_R → bs_H → Prop} (hR : bs_rm 2 R) {x0 : Nat} {x2 : Int32} {x3 : Int64} {h : bs_H} (hw : w_R_fits_174 Φ x0 x2 x3 h) : bs_J l K_R_fits R Φ 174 [(0, .ref x0), (2, .int x2), (3, .long x3)] [] h := by
  unfold w_R_fits_174 at hw
  refine bj_iconst (pc := 174) (v := 0) d_R_fits_174 (by decide) ?_
  exact m_R_fits_175 hR hw
theorem m_R_fits_152 {l : Launch} {R : Room} {Φ : bs_R → bs_H → Prop} (hR : bs_rm 2 R) {s0 : Int32} {h : bs_H} (hw : w_R_fits_152 Φ s0 h) : bs_J l K_R_fits R Φ 152 [] [.int s0] h := by
  unfold w_R_fits_152 at hw
  exact bj_zret (pc := 152) d_R_fits_152 rfl hw.1 hw.2
theorem m_R_fits_151 {l : Launch} {R : Room} {Φ : bs_R → bs_H → Prop} (hR : bs_rm 2 R) {h : bs_H} (hw : w_R_fits_151 Φ h) : bs_J l K_R_fits R Φ 151 [] [] h := by
  unfold w_R_fits_151 at hw
  refine bj_iconst (pc := 151) (v := 0) d_R_fits_151 (by decide) ?_
  exact m_R_fits_152 hR hw
theorem m_R_fits_132 {l : Launch} {R : Room} {Φ : bs_R → bs_H → Prop} (hR : bs_rm 2 R) {s0 : Int32} {h : bs_H} (hw : w_R_fits_132 Φ s0 h) : bs_J l K_R_fits R Φ 132 [] [.int s0] h := by
  unfold w_R_fits_132 at hw
  exact bj_zret (pc := 132) d_R_fits_132 rfl hw.1 hw.2
theorem m_R_fits_131 {l : Launch} {R : Room} {Φ : bs_R → bs_H → Prop} (hR : bs_rm 2 R) {h : bs_H} (hw : w_R_fits_131 Φ h) : bs_J l K_R_fits R Φ 131 [] [] h := by
  unfold w_R_fits_131 at hw
  refine bj_iconst (pc := 131) (v := 0) d_R_fits_131 (by decide) ?_
  exact m_R_fits_132 hR hw
theorem m_R_fits_117 {l : Launch} {R : Room} {Φ : bs_R → bs_H → Prop} (hR : bs_rm 2 R) {x2 : Int32} {x3 : Int64} {h : bs_H} (hw : w_R_fits_117 Φ x2 x3 h) : bs_J l K_R_fits R Φ 117 [(2, .int x2), (3, .long x3)] [] h := by
  unfold w_R_fits_117 at hw
  refine bj_iload_n (pc := 117) 0 d_R_fits_117 rfl rfl ?_
  refine bj_if_ne (pc := 118) (tgt := 131) d_R_fits_118 (by decide) (fun hc => ?_) (fun hc => ?_)
  · replace hw := hw.2 hc
    refine bj_sub [] (lo' := []) rfl ?_
    exact m_R_fits_131 hR hw
  · replace hw := hw.1 hc
    refine bj_lload_n (pc := 121) 1 d_R_fits_121 rfl rfl ?_
    refine bj_lconst (pc := 122) (v := 0) d_R_fits_122 (by decide) ?_
    refine bj_lc_ne (pc := 123) (tgt := 131) d_R_fits_123 d_R_fits_124 (by decide) (fun hc => ?_) (fun hc => ?_)
    · replace hw := hw.2 hc
      refine bj_sub [] (lo' := []) rfl ?_
      exact m_R_fits_131 hR hw
    · replace hw := hw.1 hc
      refine bj_iconst (pc := 127) (v := 1) d_R_fits_127 (by decide) ?_
      refine bj_goto (pc := 128) (tgt := 132) d_R_fits_128 (by decide) ?_
      refine bj_sub [] (lo' := []) rfl ?_
      exact m_R_fits_132 hR hw
theorem m_R_fits_105 {l : Launch} {R : Room} {Φ : bs_R → bs_H → Prop} (hR : bs_rm 2 R) {s0 : Int32} {h : bs_H} (hw : w_R_fits_105 Φ s0 h) : bs_J l K_R_fits R Φ 105 [] [.int s0] h := by
  unfold w_R_fits_105 at hw
  exact bj_zret (pc := 105) d_R_fits_105 rfl hw.1 hw.2
theorem m_R_fits_104 {l : Launch} {R : Room} {Φ : bs_R → bs_H → Prop} (hR : bs_rm 2 R) {h : bs_H} (hw : w_R_fits_104 Φ h) : bs_J l K_R_fits R Φ 104 [] [] h := by
  unfold w_R_fits_104 at hw
  refine bj_iconst (pc := 104) (v := 0) d_R_fits_104 (by decide) ?_
  exact m_R_fits_105 hR hw
theorem m_R_fits_76 {l : Launch} {R : Room} {Φ : bs_R → bs_H → Prop} (hR : bs_rm 2 R) {s0 : Int32} {h : bs_H} (hw : w_R_fits_76 Φ s0 h) : bs_J l K_R_fits R Φ 76 [] [.int s0] h := by
  unfold w_R_fits_76 at hw
  exact bj_zret (pc := 76) d_R_fits_76 rfl hw.1 hw.2
theorem m_R_fits_75 {l : Launch} {R : Room} {Φ : bs_R → bs_H → Prop} (hR : bs_rm 2 R) {h : bs_H} (hw : w_R_fits_75 Φ h) : bs_J l K_R_fits R Φ 75 [] [] h := by
  unfold w_R_fits_75 at hw
  refine bj_iconst (pc := 75) (v := 0) d_R_fits_75 (by decide) ?_
  exact m_R_fits_76 hR hw
theorem m_R_fits_36 {l : Launch} {R : Room} {Φ : bs_R → bs_H → Prop} (hR : bs_rm 2 R) {nx9 : Nat → Int32 → Int32 → Int64 → Int32 → Int32 → bs_H → Prop} (hnx9 : ∀ (x0 : Nat) (x1 : Int32) (x2 : Int32) (x3 : Int64) (x5 : Int32) (x6 : Int32) (h : bs_H), nx9 x0 x1 x2 x3 x5 x6 h → bs_J l K_R_fits R Φ 9 [(0, .ref x0), (1, .int x1), (2, .int x2), (3, .long x3), (5, .int x5), (6, .int x6)] [] h) {x0 : Nat} {x1 : Int32} {x2 : Int32} {x3 : Int64} {x6 : Int32} {s0 : Int32} {h : bs_H} (hw : w_R_fits_36 Φ nx9 x0 x1 x2 x3 x6 s0 h) : bs_J l K_R_fits R Φ 36 [(0, .ref x0), (1, .int x1), (2, .int x2), (3, .long x3), (6, .int x6)] [.int s0] h := by
  unfold w_R_fits_36 at hw
  refine bj_istore (pc := 36) (lo' := [(5, .int s0), (0, .ref x0), (1, .int x1), (2, .int x2), (3, .long x3), (6, .int x6)]) d_R_fits_36 (by decide) rfl ?_
  refine bj_iinc (pc := 38) (v := (x6 + 1)) (lo' := [(6, .int (x6 + 1)), (5, .int s0), (0, .ref x0), (1, .int x1), (2, .int x2), (3, .long x3)]) 5 d_R_fits_38 rfl rfl (by decide) rfl ?_
  refine bj_goto (pc := 41) (tgt := 9) d_R_fits_41 (by decide) ?_
  refine bj_sub [2, 3, 4, 5, 1, 0] (lo' := [(0, .ref x0), (1, .int x1), (2, .int x2), (3, .long x3), (5, .int s0), (6, .int (x6 + 1))]) rfl ?_
  exact hnx9 _ _ _ _ _ _ _ hw
theorem m_R_fits_35 {l : Launch} {R : Room} {Φ : bs_R → bs_H → Prop} (hR : bs_rm 2 R) {nx9 : Nat → Int32 → Int32 → Int64 → Int32 → Int32 → bs_H → Prop} (hnx9 : ∀ (x0 : Nat) (x1 : Int32) (x2 : Int32) (x3 : Int64) (x5 : Int32) (x6 : Int32) (h : bs_H), nx9 x0 x1 x2 x3 x5 x6 h → bs_J l K_R_fits R Φ 9 [(0, .ref x0), (1, .int x1), (2, .int x2), (3, .long x3), (5, .int x5), (6, .int x6)] [] h) {x0 : Nat} {x1 : Int32} {x2 : Int32} {x3 : Int64} {x6 : Int32} {h : bs_H} (hw : w_R_fits_35 Φ nx9 x0 x1 x2 x3 x6 h) : bs_J l K_R_fits R Φ 35 [(0, .ref x0), (1, .int x1), (2, .int x2), (3, .long x3), (6, .int x6)] [] h := by
  unfold w_R_fits_35 at hw
  refine bj_iconst (pc := 35) (v := 0) d_R_fits_35 (by decide) ?_
  exact m_R_fits_36 hR hnx9 hw
theorem m_R_fits_9 {l : Launch} {R : Room} {Φ : bs_R → bs_H → Prop} (hR : bs_rm 2 R) : ∀ (n : Nat) (x0 : Nat) (x1 : Int32) (x2 : Int32) (x3 : Int64) (x5 : Int32) (x6 : Int32) (h : bs_H), w_R_fits_9 Φ n x0 x1 x2 x3 x5 x6 h → bs_J l K_R_fits R Φ 9 [(0, .ref x0), (1, .int x1), (2, .int x2), (3, .long x3), (5, .int x5), (6, .int x6)] [] h := by
  intro n
  induction n with
  | zero => intro x0 x1 x2 x3 x5 x6 h hw; exact hw.elim
  | succ n ih =>
    have hnx9 := ih
    intro x0 x1 x2 x3 x5 x6 h hw
    replace hw : w_R_fits_9_s Φ (w_R_fits_9 Φ n) x0 x1 x2 x3 x5 x6 h := hw
    unfold w_R_fits_9_s at hw
    refine bj_iload (pc := 9) 5 d_R_fits_9 rfl ?_
    refine bj_bipush (pc := 11) (v := 64) d_R_fits_11 (by decide) ?_
    refine bj_icmp_ge (pc := 13) (tgt := 44) d_R_fits_13 (by decide) (fun hc => ?_) (fun hc => ?_)
    · replace hw := hw.1 hc
      refine bj_iload_n (pc := 44) 1 d_R_fits_44 rfl rfl ?_
      refine bj_if_ne (pc := 45) (tgt := 77) d_R_fits_45 (by decide) (fun hc => ?_) (fun hc => ?_)
      · replace hw := hw.2 hc
        refine bj_iload_n (pc := 77) 1 d_R_fits_77 rfl rfl ?_
        refine bj_iconst (pc := 78) (v := 1) d_R_fits_78 (by decide) ?_
        refine bj_icmp_ne (pc := 79) (tgt := 106) d_R_fits_79 (by decide) (fun hc => ?_) (fun hc => ?_)
        · replace hw := hw.2 hc
          refine bj_iload_n (pc := 106) 1 d_R_fits_106 rfl rfl ?_
          refine bj_iconst (pc := 107) (v := 3) d_R_fits_107 (by decide) ?_
          refine bj_icmp_eq (pc := 108) (tgt := 117) d_R_fits_108 (by decide) (fun hc => ?_) (fun hc => ?_)
          · replace hw := hw.1 hc
            refine bj_sub [2, 3] (lo' := [(2, .int x2), (3, .long x3)]) rfl ?_
            exact m_R_fits_117 hR hw
          · replace hw := hw.2 hc
            refine bj_iload_n (pc := 111) 1 d_R_fits_111 rfl rfl ?_
            refine bj_bipush (pc := 112) (v := 6) d_R_fits_112 (by decide) ?_
            refine bj_icmp_ne (pc := 114) (tgt := 133) d_R_fits_114 (by decide) (fun hc => ?_) (fun hc => ?_)
            · replace hw := hw.2 hc
              refine bj_iload_n (pc := 133) 1 d_R_fits_133 rfl rfl ?_
              refine bj_iconst (pc := 134) (v := 5) d_R_fits_134 (by decide) ?_
              refine bj_icmp_eq (pc := 135) (tgt := 153) d_R_fits_135 (by decide) (fun hc => ?_) (fun hc => ?_)
              · replace hw := hw.1 hc
                refine bj_iload_n (pc := 153) 2 d_R_fits_153 rfl rfl ?_
                refine bj_if_le (pc := 154) (tgt := 174) d_R_fits_154 (by decide) (fun hc => ?_) (fun hc => ?_)
                · replace hw := hw.1 hc
                  refine bj_sub [0, 2, 3] (lo' := [(0, .ref x0), (2, .int x2), (3, .long x3)]) rfl ?_
                  exact m_R_fits_174 hR hw
                · replace hw := hw.2 hc
                  refine bj_iload_n (pc := 157) 2 d_R_fits_157 rfl rfl ?_
                  refine bj_aload_n (pc := 158) 0 d_R_fits_158 rfl rfl ?_
                  obtain ⟨fs, v1, hx, hv, hw⟩ := hw
                  refine bj_get (pc := 159) (ci := 7) (k := 1) (fs := fs) (v := .int v1) d_R_fits_159 rfl (by decide) q_749 hx hv ?_
                  refine bj_icmp_ge (pc := 162) (tgt := 174) d_R_fits_162 (by decide) (fun hc => ?_) (fun hc => ?_)
                  · replace hw := hw.1 hc
                    refine bj_sub [0, 2, 3] (lo' := [(0, .ref x0), (2, .int x2), (3, .long x3)]) rfl ?_
                    exact m_R_fits_174 hR hw
                  · replace hw := hw.2 hc
                    refine bj_iload (pc := 165) 4 d_R_fits_165 rfl ?_
                    refine bj_if_eq (pc := 167) (tgt := 174) d_R_fits_167 (by decide) (fun hc => ?_) (fun hc => ?_)
                    · replace hw := hw.1 hc
                      refine bj_sub [0, 2, 3] (lo' := [(0, .ref x0), (2, .int x2), (3, .long x3)]) rfl ?_
                      exact m_R_fits_174 hR hw
                    · replace hw := hw.2 hc
                      refine bj_iconst (pc := 170) (v := 1) d_R_fits_170 (by decide) ?_
                      refine bj_goto (pc := 171) (tgt := 175) d_R_fits_171 (by decide) ?_
                      refine bj_sub [0, 2, 3] (lo' := [(0, .ref x0), (2, .int x2), (3, .long x3)]) rfl ?_
                      exact m_R_fits_175 hR hw
              · replace hw := hw.2 hc
                refine bj_iload_n (pc := 138) 2 d_R_fits_138 rfl rfl ?_
                refine bj_if_ne (pc := 139) (tgt := 151) d_R_fits_139 (by decide) (fun hc => ?_) (fun hc => ?_)
                · replace hw := hw.2 hc
                  refine bj_sub [] (lo' := []) rfl ?_
                  exact m_R_fits_151 hR hw
                · replace hw := hw.1 hc
                  refine bj_iload (pc := 142) 4 d_R_fits_142 rfl ?_
                  refine bj_if_eq (pc := 144) (tgt := 151) d_R_fits_144 (by decide) (fun hc => ?_) (fun hc => ?_)
                  · replace hw := hw.1 hc
                    refine bj_sub [] (lo' := []) rfl ?_
                    exact m_R_fits_151 hR hw
                  · replace hw := hw.2 hc
                    refine bj_iconst (pc := 147) (v := 1) d_R_fits_147 (by decide) ?_
                    refine bj_goto (pc := 148) (tgt := 152) d_R_fits_148 (by decide) ?_
                    refine bj_sub [] (lo' := []) rfl ?_
                    exact m_R_fits_152 hR hw
            · replace hw := hw.1 hc
              refine bj_sub [2, 3] (lo' := [(2, .int x2), (3, .long x3)]) rfl ?_
              exact m_R_fits_117 hR hw
        · replace hw := hw.1 hc
          refine bj_iload_n (pc := 82) 2 d_R_fits_82 rfl rfl ?_
          refine bj_if_lt (pc := 83) (tgt := 104) d_R_fits_83 (by decide) (fun hc => ?_) (fun hc => ?_)
          · replace hw := hw.1 hc
            refine bj_sub [] (lo' := []) rfl ?_
            exact m_R_fits_104 hR hw
          · replace hw := hw.2 hc
            refine bj_iload_n (pc := 86) 2 d_R_fits_86 rfl rfl ?_
            refine bj_aload_n (pc := 87) 0 d_R_fits_87 rfl rfl ?_
            obtain ⟨fs, v2, hx, hv, hw⟩ := hw
            refine bj_get (pc := 88) (ci := 7) (k := 1) (fs := fs) (v := .int v2) d_R_fits_88 rfl (by decide) q_749 hx hv ?_
            refine bj_icmp_ge (pc := 91) (tgt := 104) d_R_fits_91 (by decide) (fun hc => ?_) (fun hc => ?_)
            · replace hw := hw.1 hc
              refine bj_sub [] (lo' := []) rfl ?_
              exact m_R_fits_104 hR hw
            · replace hw := hw.2 hc
              refine bj_lload_n (pc := 94) 3 d_R_fits_94 rfl rfl ?_
              refine bj_lconst (pc := 95) (v := 0) d_R_fits_95 (by decide) ?_
              refine bj_lc_ne (pc := 96) (tgt := 104) d_R_fits_96 d_R_fits_97 (by decide) (fun hc => ?_) (fun hc => ?_)
              · replace hw := hw.2 hc
                refine bj_sub [] (lo' := []) rfl ?_
                exact m_R_fits_104 hR hw
              · replace hw := hw.1 hc
                refine bj_iconst (pc := 100) (v := 1) d_R_fits_100 (by decide) ?_
                refine bj_goto (pc := 101) (tgt := 105) d_R_fits_101 (by decide) ?_
                refine bj_sub [] (lo' := []) rfl ?_
                exact m_R_fits_105 hR hw
      · replace hw := hw.1 hc
        refine bj_iload_n (pc := 48) 2 d_R_fits_48 rfl rfl ?_
        refine bj_aload_n (pc := 49) 0 d_R_fits_49 rfl rfl ?_
        obtain ⟨fs, v3, hx, hv, hw⟩ := hw
        refine bj_get (pc := 50) (ci := 7) (k := 1) (fs := fs) (v := .int v3) d_R_fits_50 rfl (by decide) q_749 hx hv ?_
        refine bj_ineg (pc := 53) d_R_fits_53 ?_
        refine bj_icmp_le (pc := 54) (tgt := 75) d_R_fits_54 (by decide) (fun hc => ?_) (fun hc => ?_)
        · replace hw := hw.1 hc
          refine bj_sub [] (lo' := []) rfl ?_
          exact m_R_fits_75 hR hw
        · replace hw := hw.2 hc
          refine bj_iload_n (pc := 57) 2 d_R_fits_57 rfl rfl ?_
          refine bj_aload_n (pc := 58) 0 d_R_fits_58 rfl rfl ?_
          obtain ⟨fs, v4, hx, hv, hw⟩ := hw
          refine bj_get (pc := 59) (ci := 7) (k := 1) (fs := fs) (v := .int v4) d_R_fits_59 rfl (by decide) q_749 hx hv ?_
          refine bj_icmp_ge (pc := 62) (tgt := 75) d_R_fits_62 (by decide) (fun hc => ?_) (fun hc => ?_)
          · replace hw := hw.1 hc
            refine bj_sub [] (lo' := []) rfl ?_
            exact m_R_fits_75 hR hw
          · replace hw := hw.2 hc
            refine bj_lload_n (pc := 65) 3 d_R_fits_65 rfl rfl ?_
            refine bj_lconst (pc := 66) (v := 0) d_R_fits_66 (by decide) ?_
            refine bj_lc_ne (pc := 67) (tgt := 75) d_R_fits_67 d_R_fits_68 (by decide) (fun hc => ?_) (fun hc => ?_)
            · replace hw := hw.2 hc
              refine bj_sub [] (lo' := []) rfl ?_
              exact m_R_fits_75 hR hw
            · replace hw := hw.1 hc
              refine bj_iconst (pc := 71) (v := 1) d_R_fits_71 (by decide) ?_
              refine bj_goto (pc := 72) (tgt := 76) d_R_fits_72 (by decide) ?_
              refine bj_sub [] (lo' := []) rfl ?_
              exact m_R_fits_76 hR hw
    · replace hw := hw.2 hc
      refine bj_iload (pc := 16) 4 d_R_fits_16 rfl ?_
      refine bj_if_eq (pc := 18) (tgt := 35) d_R_fits_18 (by decide) (fun hc => ?_) (fun hc => ?_)
      · replace hw := hw.1 hc
        refine bj_sub [0, 1, 2, 3, 5] (lo' := [(0, .ref x0), (1, .int x1), (2, .int x2), (3, .long x3), (6, .int x6)]) rfl ?_
        exact m_R_fits_35 hR hnx9 hw
      · replace hw := hw.2 hc
        refine bj_aload_n (pc := 21) 0 d_R_fits_21 rfl rfl ?_
        refine bj_lload_n (pc := 22) 3 d_R_fits_22 rfl rfl ?_
        refine bj_iload (pc := 23) 5 d_R_fits_23 rfl ?_
        obtain ⟨⟨fs, hx⟩, hw⟩ := hw
        refine bj_callV (pc := 25) (np := 2) (K' := K_R_isIn) (argsL := [.long x3, .int x6]) (st := []) (d1 := 1) (ci := 7) (fs := fs) rfl d_R_fits_25 (Or.inl q_915) q_917 rfl q_36 c_R_isIn n_R_isIn hR (by decide) (by decide) rfl (Nat.le_of_ble_eq_true rfl) rfl (Nat.le_of_ble_eq_true rfl) hx (fun R' hR' => m_R_isIn hR' hw) (bs_kI_ok fun v5 h6 hw => ?_) (fun _ _ z => z)
        refine bj_if_ne (pc := 28) (tgt := 35) d_R_fits_28 (by decide) (fun hc => ?_) (fun hc => ?_)
        · replace hw := hw.2 hc
          refine bj_sub [0, 1, 2, 3, 5] (lo' := [(0, .ref x0), (1, .int x1), (2, .int x2), (3, .long x3), (6, .int x6)]) rfl ?_
          exact m_R_fits_35 hR hnx9 hw
        · replace hw := hw.1 hc
          refine bj_iconst (pc := 31) (v := 1) d_R_fits_31 (by decide) ?_
          refine bj_goto (pc := 32) (tgt := 36) d_R_fits_32 (by decide) ?_
          refine bj_sub [0, 1, 2, 3, 5] (lo' := [(0, .ref x0), (1, .int x1), (2, .int x2), (3, .long x3), (6, .int x6)]) rfl ?_
          exact m_R_fits_36 hR hnx9 hw
theorem m_R_fits {l : Launch} {R : Room} (hR : bs_rm 2 R) {Φ : bs_R → bs_H → Prop} {x0 : Nat} {x1 : Int32} {x2 : Int32} {x3 : Int64} {h : bs_H} (hw : w_R_fits Φ x0 x1 x2 x3 h) : bs_J l K_R_fits R Φ 0 [(0, .ref x0), (1, .int x1), (2, .int x2), (3, .long x3)] [] h := by
  unfold w_R_fits at hw
  refine bj_iconst (pc := 0) (v := 1) d_R_fits_0 (by decide) ?_
  refine bj_istore (pc := 1) (lo' := [(5, .int 1), (0, .ref x0), (1, .int x1), (2, .int x2), (3, .long x3)]) d_R_fits_1 (by decide) rfl ?_
  refine bj_aload_n (pc := 3) 1 d_R_fits_3 rfl rfl ?_
  obtain ⟨fs, v1, hx, hv, hw⟩ := hw
  refine bj_get (pc := 4) (ci := 7) (k := 1) (fs := fs) (v := .int v1) d_R_fits_4 rfl (by decide) q_749 hx hv ?_
  refine bj_istore (pc := 7) (lo' := [(6, .int v1), (5, .int 1), (0, .ref x0), (1, .int x1), (2, .int x2), (3, .long x3)]) d_R_fits_7 (by decide) rfl ?_
  refine bj_sub [2, 3, 4, 5, 1, 0] (lo' := [(0, .ref x0), (1, .int x1), (2, .int x2), (3, .long x3), (5, .int 1), (6, .int v1)]) rfl ?_
  exact m_R_fits_9 hR 1000 _ _ _ _ _ _ _ hw
theorem d_R_patch_0 : decode prog_9_method_24_code 0 = .ok (.aload_n 0, 1) := by decide +kernel
theorem d_R_patch_1 : decode prog_9_method_24_code 1 = .ok (.aload_n 0, 1) := by decide +kernel
theorem d_R_patch_2 : decode prog_9_method_24_code 2 = .ok (.iload_n 1, 1) := by decide +kernel
theorem d_R_patch_3 : decode prog_9_method_24_code 3 = .ok (.invokevirtual 132, 3) := by decide +kernel
theorem d_R_patch_6 : decode prog_9_method_24_code 6 = .ok (.ifCond .eq 7, 3) := by decide +kernel
theorem d_R_patch_9 : decode prog_9_method_24_code 9 = .ok (.iconst 1, 1) := by decide +kernel
theorem d_R_patch_10 : decode prog_9_method_24_code 10 = .ok (.goto 23, 3) := by decide +kernel
theorem d_R_patch_13 : decode prog_9_method_24_code 13 = .ok (.aload_n 0, 1) := by decide +kernel
theorem d_R_patch_14 : decode prog_9_method_24_code 14 = .ok (.aload_n 0, 1) := by decide +kernel
theorem d_R_patch_15 : decode prog_9_method_24_code 15 = .ok (.getfield 13, 3) := by decide +kernel
theorem d_R_patch_18 : decode prog_9_method_24_code 18 = .ok (.iload_n 1, 1) := by decide +kernel
theorem d_R_patch_19 : decode prog_9_method_24_code 19 = .ok (.iaload, 1) := by decide +kernel
theorem d_R_patch_20 : decode prog_9_method_24_code 20 = .ok (.iload_n 2, 1) := by decide +kernel
theorem d_R_patch_21 : decode prog_9_method_24_code 21 = .ok (.lload_n 3, 1) := by decide +kernel
theorem d_R_patch_22 : decode prog_9_method_24_code 22 = .ok (.invokevirtual 139, 3) := by decide +kernel
theorem d_R_patch_25 : decode prog_9_method_24_code 25 = .ok (.ifCond .ne 7, 3) := by decide +kernel
theorem d_R_patch_28 : decode prog_9_method_24_code 28 = .ok (.iconst 2, 1) := by decide +kernel
theorem d_R_patch_29 : decode prog_9_method_24_code 29 = .ok (.goto 4, 3) := by decide +kernel
theorem d_R_patch_32 : decode prog_9_method_24_code 32 = .ok (.iconst 0, 1) := by decide +kernel
theorem d_R_patch_33 : decode prog_9_method_24_code 33 = .ok (.putfield 85, 3) := by decide +kernel
theorem d_R_patch_36 : decode prog_9_method_24_code 36 = .ok (.aload_n 0, 1) := by decide +kernel
theorem d_R_patch_37 : decode prog_9_method_24_code 37 = .ok (.getfield 85, 3) := by decide +kernel
theorem d_R_patch_40 : decode prog_9_method_24_code 40 = .ok (.ifCond .ne 17, 3) := by decide +kernel
theorem d_R_patch_43 : decode prog_9_method_24_code 43 = .ok (.aload_n 0, 1) := by decide +kernel
theorem d_R_patch_44 : decode prog_9_method_24_code 44 = .ok (.getfield 16, 3) := by decide +kernel
theorem d_R_patch_47 : decode prog_9_method_24_code 47 = .ok (.iload_n 1, 1) := by decide +kernel
theorem d_R_patch_48 : decode prog_9_method_24_code 48 = .ok (.iload_n 2, 1) := by decide +kernel
theorem d_R_patch_49 : decode prog_9_method_24_code 49 = .ok (.iastore, 1) := by decide +kernel
theorem d_R_patch_50 : decode prog_9_method_24_code 50 = .ok (.aload_n 0, 1) := by decide +kernel
theorem d_R_patch_51 : decode prog_9_method_24_code 51 = .ok (.getfield 19, 3) := by decide +kernel
theorem d_R_patch_54 : decode prog_9_method_24_code 54 = .ok (.iload_n 1, 1) := by decide +kernel
theorem d_R_patch_55 : decode prog_9_method_24_code 55 = .ok (.lload_n 3, 1) := by decide +kernel
theorem d_R_patch_56 : decode prog_9_method_24_code 56 = .ok (.lastore, 1) := by decide +kernel
theorem d_R_patch_57 : decode prog_9_method_24_code 57 = .ok (.return_, 1) := by decide +kernel
def w_R_patch_57 (Φ : bs_R → bs_H → Prop) (h : bs_H) : Prop :=
  Φ (.ok none) h
def w_R_patch_33 (Φ : bs_R → bs_H → Prop) (x0 : Nat) (x1 : Int32) (x2 : Int32) (x3 : Int64) (s0 : Nat) (s1 : Int32) (h : bs_H) : Prop :=
  bs_p h s0 7 0 (.int s1) (fun h1 => bs_fI h1 x0 7 0 (fun v2 => bs_if (v2 = 0) (bs_fA h1 x0 7 5 (fun v3 => bs_sI h1 v3 x1 x2 (fun h4 => bs_fA h4 x0 7 6 (fun v5 => bs_sL h4 v5 x1 x3 (fun h6 => w_R_patch_57 Φ h6))))) (w_R_patch_57 Φ h1)))
def w_R_patch (Φ : bs_R → bs_H → Prop) (x0 : Nat) (x1 : Int32) (x2 : Int32) (x3 : Int64) (h : bs_H) : Prop :=
  bs_on h x0 7 (w_R_noStep (bs_kI Φ fun v1 h2 => (bs_if (v1 = 0) (bs_fA h2 x0 7 4 (fun v3 => bs_lI h2 v3 x1 (fun v4 => bs_on h2 x0 7 (w_R_fits (bs_kI Φ fun v5 h6 => (bs_if (v5 = 0) (w_R_patch_33 Φ x0 x1 x2 x3 x0 2 h6) (w_R_patch_33 Φ x0 x1 x2 x3 x0 0 h6))) x0 v4 x2 x3 h2)))) (w_R_patch_33 Φ x0 x1 x2 x3 x0 1 h2))) x0 x1 h)
theorem m_R_patch_57 {l : Launch} {R : Room} {Φ : bs_R → bs_H → Prop} (hR : bs_rm 3 R) {h : bs_H} (hw : w_R_patch_57 Φ h) : bs_J l K_R_patch R Φ 57 [] [] h := by
  unfold w_R_patch_57 at hw
  exact bj_vret (pc := 57) d_R_patch_57 rfl hw
theorem m_R_patch_33 {l : Launch} {R : Room} {Φ : bs_R → bs_H → Prop} (hR : bs_rm 3 R) {x0 : Nat} {x1 : Int32} {x2 : Int32} {x3 : Int64} {s0 : Nat} {s1 : Int32} {h : bs_H} (hw : w_R_patch_33 Φ x0 x1 x2 x3 s0 s1 h) : bs_J l K_R_patch R Φ 33 [(0, .ref x0), (1, .int x1), (2, .int x2), (3, .long x3)] [.int s1, .ref s0] h := by
  unfold w_R_patch_33 at hw
  obtain ⟨fs, hx, hlen, hw⟩ := hw
  refine bj_put (pc := 33) (ci := 7) (k := 0) (fs := fs) (v := (.int s1)) (ty := .int) d_R_patch_33 rfl (by decide) q_748 rfl (by decide +kernel) rfl rfl hx hlen ?_
  refine bj_aload_n (pc := 36) 0 d_R_patch_36 rfl rfl ?_
  obtain ⟨fs, v2, hx, hv, hw⟩ := hw
  refine bj_get (pc := 37) (ci := 7) (k := 0) (fs := fs) (v := .int v2) d_R_patch_37 rfl (by decide) q_748 hx hv ?_
  refine bj_if_ne (pc := 40) (tgt := 57) d_R_patch_40 (by decide) (fun hc => ?_) (fun hc => ?_)
  · replace hw := hw.2 hc
    refine bj_sub [] (lo' := []) rfl ?_
    exact m_R_patch_57 hR hw
  · replace hw := hw.1 hc
    refine bj_aload_n (pc := 43) 0 d_R_patch_43 rfl rfl ?_
    obtain ⟨fs, v3, hx, hv, hw⟩ := hw
    refine bj_get (pc := 44) (ci := 7) (k := 5) (fs := fs) (v := .ref v3) d_R_patch_44 rfl (by decide) q_753 hx hv ?_
    refine bj_iload_n (pc := 47) 1 d_R_patch_47 rfl rfl ?_
    refine bj_iload_n (pc := 48) 2 d_R_patch_48 rfl rfl ?_
    obtain ⟨n, f, hx, hin, hw⟩ := hw
    refine bj_iast (pc := 49) (n := n) (f := f) d_R_patch_49 hx hin ?_
    refine bj_aload_n (pc := 50) 0 d_R_patch_50 rfl rfl ?_
    obtain ⟨fs, v5, hx, hv, hw⟩ := hw
    refine bj_get (pc := 51) (ci := 7) (k := 6) (fs := fs) (v := .ref v5) d_R_patch_51 rfl (by decide) q_754 hx hv ?_
    refine bj_iload_n (pc := 54) 1 d_R_patch_54 rfl rfl ?_
    refine bj_lload_n (pc := 55) 3 d_R_patch_55 rfl rfl ?_
    obtain ⟨n, f, hx, hin, hw⟩ := hw
    refine bj_last (pc := 56) (n := n) (f := f) d_R_patch_56 hx hin ?_
    refine bj_sub [] (lo' := []) rfl ?_
    exact m_R_patch_57 hR hw
theorem m_R_patch {l : Launch} {R : Room} (hR : bs_rm 3 R) {Φ : bs_R → bs_H → Prop} {x0 : Nat} {x1 : Int32} {x2 : Int32} {x3 : Int64} {h : bs_H} (hw : w_R_patch Φ x0 x1 x2 x3 h) : bs_J l K_R_patch R Φ 0 [(0, .ref x0), (1, .int x1), (2, .int x2), (3, .long x3)] [] h := by
  unfold w_R_patch at hw
  refine bj_aload_n (pc := 0) 0 d_R_patch_0 rfl rfl ?_
  refine bj_aload_n (pc := 1) 0 d_R_patch_1 rfl rfl ?_
  refine bj_iload_n (pc := 2) 1 d_R_patch_2 rfl rfl ?_
  obtain ⟨⟨fs, hx⟩, hw⟩ := hw
  refine bj_callV (pc := 3) (np := 1) (K' := K_R_noStep) (argsL := [.int x1]) (st := [.ref x0]) (d1 := 1) (ci := 7) (fs := fs) rfl d_R_patch_3 (Or.inl q_899) q_901 rfl q_34 c_R_noStep n_R_noStep hR (by decide) (by decide) rfl (Nat.le_of_ble_eq_true rfl) rfl (Nat.le_of_ble_eq_true rfl) hx (fun R' hR' => m_R_noStep hR' hw) (bs_kI_ok fun v1 h2 hw => ?_) (fun _ _ z => z)
  refine bj_if_eq (pc := 6) (tgt := 13) d_R_patch_6 (by decide) (fun hc => ?_) (fun hc => ?_)
  · replace hw := hw.1 hc
    refine bj_aload_n (pc := 13) 0 d_R_patch_13 rfl rfl ?_
    refine bj_aload_n (pc := 14) 0 d_R_patch_14 rfl rfl ?_
    obtain ⟨fs, v3, hx, hv, hw⟩ := hw
    refine bj_get (pc := 15) (ci := 7) (k := 4) (fs := fs) (v := .ref v3) d_R_patch_15 rfl (by decide) q_752 hx hv ?_
    refine bj_iload_n (pc := 18) 1 d_R_patch_18 rfl rfl ?_
    obtain ⟨n, f, v4, hx, hin, hv, hw⟩ := hw
    refine bj_iald (pc := 19) (n := n) (f := f) d_R_patch_19 hx hin hv ?_
    refine bj_iload_n (pc := 20) 2 d_R_patch_20 rfl rfl ?_
    refine bj_lload_n (pc := 21) 3 d_R_patch_21 rfl rfl ?_
    obtain ⟨⟨fs, hx⟩, hw⟩ := hw
    refine bj_callV (pc := 22) (np := 3) (K' := K_R_fits) (argsL := [.int v4, .int x2, .long x3]) (st := [.ref x0]) (d1 := 2) (ci := 7) (fs := fs) rfl d_R_patch_22 (Or.inl q_911) q_913 rfl q_35 c_R_fits n_R_fits hR (by decide) (by decide) rfl (Nat.le_of_ble_eq_true rfl) rfl (Nat.le_of_ble_eq_true rfl) hx (fun R' hR' => m_R_fits hR' hw) (bs_kI_ok fun v5 h6 hw => ?_) (fun _ _ z => z)
    refine bj_if_ne (pc := 25) (tgt := 32) d_R_patch_25 (by decide) (fun hc => ?_) (fun hc => ?_)
    · replace hw := hw.2 hc
      refine bj_iconst (pc := 32) (v := 0) d_R_patch_32 (by decide) ?_
      exact m_R_patch_33 hR hw
    · replace hw := hw.1 hc
      refine bj_iconst (pc := 28) (v := 2) d_R_patch_28 (by decide) ?_
      refine bj_goto (pc := 29) (tgt := 33) d_R_patch_29 (by decide) ?_
      exact m_R_patch_33 hR hw
  · replace hw := hw.2 hc
    refine bj_iconst (pc := 9) (v := 1) d_R_patch_9 (by decide) ?_
    refine bj_goto (pc := 10) (tgt := 33) d_R_patch_10 (by decide) ?_
    exact m_R_patch_33 hR hw
theorem d_W_rotated_0 : decode prog_7_method_4_code 0 = .ok (.aload_n 0, 1) := by decide +kernel
theorem d_W_rotated_1 : decode prog_7_method_4_code 1 = .ok (.getfield 19, 3) := by decide +kernel
theorem d_W_rotated_4 : decode prog_7_method_4_code 4 = .ok (.iload_n 1, 1) := by decide +kernel
theorem d_W_rotated_5 : decode prog_7_method_4_code 5 = .ok (.lshl, 1) := by decide +kernel
theorem d_W_rotated_6 : decode prog_7_method_4_code 6 = .ok (.aload_n 0, 1) := by decide +kernel
theorem d_W_rotated_7 : decode prog_7_method_4_code 7 = .ok (.getfield 19, 3) := by decide +kernel
theorem d_W_rotated_10 : decode prog_7_method_4_code 10 = .ok (.aload_n 0, 1) := by decide +kernel
theorem d_W_rotated_11 : decode prog_7_method_4_code 11 = .ok (.getfield 9, 3) := by decide +kernel
theorem d_W_rotated_14 : decode prog_7_method_4_code 14 = .ok (.iload_n 1, 1) := by decide +kernel
theorem d_W_rotated_15 : decode prog_7_method_4_code 15 = .ok (.isub, 1) := by decide +kernel
theorem d_W_rotated_16 : decode prog_7_method_4_code 16 = .ok (.lushr, 1) := by decide +kernel
theorem d_W_rotated_17 : decode prog_7_method_4_code 17 = .ok (.lor, 1) := by decide +kernel
theorem d_W_rotated_18 : decode prog_7_method_4_code 18 = .ok (.aload_n 0, 1) := by decide +kernel
theorem d_W_rotated_19 : decode prog_7_method_4_code 19 = .ok (.getfield 9, 3) := by decide +kernel
theorem d_W_rotated_22 : decode prog_7_method_4_code 22 = .ok (.invokestatic 15, 3) := by decide +kernel
theorem d_W_rotated_25 : decode prog_7_method_4_code 25 = .ok (.land, 1) := by decide +kernel
theorem d_W_rotated_26 : decode prog_7_method_4_code 26 = .ok (.lreturn, 1) := by decide +kernel
def w_W_rotated (Φ : bs_R → bs_H → Prop) (x0 : Nat) (x1 : Int32) (h : bs_H) : Prop :=
  bs_fL h x0 3 1 (fun v1 => bs_fL h x0 3 1 (fun v2 => bs_fI h x0 3 0 (fun v3 => bs_fI h x0 3 0 (fun v4 => w_B_allBits (bs_kL Φ fun v5 h6 => (Φ (.ok (some (.long (((bs_shl v1 x1) ||| (bs_ushr v2 (v3 - x1))) &&& v5)))) h6)) v4 h))))
theorem m_W_rotated {l : Launch} {R : Room} (hR : bs_rm 2 R) {Φ : bs_R → bs_H → Prop} {x0 : Nat} {x1 : Int32} {h : bs_H} (hw : w_W_rotated Φ x0 x1 h) : bs_J l K_W_rotated R Φ 0 [(0, .ref x0), (1, .int x1)] [] h := by
  unfold w_W_rotated at hw
  refine bj_aload_n (pc := 0) 0 d_W_rotated_0 rfl rfl ?_
  obtain ⟨fs, v1, hx, hv, hw⟩ := hw
  refine bj_get (pc := 1) (ci := 3) (k := 1) (fs := fs) (v := .long v1) d_W_rotated_1 rfl (by decide) q_114 hx hv ?_
  refine bj_iload_n (pc := 4) 1 d_W_rotated_4 rfl rfl ?_
  refine bj_lshl (pc := 5) d_W_rotated_5 ?_
  refine bj_aload_n (pc := 6) 0 d_W_rotated_6 rfl rfl ?_
  obtain ⟨fs, v2, hx, hv, hw⟩ := hw
  refine bj_get (pc := 7) (ci := 3) (k := 1) (fs := fs) (v := .long v2) d_W_rotated_7 rfl (by decide) q_114 hx hv ?_
  refine bj_aload_n (pc := 10) 0 d_W_rotated_10 rfl rfl ?_
  obtain ⟨fs, v3, hx, hv, hw⟩ := hw
  refine bj_get (pc := 11) (ci := 3) (k := 0) (fs := fs) (v := .int v3) d_W_rotated_11 rfl (by decide) q_113 hx hv ?_
  refine bj_iload_n (pc := 14) 1 d_W_rotated_14 rfl rfl ?_
  refine bj_isub (pc := 15) d_W_rotated_15 ?_
  refine bj_lushr (pc := 16) d_W_rotated_16 ?_
  refine bj_lor (pc := 17) d_W_rotated_17 ?_
  refine bj_aload_n (pc := 18) 0 d_W_rotated_18 rfl rfl ?_
  obtain ⟨fs, v4, hx, hv, hw⟩ := hw
  refine bj_get (pc := 19) (ci := 3) (k := 0) (fs := fs) (v := .int v4) d_W_rotated_19 rfl (by decide) q_113 hx hv ?_
  refine bj_callS (pc := 22) (np := 1) (K' := K_B_allBits) (argsL := [.int v4]) (st := [.long ((bs_shl v1 x1) ||| (bs_ushr v2 (v3 - x1)))]) (d1 := 1) rfl d_W_rotated_22 (Or.inr ⟨_, q_244⟩) q_245 q_46 c_B_allBits n_B_allBits hR (by decide) (by decide) rfl (Nat.le_of_ble_eq_true rfl) rfl (Nat.le_of_ble_eq_true rfl) (fun R' hR' => m_B_allBits hR' hw) (bs_kL_ok fun v5 h6 hw => ?_) (fun _ _ z => z)
  refine bj_land (pc := 25) d_W_rotated_25 ?_
  exact bj_lret (pc := 26) d_W_rotated_26 rfl hw
theorem d_B_exchanged_0 : decode prog_1_method_33_code 0 = .ok (.lload_n 0, 1) := by decide +kernel
theorem d_B_exchanged_1 : decode prog_1_method_33_code 1 = .ok (.lload_n 0, 1) := by decide +kernel
theorem d_B_exchanged_2 : decode prog_1_method_33_code 2 = .ok (.iload_n 2, 1) := by decide +kernel
theorem d_B_exchanged_3 : decode prog_1_method_33_code 3 = .ok (.lushr, 1) := by decide +kernel
theorem d_B_exchanged_4 : decode prog_1_method_33_code 4 = .ok (.lxor, 1) := by decide +kernel
theorem d_B_exchanged_5 : decode prog_1_method_33_code 5 = .ok (.lload_n 3, 1) := by decide +kernel
theorem d_B_exchanged_6 : decode prog_1_method_33_code 6 = .ok (.land, 1) := by decide +kernel
theorem d_B_exchanged_7 : decode prog_1_method_33_code 7 = .ok (.lstore 5, 2) := by decide +kernel
theorem d_B_exchanged_9 : decode prog_1_method_33_code 9 = .ok (.lload_n 0, 1) := by decide +kernel
theorem d_B_exchanged_10 : decode prog_1_method_33_code 10 = .ok (.lload 5, 2) := by decide +kernel
theorem d_B_exchanged_12 : decode prog_1_method_33_code 12 = .ok (.lxor, 1) := by decide +kernel
theorem d_B_exchanged_13 : decode prog_1_method_33_code 13 = .ok (.lload 5, 2) := by decide +kernel
theorem d_B_exchanged_15 : decode prog_1_method_33_code 15 = .ok (.iload_n 2, 1) := by decide +kernel
theorem d_B_exchanged_16 : decode prog_1_method_33_code 16 = .ok (.lshl, 1) := by decide +kernel
theorem d_B_exchanged_17 : decode prog_1_method_33_code 17 = .ok (.lxor, 1) := by decide +kernel
theorem d_B_exchanged_18 : decode prog_1_method_33_code 18 = .ok (.lreturn, 1) := by decide +kernel
def w_B_exchanged (Φ : bs_R → bs_H → Prop) (x0 : Int64) (x2 : Int32) (x3 : Int64) (h : bs_H) : Prop :=
  Φ (.ok (some (.long ((x0 ^^^ ((x0 ^^^ (bs_ushr x0 x2)) &&& x3)) ^^^ (bs_shl ((x0 ^^^ (bs_ushr x0 x2)) &&& x3) x2))))) h
theorem m_B_exchanged {l : Launch} {R : Room} (hR : bs_rm 1 R) {Φ : bs_R → bs_H → Prop} {x0 : Int64} {x2 : Int32} {x3 : Int64} {h : bs_H} (hw : w_B_exchanged Φ x0 x2 x3 h) : bs_J l K_B_exchanged R Φ 0 [(0, .long x0), (2, .int x2), (3, .long x3)] [] h := by
  unfold w_B_exchanged at hw
  refine bj_lload_n (pc := 0) 0 d_B_exchanged_0 rfl rfl ?_
  refine bj_lload_n (pc := 1) 0 d_B_exchanged_1 rfl rfl ?_
  refine bj_iload_n (pc := 2) 1 d_B_exchanged_2 rfl rfl ?_
  refine bj_lushr (pc := 3) d_B_exchanged_3 ?_
  refine bj_lxor (pc := 4) d_B_exchanged_4 ?_
  refine bj_lload_n (pc := 5) 2 d_B_exchanged_5 rfl rfl ?_
  refine bj_land (pc := 6) d_B_exchanged_6 ?_
  refine bj_lstore (pc := 7) (lo' := [(5, .long ((x0 ^^^ (bs_ushr x0 x2)) &&& x3)), (0, .long x0), (2, .int x2), (3, .long x3)]) d_B_exchanged_7 (by decide) rfl ?_
  refine bj_lload_n (pc := 9) 1 d_B_exchanged_9 rfl rfl ?_
  refine bj_lload (pc := 10) 0 d_B_exchanged_10 rfl ?_
  refine bj_lxor (pc := 12) d_B_exchanged_12 ?_
  refine bj_lload (pc := 13) 0 d_B_exchanged_13 rfl ?_
  refine bj_iload_n (pc := 15) 2 d_B_exchanged_15 rfl rfl ?_
  refine bj_lshl (pc := 16) d_B_exchanged_16 ?_
  refine bj_lxor (pc := 17) d_B_exchanged_17 ?_
  exact bj_lret (pc := 18) d_B_exchanged_18 rfl hw
theorem d_W_gathered_0 : decode prog_7_method_5_code 0 = .ok (.lconst 0, 1) := by decide +kernel
theorem d_W_gathered_1 : decode prog_7_method_5_code 1 = .ok (.lstore_n 3, 1) := by decide +kernel
theorem d_W_gathered_2 : decode prog_7_method_5_code 2 = .ok (.iconst 0, 1) := by decide +kernel
theorem d_W_gathered_3 : decode prog_7_method_5_code 3 = .ok (.istore 5, 2) := by decide +kernel
theorem d_W_gathered_5 : decode prog_7_method_5_code 5 = .ok (.iconst 0, 1) := by decide +kernel
theorem d_W_gathered_6 : decode prog_7_method_5_code 6 = .ok (.istore 6, 2) := by decide +kernel
theorem d_W_gathered_8 : decode prog_7_method_5_code 8 = .ok (.iload 6, 2) := by decide +kernel
theorem d_W_gathered_10 : decode prog_7_method_5_code 10 = .ok (.aload_n 0, 1) := by decide +kernel
theorem d_W_gathered_11 : decode prog_7_method_5_code 11 = .ok (.getfield 9, 3) := by decide +kernel
theorem d_W_gathered_14 : decode prog_7_method_5_code 14 = .ok (.if_icmp .ge 36, 3) := by decide +kernel
theorem d_W_gathered_17 : decode prog_7_method_5_code 17 = .ok (.lload_n 1, 1) := by decide +kernel
theorem d_W_gathered_18 : decode prog_7_method_5_code 18 = .ok (.iload 6, 2) := by decide +kernel
theorem d_W_gathered_20 : decode prog_7_method_5_code 20 = .ok (.invokestatic 63, 3) := by decide +kernel
theorem d_W_gathered_23 : decode prog_7_method_5_code 23 = .ok (.ifCond .eq 21, 3) := by decide +kernel
theorem d_W_gathered_26 : decode prog_7_method_5_code 26 = .ok (.lload_n 3, 1) := by decide +kernel
theorem d_W_gathered_27 : decode prog_7_method_5_code 27 = .ok (.aload_n 0, 1) := by decide +kernel
theorem d_W_gathered_28 : decode prog_7_method_5_code 28 = .ok (.getfield 19, 3) := by decide +kernel
theorem d_W_gathered_31 : decode prog_7_method_5_code 31 = .ok (.iload 6, 2) := by decide +kernel
theorem d_W_gathered_33 : decode prog_7_method_5_code 33 = .ok (.lushr, 1) := by decide +kernel
theorem d_W_gathered_34 : decode prog_7_method_5_code 34 = .ok (.lconst 1, 1) := by decide +kernel
theorem d_W_gathered_35 : decode prog_7_method_5_code 35 = .ok (.land, 1) := by decide +kernel
theorem d_W_gathered_36 : decode prog_7_method_5_code 36 = .ok (.iload 5, 2) := by decide +kernel
theorem d_W_gathered_38 : decode prog_7_method_5_code 38 = .ok (.lshl, 1) := by decide +kernel
theorem d_W_gathered_39 : decode prog_7_method_5_code 39 = .ok (.lor, 1) := by decide +kernel
theorem d_W_gathered_40 : decode prog_7_method_5_code 40 = .ok (.lstore_n 3, 1) := by decide +kernel
theorem d_W_gathered_41 : decode prog_7_method_5_code 41 = .ok (.iinc 5 1, 3) := by decide +kernel
theorem d_W_gathered_44 : decode prog_7_method_5_code 44 = .ok (.iinc 6 1, 3) := by decide +kernel
theorem d_W_gathered_47 : decode prog_7_method_5_code 47 = .ok (.goto (-39), 3) := by decide +kernel
theorem d_W_gathered_50 : decode prog_7_method_5_code 50 = .ok (.lload_n 3, 1) := by decide +kernel
theorem d_W_gathered_51 : decode prog_7_method_5_code 51 = .ok (.lreturn, 1) := by decide +kernel
def w_W_gathered_44 (Φ : bs_R → bs_H → Prop) (nx8 : Nat → Int64 → Int64 → Int32 → Int32 → bs_H → Prop) (x0 : Nat) (x1 : Int64) (x3 : Int64) (x5 : Int32) (x6 : Int32) (h : bs_H) : Prop :=
  nx8 x0 x1 x3 x5 (x6 + 1) h
def w_W_gathered_8_s (Φ : bs_R → bs_H → Prop) (nx8 : Nat → Int64 → Int64 → Int32 → Int32 → bs_H → Prop) (x0 : Nat) (x1 : Int64) (x3 : Int64) (x5 : Int32) (x6 : Int32) (h : bs_H) : Prop :=
  bs_fI h x0 3 0 (fun v1 => bs_if (v1 ≤ x6) (Φ (.ok (some (.long x3))) h) (w_B_holds (bs_kI Φ fun v2 h3 => (bs_if (v2 = 0) (w_W_gathered_44 Φ nx8 x0 x1 x3 x5 x6 h3) (bs_fL h3 x0 3 1 (fun v4 => w_W_gathered_44 Φ nx8 x0 x1 (x3 ||| (bs_shl ((bs_ushr v4 x6) &&& 1) x5)) (x5 + 1) x6 h3)))) x1 x6 h))
def w_W_gathered_8 (Φ : bs_R → bs_H → Prop) : Nat → Nat → Int64 → Int64 → Int32 → Int32 → bs_H → Prop
  | 0 => fun _ _ _ _ _ _ => False
  | n + 1 => fun x0 x1 x3 x5 x6 h => w_W_gathered_8_s Φ (w_W_gathered_8 Φ n) x0 x1 x3 x5 x6 h
def w_W_gathered (Φ : bs_R → bs_H → Prop) (x0 : Nat) (x1 : Int64) (h : bs_H) : Prop :=
  w_W_gathered_8 Φ 1000 x0 x1 0 0 0 h
theorem m_W_gathered_44 {l : Launch} {R : Room} {Φ : bs_R → bs_H → Prop} (hR : bs_rm 2 R) {nx8 : Nat → Int64 → Int64 → Int32 → Int32 → bs_H → Prop} (hnx8 : ∀ (x0 : Nat) (x1 : Int64) (x3 : Int64) (x5 : Int32) (x6 : Int32) (h : bs_H), nx8 x0 x1 x3 x5 x6 h → bs_J l K_W_gathered R Φ 8 [(0, .ref x0), (1, .long x1), (3, .long x3), (5, .int x5), (6, .int x6)] [] h) {x0 : Nat} {x1 : Int64} {x3 : Int64} {x5 : Int32} {x6 : Int32} {h : bs_H} (hw : w_W_gathered_44 Φ nx8 x0 x1 x3 x5 x6 h) : bs_J l K_W_gathered R Φ 44 [(0, .ref x0), (1, .long x1), (3, .long x3), (5, .int x5), (6, .int x6)] [] h := by
  unfold w_W_gathered_44 at hw
  refine bj_iinc (pc := 44) (v := (x6 + 1)) (lo' := [(6, .int (x6 + 1)), (0, .ref x0), (1, .long x1), (3, .long x3), (5, .int x5)]) 4 d_W_gathered_44 rfl rfl (by decide) rfl ?_
  refine bj_goto (pc := 47) (tgt := 8) d_W_gathered_47 (by decide) ?_
  refine bj_sub [1, 2, 3, 4, 0] (lo' := [(0, .ref x0), (1, .long x1), (3, .long x3), (5, .int x5), (6, .int (x6 + 1))]) rfl ?_
  exact hnx8 _ _ _ _ _ _ hw
theorem m_W_gathered_8 {l : Launch} {R : Room} {Φ : bs_R → bs_H → Prop} (hR : bs_rm 2 R) : ∀ (n : Nat) (x0 : Nat) (x1 : Int64) (x3 : Int64) (x5 : Int32) (x6 : Int32) (h : bs_H), w_W_gathered_8 Φ n x0 x1 x3 x5 x6 h → bs_J l K_W_gathered R Φ 8 [(0, .ref x0), (1, .long x1), (3, .long x3), (5, .int x5), (6, .int x6)] [] h := by
  intro n
  induction n with
  | zero => intro x0 x1 x3 x5 x6 h hw; exact hw.elim
  | succ n ih =>
    have hnx8 := ih
    intro x0 x1 x3 x5 x6 h hw
    replace hw : w_W_gathered_8_s Φ (w_W_gathered_8 Φ n) x0 x1 x3 x5 x6 h := hw
    unfold w_W_gathered_8_s at hw
    refine bj_iload (pc := 8) 4 d_W_gathered_8 rfl ?_
    refine bj_aload_n (pc := 10) 0 d_W_gathered_10 rfl rfl ?_
    obtain ⟨fs, v1, hx, hv, hw⟩ := hw
    refine bj_get (pc := 11) (ci := 3) (k := 0) (fs := fs) (v := .int v1) d_W_gathered_11 rfl (by decide) q_113 hx hv ?_
    refine bj_icmp_ge (pc := 14) (tgt := 50) d_W_gathered_14 (by decide) (fun hc => ?_) (fun hc => ?_)
    · replace hw := hw.1 hc
      refine bj_lload_n (pc := 50) 2 d_W_gathered_50 rfl rfl ?_
      exact bj_lret (pc := 51) d_W_gathered_51 rfl hw
    · replace hw := hw.2 hc
      refine bj_lload_n (pc := 17) 1 d_W_gathered_17 rfl rfl ?_
      refine bj_iload (pc := 18) 4 d_W_gathered_18 rfl ?_
      refine bj_callS (pc := 20) (np := 2) (K' := K_B_holds) (argsL := [.long x1, .int x6]) (st := []) (d1 := 1) rfl d_W_gathered_20 (Or.inr ⟨_, q_276⟩) q_277 q_46 c_B_holds n_B_holds hR (by decide) (by decide) rfl (Nat.le_of_ble_eq_true rfl) rfl (Nat.le_of_ble_eq_true rfl) (fun R' hR' => m_B_holds hR' hw) (bs_kI_ok fun v2 h3 hw => ?_) (fun _ _ z => z)
      refine bj_if_eq (pc := 23) (tgt := 44) d_W_gathered_23 (by decide) (fun hc => ?_) (fun hc => ?_)
      · replace hw := hw.1 hc
        exact m_W_gathered_44 hR hnx8 hw
      · replace hw := hw.2 hc
        refine bj_lload_n (pc := 26) 2 d_W_gathered_26 rfl rfl ?_
        refine bj_aload_n (pc := 27) 0 d_W_gathered_27 rfl rfl ?_
        obtain ⟨fs, v4, hx, hv, hw⟩ := hw
        refine bj_get (pc := 28) (ci := 3) (k := 1) (fs := fs) (v := .long v4) d_W_gathered_28 rfl (by decide) q_114 hx hv ?_
        refine bj_iload (pc := 31) 4 d_W_gathered_31 rfl ?_
        refine bj_lushr (pc := 33) d_W_gathered_33 ?_
        refine bj_lconst (pc := 34) (v := 1) d_W_gathered_34 (by decide) ?_
        refine bj_land (pc := 35) d_W_gathered_35 ?_
        refine bj_iload (pc := 36) 3 d_W_gathered_36 rfl ?_
        refine bj_lshl (pc := 38) d_W_gathered_38 ?_
        refine bj_lor (pc := 39) d_W_gathered_39 ?_
        refine bj_lstore_n (pc := 40) (lo' := [(3, .long (x3 ||| (bs_shl ((bs_ushr v4 x6) &&& 1) x5))), (0, .ref x0), (1, .long x1), (5, .int x5), (6, .int x6)]) d_W_gathered_40 rfl (by decide) rfl ?_
        refine bj_iinc (pc := 41) (v := (x5 + 1)) (lo' := [(5, .int (x5 + 1)), (3, .long (x3 ||| (bs_shl ((bs_ushr v4 x6) &&& 1) x5))), (0, .ref x0), (1, .long x1), (6, .int x6)]) 3 d_W_gathered_41 rfl rfl (by decide) rfl ?_
        refine bj_sub [2, 3, 1, 0, 4] (lo' := [(0, .ref x0), (1, .long x1), (3, .long (x3 ||| (bs_shl ((bs_ushr v4 x6) &&& 1) x5))), (5, .int (x5 + 1)), (6, .int x6)]) rfl ?_
        exact m_W_gathered_44 hR hnx8 hw
theorem m_W_gathered {l : Launch} {R : Room} (hR : bs_rm 2 R) {Φ : bs_R → bs_H → Prop} {x0 : Nat} {x1 : Int64} {h : bs_H} (hw : w_W_gathered Φ x0 x1 h) : bs_J l K_W_gathered R Φ 0 [(0, .ref x0), (1, .long x1)] [] h := by
  unfold w_W_gathered at hw
  refine bj_lconst (pc := 0) (v := 0) d_W_gathered_0 (by decide) ?_
  refine bj_lstore_n (pc := 1) (lo' := [(3, .long 0), (0, .ref x0), (1, .long x1)]) d_W_gathered_1 rfl (by decide) rfl ?_
  refine bj_iconst (pc := 2) (v := 0) d_W_gathered_2 (by decide) ?_
  refine bj_istore (pc := 3) (lo' := [(5, .int 0), (3, .long 0), (0, .ref x0), (1, .long x1)]) d_W_gathered_3 (by decide) rfl ?_
  refine bj_iconst (pc := 5) (v := 0) d_W_gathered_5 (by decide) ?_
  refine bj_istore (pc := 6) (lo' := [(6, .int 0), (5, .int 0), (3, .long 0), (0, .ref x0), (1, .long x1)]) d_W_gathered_6 (by decide) rfl ?_
  refine bj_sub [3, 4, 2, 1, 0] (lo' := [(0, .ref x0), (1, .long x1), (3, .long 0), (5, .int 0), (6, .int 0)]) rfl ?_
  exact m_W_gathered_8 hR 1000 _ _ _ _ _ _ hw
theorem d_W_scattered_0 : decode prog_7_method_6_code 0 = .ok (.lconst 0, 1) := by decide +kernel
theorem d_W_scattered_1 : decode prog_7_method_6_code 1 = .ok (.lstore_n 3, 1) := by decide +kernel
theorem d_W_scattered_2 : decode prog_7_method_6_code 2 = .ok (.iconst 0, 1) := by decide +kernel
theorem d_W_scattered_3 : decode prog_7_method_6_code 3 = .ok (.istore 5, 2) := by decide +kernel
theorem d_W_scattered_5 : decode prog_7_method_6_code 5 = .ok (.iconst 0, 1) := by decide +kernel
theorem d_W_scattered_6 : decode prog_7_method_6_code 6 = .ok (.istore 6, 2) := by decide +kernel
theorem d_W_scattered_8 : decode prog_7_method_6_code 8 = .ok (.iload 6, 2) := by decide +kernel
theorem d_W_scattered_10 : decode prog_7_method_6_code 10 = .ok (.aload_n 0, 1) := by decide +kernel
theorem d_W_scattered_11 : decode prog_7_method_6_code 11 = .ok (.getfield 9, 3) := by decide +kernel
theorem d_W_scattered_14 : decode prog_7_method_6_code 14 = .ok (.if_icmp .ge 36, 3) := by decide +kernel
theorem d_W_scattered_17 : decode prog_7_method_6_code 17 = .ok (.lload_n 1, 1) := by decide +kernel
theorem d_W_scattered_18 : decode prog_7_method_6_code 18 = .ok (.iload 6, 2) := by decide +kernel
theorem d_W_scattered_20 : decode prog_7_method_6_code 20 = .ok (.invokestatic 63, 3) := by decide +kernel
theorem d_W_scattered_23 : decode prog_7_method_6_code 23 = .ok (.ifCond .eq 21, 3) := by decide +kernel
theorem d_W_scattered_26 : decode prog_7_method_6_code 26 = .ok (.lload_n 3, 1) := by decide +kernel
theorem d_W_scattered_27 : decode prog_7_method_6_code 27 = .ok (.aload_n 0, 1) := by decide +kernel
theorem d_W_scattered_28 : decode prog_7_method_6_code 28 = .ok (.getfield 23, 3) := by decide +kernel
theorem d_W_scattered_31 : decode prog_7_method_6_code 31 = .ok (.iload 5, 2) := by decide +kernel
theorem d_W_scattered_33 : decode prog_7_method_6_code 33 = .ok (.lushr, 1) := by decide +kernel
theorem d_W_scattered_34 : decode prog_7_method_6_code 34 = .ok (.lconst 1, 1) := by decide +kernel
theorem d_W_scattered_35 : decode prog_7_method_6_code 35 = .ok (.land, 1) := by decide +kernel
theorem d_W_scattered_36 : decode prog_7_method_6_code 36 = .ok (.iload 6, 2) := by decide +kernel
theorem d_W_scattered_38 : decode prog_7_method_6_code 38 = .ok (.lshl, 1) := by decide +kernel
theorem d_W_scattered_39 : decode prog_7_method_6_code 39 = .ok (.lor, 1) := by decide +kernel
theorem d_W_scattered_40 : decode prog_7_method_6_code 40 = .ok (.lstore_n 3, 1) := by decide +kernel
theorem d_W_scattered_41 : decode prog_7_method_6_code 41 = .ok (.iinc 5 1, 3) := by decide +kernel
theorem d_W_scattered_44 : decode prog_7_method_6_code 44 = .ok (.iinc 6 1, 3) := by decide +kernel
theorem d_W_scattered_47 : decode prog_7_method_6_code 47 = .ok (.goto (-39), 3) := by decide +kernel
theorem d_W_scattered_50 : decode prog_7_method_6_code 50 = .ok (.lload_n 3, 1) := by decide +kernel
theorem d_W_scattered_51 : decode prog_7_method_6_code 51 = .ok (.lreturn, 1) := by decide +kernel
def w_W_scattered_44 (Φ : bs_R → bs_H → Prop) (nx8 : Nat → Int64 → Int64 → Int32 → Int32 → bs_H → Prop) (x0 : Nat) (x1 : Int64) (x3 : Int64) (x5 : Int32) (x6 : Int32) (h : bs_H) : Prop :=
  nx8 x0 x1 x3 x5 (x6 + 1) h
def w_W_scattered_8_s (Φ : bs_R → bs_H → Prop) (nx8 : Nat → Int64 → Int64 → Int32 → Int32 → bs_H → Prop) (x0 : Nat) (x1 : Int64) (x3 : Int64) (x5 : Int32) (x6 : Int32) (h : bs_H) : Prop :=
  bs_fI h x0 3 0 (fun v1 => bs_if (v1 ≤ x6) (Φ (.ok (some (.long x3))) h) (w_B_holds (bs_kI Φ fun v2 h3 => (bs_if (v2 = 0) (w_W_scattered_44 Φ nx8 x0 x1 x3 x5 x6 h3) (bs_fL h3 x0 3 2 (fun v4 => w_W_scattered_44 Φ nx8 x0 x1 (x3 ||| (bs_shl ((bs_ushr v4 x5) &&& 1) x6)) (x5 + 1) x6 h3)))) x1 x6 h))
def w_W_scattered_8 (Φ : bs_R → bs_H → Prop) : Nat → Nat → Int64 → Int64 → Int32 → Int32 → bs_H → Prop
  | 0 => fun _ _ _ _ _ _ => False
  | n + 1 => fun x0 x1 x3 x5 x6 h => w_W_scattered_8_s Φ (w_W_scattered_8 Φ n) x0 x1 x3 x5 x6 h
def w_W_scattered (Φ : bs_R → bs_H → Prop) (x0 : Nat) (x1 : Int64) (h : bs_H) : Prop :=
  w_W_scattered_8 Φ 1000 x0 x1 0 0 0 h
theorem m_W_scattered_44 {l : Launch} {R : Room} {Φ : bs_R → bs_H → Prop} (hR : bs_rm 2 R) {nx8 : Nat → Int64 → Int64 → Int32 → Int32 → bs_H → Prop} (hnx8 : ∀ (x0 : Nat) (x1 : Int64) (x3 : Int64) (x5 : Int32) (x6 : Int32) (h : bs_H), nx8 x0 x1 x3 x5 x6 h → bs_J l K_W_scattered R Φ 8 [(0, .ref x0), (1, .long x1), (3, .long x3), (5, .int x5), (6, .int x6)] [] h) {x0 : Nat} {x1 : Int64} {x3 : Int64} {x5 : Int32} {x6 : Int32} {h : bs_H} (hw : w_W_scattered_44 Φ nx8 x0 x1 x3 x5 x6 h) : bs_J l K_W_scattered R Φ 44 [(0, .ref x0), (1, .long x1), (3, .long x3), (5, .int x5), (6, .int x6)] [] h := by
  unfold w_W_scattered_44 at hw
  refine bj_iinc (pc := 44) (v := (x6 + 1)) (lo' := [(6, .int (x6 + 1)), (0, .ref x0), (1, .long x1), (3, .long x3), (5, .int x5)]) 4 d_W_scattered_44 rfl rfl (by decide) rfl ?_
  refine bj_goto (pc := 47) (tgt := 8) d_W_scattered_47 (by decide) ?_
  refine bj_sub [1, 2, 3, 4, 0] (lo' := [(0, .ref x0), (1, .long x1), (3, .long x3), (5, .int x5), (6, .int (x6 + 1))]) rfl ?_
  exact hnx8 _ _ _ _ _ _ hw
theorem m_W_scattered_8 {l : Launch} {R : Room} {Φ : bs_R → bs_H → Prop} (hR : bs_rm 2 R) : ∀ (n : Nat) (x0 : Nat) (x1 : Int64) (x3 : Int64) (x5 : Int32) (x6 : Int32) (h : bs_H), w_W_scattered_8 Φ n x0 x1 x3 x5 x6 h → bs_J l K_W_scattered R Φ 8 [(0, .ref x0), (1, .long x1), (3, .long x3), (5, .int x5), (6, .int x6)] [] h := by
  intro n
  induction n with
  | zero => intro x0 x1 x3 x5 x6 h hw; exact hw.elim
  | succ n ih =>
    have hnx8 := ih
    intro x0 x1 x3 x5 x6 h hw
    replace hw : w_W_scattered_8_s Φ (w_W_scattered_8 Φ n) x0 x1 x3 x5 x6 h := hw
    unfold w_W_scattered_8_s at hw
    refine bj_iload (pc := 8) 4 d_W_scattered_8 rfl ?_
    refine bj_aload_n (pc := 10) 0 d_W_scattered_10 rfl rfl ?_
    obtain ⟨fs, v1, hx, hv, hw⟩ := hw
    refine bj_get (pc := 11) (ci := 3) (k := 0) (fs := fs) (v := .int v1) d_W_scattered_11 rfl (by decide) q_113 hx hv ?_
    refine bj_icmp_ge (pc := 14) (tgt := 50) d_W_scattered_14 (by decide) (fun hc => ?_) (fun hc => ?_)
    · replace hw := hw.1 hc
      refine bj_lload_n (pc := 50) 2 d_W_scattered_50 rfl rfl ?_
      exact bj_lret (pc := 51) d_W_scattered_51 rfl hw
    · replace hw := hw.2 hc
      refine bj_lload_n (pc := 17) 1 d_W_scattered_17 rfl rfl ?_
      refine bj_iload (pc := 18) 4 d_W_scattered_18 rfl ?_
      refine bj_callS (pc := 20) (np := 2) (K' := K_B_holds) (argsL := [.long x1, .int x6]) (st := []) (d1 := 1) rfl d_W_scattered_20 (Or.inr ⟨_, q_276⟩) q_277 q_46 c_B_holds n_B_holds hR (by decide) (by decide) rfl (Nat.le_of_ble_eq_true rfl) rfl (Nat.le_of_ble_eq_true rfl) (fun R' hR' => m_B_holds hR' hw) (bs_kI_ok fun v2 h3 hw => ?_) (fun _ _ z => z)
      refine bj_if_eq (pc := 23) (tgt := 44) d_W_scattered_23 (by decide) (fun hc => ?_) (fun hc => ?_)
      · replace hw := hw.1 hc
        exact m_W_scattered_44 hR hnx8 hw
      · replace hw := hw.2 hc
        refine bj_lload_n (pc := 26) 2 d_W_scattered_26 rfl rfl ?_
        refine bj_aload_n (pc := 27) 0 d_W_scattered_27 rfl rfl ?_
        obtain ⟨fs, v4, hx, hv, hw⟩ := hw
        refine bj_get (pc := 28) (ci := 3) (k := 2) (fs := fs) (v := .long v4) d_W_scattered_28 rfl (by decide) q_115 hx hv ?_
        refine bj_iload (pc := 31) 3 d_W_scattered_31 rfl ?_
        refine bj_lushr (pc := 33) d_W_scattered_33 ?_
        refine bj_lconst (pc := 34) (v := 1) d_W_scattered_34 (by decide) ?_
        refine bj_land (pc := 35) d_W_scattered_35 ?_
        refine bj_iload (pc := 36) 4 d_W_scattered_36 rfl ?_
        refine bj_lshl (pc := 38) d_W_scattered_38 ?_
        refine bj_lor (pc := 39) d_W_scattered_39 ?_
        refine bj_lstore_n (pc := 40) (lo' := [(3, .long (x3 ||| (bs_shl ((bs_ushr v4 x5) &&& 1) x6))), (0, .ref x0), (1, .long x1), (5, .int x5), (6, .int x6)]) d_W_scattered_40 rfl (by decide) rfl ?_
        refine bj_iinc (pc := 41) (v := (x5 + 1)) (lo' := [(5, .int (x5 + 1)), (3, .long (x3 ||| (bs_shl ((bs_ushr v4 x5) &&& 1) x6))), (0, .ref x0), (1, .long x1), (6, .int x6)]) 3 d_W_scattered_41 rfl rfl (by decide) rfl ?_
        refine bj_sub [2, 3, 1, 0, 4] (lo' := [(0, .ref x0), (1, .long x1), (3, .long (x3 ||| (bs_shl ((bs_ushr v4 x5) &&& 1) x6))), (5, .int (x5 + 1)), (6, .int x6)]) rfl ?_
        exact m_W_scattered_44 hR hnx8 hw
theorem m_W_scattered {l : Launch} {R : Room} (hR : bs_rm 2 R) {Φ : bs_R → bs_H → Prop} {x0 : Nat} {x1 : Int64} {h : bs_H} (hw : w_W_scattered Φ x0 x1 h) : bs_J l K_W_scattered R Φ 0 [(0, .ref x0), (1, .long x1)] [] h := by
  unfold w_W_scattered at hw
  refine bj_lconst (pc := 0) (v := 0) d_W_scattered_0 (by decide) ?_
  refine bj_lstore_n (pc := 1) (lo' := [(3, .long 0), (0, .ref x0), (1, .long x1)]) d_W_scattered_1 rfl (by decide) rfl ?_
  refine bj_iconst (pc := 2) (v := 0) d_W_scattered_2 (by decide) ?_
  refine bj_istore (pc := 3) (lo' := [(5, .int 0), (3, .long 0), (0, .ref x0), (1, .long x1)]) d_W_scattered_3 (by decide) rfl ?_
  refine bj_iconst (pc := 5) (v := 0) d_W_scattered_5 (by decide) ?_
  refine bj_istore (pc := 6) (lo' := [(6, .int 0), (5, .int 0), (3, .long 0), (0, .ref x0), (1, .long x1)]) d_W_scattered_6 (by decide) rfl ?_
  refine bj_sub [3, 4, 2, 1, 0] (lo' := [(0, .ref x0), (1, .long x1), (3, .long 0), (5, .int 0), (6, .int 0)]) rfl ?_
  exact m_W_scattered_8 hR 1000 _ _ _ _ _ _ hw
