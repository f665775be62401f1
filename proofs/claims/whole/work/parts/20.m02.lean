/-! Decode rows, meanings and rows of: B_source, L_source, R_source, M_comesFromWord, B_holds, M_isPermutation, M_bits, JI_bitCount, B_isPowerOfTwo, M_bitsShifted, P_change, P_append, P_appendMove, M_bitsThatAreOne, P_appendSet, B_writeShifts, M_bitsRotated, B_writeRotations, X_followWays, X_decideWays. Written by program. -/
theorem d_B_source_0 : decode prog_1_method_4_code 0 = .ok (.aload_n 0, 1) := by decide +kernel
theorem d_B_source_1 : decode prog_1_method_4_code 1 = .ok (.iload_n 1, 1) := by decide +kernel
theorem d_B_source_2 : decode prog_1_method_4_code 2 = .ok (.invokevirtual 72, 3) := by decide +kernel
theorem d_B_source_5 : decode prog_1_method_4_code 5 = .ok (.aload_n 0, 1) := by decide +kernel
theorem d_B_source_6 : decode prog_1_method_4_code 6 = .ok (.getfield 12, 3) := by decide +kernel
theorem d_B_source_9 : decode prog_1_method_4_code 9 = .ok (.iload_n 1, 1) := by decide +kernel
theorem d_B_source_10 : decode prog_1_method_4_code 10 = .ok (.invokevirtual 83, 3) := by decide +kernel
theorem d_B_source_13 : decode prog_1_method_4_code 13 = .ok (.ireturn, 1) := by decide +kernel
def w_B_source (Φ : bs_R → bs_H → Prop) (x0 : Nat) (x1 : Int32) (h : bs_H) : Prop :=
  bs_on h x0 0 (w_B_requireBit (bs_kV Φ fun h1 => (bs_fA h1 x0 0 0 (fun v2 => bs_on h1 v2 1 (w_M_sourceOf (bs_kI Φ fun v3 h4 => (Φ (.ok (some (.int v3))) h4)) v2 x1 h1)))) x0 x1 h)
theorem m_B_source {l : Launch} {R : Room} (hR : bs_rm 3 R) {Φ : bs_R → bs_H → Prop} {x0 : Nat} {x1 : Int32} {h : bs_H} (hw : w_B_source Φ x0 x1 h) : bs_J l K_B_source R Φ 0 [(0, .ref x0), (1, .int x1)] [] h := by
  unfold w_B_source at hw
  refine bj_aload_n (pc := 0) 0 d_B_source_0 rfl rfl ?_
  refine bj_iload_n (pc := 1) 1 d_B_source_1 rfl rfl ?_
  obtain ⟨⟨fs, hx⟩, hw⟩ := hw
  refine bj_callV (pc := 2) (np := 1) (K' := K_B_requireBit) (argsL := [.int x1]) (st := []) (d1 := 2) (ci := 0) (fs := fs) rfl d_B_source_2 (Or.inl q_456) q_458 rfl q_13 c_B_requireBit n_B_requireBit hR (by decide) (by decide) rfl (Nat.le_of_ble_eq_true rfl) rfl (Nat.le_of_ble_eq_true rfl) hx (fun R' hR' => m_B_requireBit hR' hw) (bs_kV_ok fun h1 hw => ?_) (fun _ _ z => z)
  refine bj_aload_n (pc := 5) 0 d_B_source_5 rfl rfl ?_
  obtain ⟨fs, v2, hx, hv, hw⟩ := hw
  refine bj_get (pc := 6) (ci := 0) (k := 0) (fs := fs) (v := .ref v2) d_B_source_6 rfl (by decide) q_196 hx hv ?_
  refine bj_iload_n (pc := 9) 1 d_B_source_9 rfl rfl ?_
  obtain ⟨⟨fs, hx⟩, hw⟩ := hw
  refine bj_callV (pc := 10) (np := 1) (K' := K_M_sourceOf) (argsL := [.int x1]) (st := []) (d1 := 1) (ci := 1) (fs := fs) rfl d_B_source_10 (Or.inl q_351) q_352 rfl q_353 c_M_sourceOf n_M_sourceOf hR (by decide) (by decide) rfl (Nat.le_of_ble_eq_true rfl) rfl (Nat.le_of_ble_eq_true rfl) hx (fun R' hR' => m_M_sourceOf hR' hw) (bs_kI_ok fun v3 h4 hw => ?_) (fun _ _ z => z)
  exact bj_iret (pc := 13) d_B_source_13 rfl hw
theorem d_L_source_0 : decode method_5_code 0 = .ok (.aload_n 2, 1) := by decide +kernel
theorem d_L_source_1 : decode method_5_code 1 = .ok (.iconst 0, 1) := by decide +kernel
theorem d_L_source_2 : decode method_5_code 2 = .ok (.aload_n 0, 1) := by decide +kernel
theorem d_L_source_3 : decode method_5_code 3 = .ok (.iload_n 1, 1) := by decide +kernel
theorem d_L_source_4 : decode method_5_code 4 = .ok (.invokevirtual 19, 3) := by decide +kernel
theorem d_L_source_7 : decode method_5_code 7 = .ok (.i2l, 1) := by decide +kernel
theorem d_L_source_8 : decode method_5_code 8 = .ok (.lastore, 1) := by decide +kernel
theorem d_L_source_9 : decode method_5_code 9 = .ok (.goto 6, 3) := by decide +kernel
theorem d_L_source_12 : decode method_5_code 12 = .ok (.astore_n 3, 1) := by decide +kernel
theorem d_L_source_13 : decode method_5_code 13 = .ok (.iconst 1, 1) := by decide +kernel
theorem d_L_source_14 : decode method_5_code 14 = .ok (.ireturn, 1) := by decide +kernel
theorem d_L_source_15 : decode method_5_code 15 = .ok (.iconst 0, 1) := by decide +kernel
theorem d_L_source_16 : decode method_5_code 16 = .ok (.ireturn, 1) := by decide +kernel
def w_L_source_12 (Φ : bs_R → bs_H → Prop) (s0 : Nat) (h : bs_H) : Prop :=
  Φ (.ok (some (.int 1))) h
def w_L_source (Φ : bs_R → bs_H → Prop) (x0 : Nat) (x1 : Int32) (x2 : Nat) (h : bs_H) : Prop :=
  bs_on h x0 0 (w_B_source (bs_kI (bs_hd fun E3 h4 => (E3 = "java/lang/IllegalArgumentException" ∧ ∀ a, w_L_source_12 Φ a h4)) fun v1 h2 => (bs_sL h2 x2 0 v1.toInt64 (fun h5 => Φ (.ok (some (.int 0))) h5))) x0 x1 h)
theorem m_L_source_12 {l : Launch} {R : Room} {Φ : bs_R → bs_H → Prop} (hR : bs_rm 4 R) {s0 : Nat} {h : bs_H} (hw : w_L_source_12 Φ s0 h) : bs_J l K_L_source R Φ 12 [] [.ref s0] h := by
  unfold w_L_source_12 at hw
  refine bj_astore_n (pc := 12) (lo' := [(3, .ref s0)]) d_L_source_12 rfl (by decide) rfl ?_
  refine bj_iconst (pc := 13) (v := 1) d_L_source_13 (by decide) ?_
  exact bj_iret (pc := 14) d_L_source_14 rfl hw
theorem m_L_source {l : Launch} {R : Room} (hR : bs_rm 4 R) {Φ : bs_R → bs_H → Prop} {x0 : Nat} {x1 : Int32} {x2 : Nat} {h : bs_H} (hw : w_L_source Φ x0 x1 x2 h) : bs_J l K_L_source R Φ 0 [(0, .ref x0), (1, .int x1), (2, .ref x2)] [] h := by
  unfold w_L_source at hw
  refine bj_aload_n (pc := 0) 2 d_L_source_0 rfl rfl ?_
  refine bj_iconst (pc := 1) (v := 0) d_L_source_1 (by decide) ?_
  refine bj_aload_n (pc := 2) 0 d_L_source_2 rfl rfl ?_
  refine bj_iload_n (pc := 3) 1 d_L_source_3 rfl rfl ?_
  obtain ⟨⟨fs, hx⟩, hw⟩ := hw
  refine bj_callVC (pc := 4) (np := 1) (K' := K_B_source) (argsL := [.int x1]) (st := [.int 0, .ref x2]) (d1 := 3) (ci := 0) (fs := fs) rfl d_L_source_4 (Or.inl q_476) q_477 rfl q_478 c_B_source n_B_source hR (by decide) (by decide) (Nat.le_of_ble_eq_true rfl) rfl (Nat.le_of_ble_eq_true rfl) hx (fun R' hR' => m_B_source hR' hw) (bs_kI_ok fun v1 h2 hw => ?_) ?_
  · refine bj_i2l (pc := 7) d_L_source_7 ?_
    obtain ⟨n, f, hx, hin, hw⟩ := hw
    refine bj_last (pc := 8) (n := n) (f := f) d_L_source_8 hx hin ?_
    refine bj_goto (pc := 9) (tgt := 15) d_L_source_9 (by decide) ?_
    refine bj_iconst (pc := 15) (v := 0) d_L_source_15 (by decide) ?_
    exact bj_iret (pc := 16) d_L_source_16 rfl hw
  · intro E3 h4 hw
    obtain ⟨rfl, hw⟩ := hw
    refine ⟨12, bs_hand1 rfl (by decide) (by decide) q_376 q_383, fun a => ?_⟩
    replace hw := hw a
    refine bj_sub [] (lo' := []) rfl ?_
    exact m_L_source_12 hR hw
theorem d_R_source_0 : decode prog_9_method_7_code 0 = .ok (.aload_n 0, 1) := by decide +kernel
theorem d_R_source_1 : decode prog_9_method_7_code 1 = .ok (.aload_n 0, 1) := by decide +kernel
theorem d_R_source_2 : decode prog_9_method_7_code 2 = .ok (.iload_n 1, 1) := by decide +kernel
theorem d_R_source_3 : decode prog_9_method_7_code 3 = .ok (.invokevirtual 95, 3) := by decide +kernel
theorem d_R_source_6 : decode prog_9_method_7_code 6 = .ok (.ifCond .eq 7, 3) := by decide +kernel
theorem d_R_source_9 : decode prog_9_method_7_code 9 = .ok (.iconst 1, 1) := by decide +kernel
theorem d_R_source_10 : decode prog_9_method_7_code 10 = .ok (.goto 4, 3) := by decide +kernel
theorem d_R_source_13 : decode prog_9_method_7_code 13 = .ok (.iconst 0, 1) := by decide +kernel
theorem d_R_source_14 : decode prog_9_method_7_code 14 = .ok (.putfield 85, 3) := by decide +kernel
theorem d_R_source_17 : decode prog_9_method_7_code 17 = .ok (.aload_n 0, 1) := by decide +kernel
theorem d_R_source_18 : decode prog_9_method_7_code 18 = .ok (.getfield 85, 3) := by decide +kernel
theorem d_R_source_21 : decode prog_9_method_7_code 21 = .ok (.ifCond .ne 12, 3) := by decide +kernel
theorem d_R_source_24 : decode prog_9_method_7_code 24 = .ok (.aload_n 0, 1) := by decide +kernel
theorem d_R_source_25 : decode prog_9_method_7_code 25 = .ok (.getfield 7, 3) := by decide +kernel
theorem d_R_source_28 : decode prog_9_method_7_code 28 = .ok (.iload_n 1, 1) := by decide +kernel
theorem d_R_source_29 : decode prog_9_method_7_code 29 = .ok (.iaload, 1) := by decide +kernel
theorem d_R_source_30 : decode prog_9_method_7_code 30 = .ok (.goto 4, 3) := by decide +kernel
theorem d_R_source_33 : decode prog_9_method_7_code 33 = .ok (.iconst 0, 1) := by decide +kernel
theorem d_R_source_34 : decode prog_9_method_7_code 34 = .ok (.ireturn, 1) := by decide +kernel
def w_R_source_34 (Φ : bs_R → bs_H → Prop) (s0 : Int32) (h : bs_H) : Prop :=
  Φ (.ok (some (.int s0))) h
def w_R_source_14 (Φ : bs_R → bs_H → Prop) (x0 : Nat) (x1 : Int32) (s0 : Nat) (s1 : Int32) (h : bs_H) : Prop :=
  bs_p h s0 7 0 (.int s1) (fun h1 => bs_fI h1 x0 7 0 (fun v2 => bs_if (v2 = 0) (bs_fA h1 x0 7 2 (fun v3 => bs_lI h1 v3 x1 (fun v4 => w_R_source_34 Φ v4 h1))) (w_R_source_34 Φ 0 h1)))
def w_R_source (Φ : bs_R → bs_H → Prop) (x0 : Nat) (x1 : Int32) (h : bs_H) : Prop :=
  bs_on h x0 7 (w_R_noBit (bs_kI Φ fun v1 h2 => (bs_if (v1 = 0) (w_R_source_14 Φ x0 x1 x0 0 h2) (w_R_source_14 Φ x0 x1 x0 1 h2))) x0 x1 h)
theorem m_R_source_34 {l : Launch} {R : Room} {Φ : bs_R → bs_H → Prop} (hR : bs_rm 2 R) {s0 : Int32} {h : bs_H} (hw : w_R_source_34 Φ s0 h) : bs_J l K_R_source R Φ 34 [] [.int s0] h := by
  unfold w_R_source_34 at hw
  exact bj_iret (pc := 34) d_R_source_34 rfl hw
theorem m_R_source_14 {l : Launch} {R : Room} {Φ : bs_R → bs_H → Prop} (hR : bs_rm 2 R) {x0 : Nat} {x1 : Int32} {s0 : Nat} {s1 : Int32} {h : bs_H} (hw : w_R_source_14 Φ x0 x1 s0 s1 h) : bs_J l K_R_source R Φ 14 [(0, .ref x0), (1, .int x1)] [.int s1, .ref s0] h := by
  unfold w_R_source_14 at hw
  obtain ⟨fs, hx, hlen, hw⟩ := hw
  refine bj_put (pc := 14) (ci := 7) (k := 0) (fs := fs) (v := (.int s1)) (ty := .int) d_R_source_14 rfl (by decide) q_748 rfl (by decide +kernel) rfl rfl hx hlen ?_
  refine bj_aload_n (pc := 17) 0 d_R_source_17 rfl rfl ?_
  obtain ⟨fs, v2, hx, hv, hw⟩ := hw
  refine bj_get (pc := 18) (ci := 7) (k := 0) (fs := fs) (v := .int v2) d_R_source_18 rfl (by decide) q_748 hx hv ?_
  refine bj_if_ne (pc := 21) (tgt := 33) d_R_source_21 (by decide) (fun hc => ?_) (fun hc => ?_)
  · replace hw := hw.2 hc
    refine bj_iconst (pc := 33) (v := 0) d_R_source_33 (by decide) ?_
    refine bj_sub [] (lo' := []) rfl ?_
    exact m_R_source_34 hR hw
  · replace hw := hw.1 hc
    refine bj_aload_n (pc := 24) 0 d_R_source_24 rfl rfl ?_
    obtain ⟨fs, v3, hx, hv, hw⟩ := hw
    refine bj_get (pc := 25) (ci := 7) (k := 2) (fs := fs) (v := .ref v3) d_R_source_25 rfl (by decide) q_750 hx hv ?_
    refine bj_iload_n (pc := 28) 1 d_R_source_28 rfl rfl ?_
    obtain ⟨n, f, v4, hx, hin, hv, hw⟩ := hw
    refine bj_iald (pc := 29) (n := n) (f := f) d_R_source_29 hx hin hv ?_
    refine bj_goto (pc := 30) (tgt := 34) d_R_source_30 (by decide) ?_
    refine bj_sub [] (lo' := []) rfl ?_
    exact m_R_source_34 hR hw
theorem m_R_source {l : Launch} {R : Room} (hR : bs_rm 2 R) {Φ : bs_R → bs_H → Prop} {x0 : Nat} {x1 : Int32} {h : bs_H} (hw : w_R_source Φ x0 x1 h) : bs_J l K_R_source R Φ 0 [(0, .ref x0), (1, .int x1)] [] h := by
  unfold w_R_source at hw
  refine bj_aload_n (pc := 0) 0 d_R_source_0 rfl rfl ?_
  refine bj_aload_n (pc := 1) 0 d_R_source_1 rfl rfl ?_
  refine bj_iload_n (pc := 2) 1 d_R_source_2 rfl rfl ?_
  obtain ⟨⟨fs, hx⟩, hw⟩ := hw
  refine bj_callV (pc := 3) (np := 1) (K' := K_R_noBit) (argsL := [.int x1]) (st := [.ref x0]) (d1 := 1) (ci := 7) (fs := fs) rfl d_R_source_3 (Or.inl q_843) q_845 rfl q_24 c_R_noBit n_R_noBit hR (by decide) (by decide) rfl (Nat.le_of_ble_eq_true rfl) rfl (Nat.le_of_ble_eq_true rfl) hx (fun R' hR' => m_R_noBit hR' hw) (bs_kI_ok fun v1 h2 hw => ?_) (fun _ _ z => z)
  refine bj_if_eq (pc := 6) (tgt := 13) d_R_source_6 (by decide) (fun hc => ?_) (fun hc => ?_)
  · replace hw := hw.1 hc
    refine bj_iconst (pc := 13) (v := 0) d_R_source_13 (by decide) ?_
    exact m_R_source_14 hR hw
  · replace hw := hw.2 hc
    refine bj_iconst (pc := 9) (v := 1) d_R_source_9 (by decide) ?_
    refine bj_goto (pc := 10) (tgt := 14) d_R_source_10 (by decide) ?_
    exact m_R_source_14 hR hw
theorem d_M_comesFromWord_0 : decode prog_2_method_11_code 0 = .ok (.aload_n 0, 1) := by decide +kernel
theorem d_M_comesFromWord_1 : decode prog_2_method_11_code 1 = .ok (.getfield 9, 3) := by decide +kernel
theorem d_M_comesFromWord_4 : decode prog_2_method_11_code 4 = .ok (.iload_n 1, 1) := by decide +kernel
theorem d_M_comesFromWord_5 : decode prog_2_method_11_code 5 = .ok (.iaload, 1) := by decide +kernel
theorem d_M_comesFromWord_6 : decode prog_2_method_11_code 6 = .ok (.bipush 64, 2) := by decide +kernel
theorem d_M_comesFromWord_8 : decode prog_2_method_11_code 8 = .ok (.if_icmp .ge 7, 3) := by decide +kernel
theorem d_M_comesFromWord_11 : decode prog_2_method_11_code 11 = .ok (.iconst 1, 1) := by decide +kernel
theorem d_M_comesFromWord_12 : decode prog_2_method_11_code 12 = .ok (.goto 4, 3) := by decide +kernel
theorem d_M_comesFromWord_15 : decode prog_2_method_11_code 15 = .ok (.iconst 0, 1) := by decide +kernel
theorem d_M_comesFromWord_16 : decode prog_2_method_11_code 16 = .ok (.ireturn, 1) := by decide +kernel
def w_M_comesFromWord_16 (Φ : bs_R → bs_H → Prop) (s0 : Int32) (h : bs_H) : Prop :=
  bs_rZ Φ s0 h
def w_M_comesFromWord (Φ : bs_R → bs_H → Prop) (x0 : Nat) (x1 : Int32) (h : bs_H) : Prop :=
  bs_fA h x0 1 0 (fun v1 => bs_lI h v1 x1 (fun v2 => bs_if ((64 : Int32) ≤ v2) (w_M_comesFromWord_16 Φ 0 h) (w_M_comesFromWord_16 Φ 1 h)))
theorem m_M_comesFromWord_16 {l : Launch} {R : Room} {Φ : bs_R → bs_H → Prop} (hR : bs_rm 1 R) {s0 : Int32} {h : bs_H} (hw : w_M_comesFromWord_16 Φ s0 h) : bs_J l K_M_comesFromWord R Φ 16 [] [.int s0] h := by
  unfold w_M_comesFromWord_16 at hw
  exact bj_zret (pc := 16) d_M_comesFromWord_16 rfl hw.1 hw.2
theorem m_M_comesFromWord {l : Launch} {R : Room} (hR : bs_rm 1 R) {Φ : bs_R → bs_H → Prop} {x0 : Nat} {x1 : Int32} {h : bs_H} (hw : w_M_comesFromWord Φ x0 x1 h) : bs_J l K_M_comesFromWord R Φ 0 [(0, .ref x0), (1, .int x1)] [] h := by
  unfold w_M_comesFromWord at hw
  refine bj_aload_n (pc := 0) 0 d_M_comesFromWord_0 rfl rfl ?_
  obtain ⟨fs, v1, hx, hv, hw⟩ := hw
  refine bj_get (pc := 1) (ci := 1) (k := 0) (fs := fs) (v := .ref v1) d_M_comesFromWord_1 rfl (by decide) q_78 hx hv ?_
  refine bj_iload_n (pc := 4) 1 d_M_comesFromWord_4 rfl rfl ?_
  obtain ⟨n, f, v2, hx, hin, hv, hw⟩ := hw
  refine bj_iald (pc := 5) (n := n) (f := f) d_M_comesFromWord_5 hx hin hv ?_
  refine bj_bipush (pc := 6) (v := 64) d_M_comesFromWord_6 (by decide) ?_
  refine bj_icmp_ge (pc := 8) (tgt := 15) d_M_comesFromWord_8 (by decide) (fun hc => ?_) (fun hc => ?_)
  · replace hw := hw.1 hc
    refine bj_iconst (pc := 15) (v := 0) d_M_comesFromWord_15 (by decide) ?_
    refine bj_sub [] (lo' := []) rfl ?_
    exact m_M_comesFromWord_16 hR hw
  · replace hw := hw.2 hc
    refine bj_iconst (pc := 11) (v := 1) d_M_comesFromWord_11 (by decide) ?_
    refine bj_goto (pc := 12) (tgt := 16) d_M_comesFromWord_12 (by decide) ?_
    refine bj_sub [] (lo' := []) rfl ?_
    exact m_M_comesFromWord_16 hR hw
theorem d_B_holds_0 : decode prog_1_method_31_code 0 = .ok (.lload_n 0, 1) := by decide +kernel
theorem d_B_holds_1 : decode prog_1_method_31_code 1 = .ok (.iload_n 2, 1) := by decide +kernel
theorem d_B_holds_2 : decode prog_1_method_31_code 2 = .ok (.lushr, 1) := by decide +kernel
theorem d_B_holds_3 : decode prog_1_method_31_code 3 = .ok (.lconst 1, 1) := by decide +kernel
theorem d_B_holds_4 : decode prog_1_method_31_code 4 = .ok (.land, 1) := by decide +kernel
theorem d_B_holds_5 : decode prog_1_method_31_code 5 = .ok (.lconst 0, 1) := by decide +kernel
theorem d_B_holds_6 : decode prog_1_method_31_code 6 = .ok (.lcmp, 1) := by decide +kernel
theorem d_B_holds_7 : decode prog_1_method_31_code 7 = .ok (.ifCond .eq 7, 3) := by decide +kernel
theorem d_B_holds_10 : decode prog_1_method_31_code 10 = .ok (.iconst 1, 1) := by decide +kernel
theorem d_B_holds_11 : decode prog_1_method_31_code 11 = .ok (.goto 4, 3) := by decide +kernel
theorem d_B_holds_14 : decode prog_1_method_31_code 14 = .ok (.iconst 0, 1) := by decide +kernel
theorem d_B_holds_15 : decode prog_1_method_31_code 15 = .ok (.ireturn, 1) := by decide +kernel
def w_B_holds_15 (Φ : bs_R → bs_H → Prop) (s0 : Int32) (h : bs_H) : Prop :=
  bs_rZ Φ s0 h
def w_B_holds (Φ : bs_R → bs_H → Prop) (x0 : Int64) (x2 : Int32) (h : bs_H) : Prop :=
  bs_if (((bs_ushr x0 x2) &&& 1) = 0) (w_B_holds_15 Φ 0 h) (w_B_holds_15 Φ 1 h)
theorem m_B_holds_15 {l : Launch} {R : Room} {Φ : bs_R → bs_H → Prop} (hR : bs_rm 1 R) {s0 : Int32} {h : bs_H} (hw : w_B_holds_15 Φ s0 h) : bs_J l K_B_holds R Φ 15 [] [.int s0] h := by
  unfold w_B_holds_15 at hw
  exact bj_zret (pc := 15) d_B_holds_15 rfl hw.1 hw.2
theorem m_B_holds {l : Launch} {R : Room} (hR : bs_rm 1 R) {Φ : bs_R → bs_H → Prop} {x0 : Int64} {x2 : Int32} {h : bs_H} (hw : w_B_holds Φ x0 x2 h) : bs_J l K_B_holds R Φ 0 [(0, .long x0), (2, .int x2)] [] h := by
  unfold w_B_holds at hw
  refine bj_lload_n (pc := 0) 0 d_B_holds_0 rfl rfl ?_
  refine bj_iload_n (pc := 1) 1 d_B_holds_1 rfl rfl ?_
  refine bj_lushr (pc := 2) d_B_holds_2 ?_
  refine bj_lconst (pc := 3) (v := 1) d_B_holds_3 (by decide) ?_
  refine bj_land (pc := 4) d_B_holds_4 ?_
  refine bj_lconst (pc := 5) (v := 0) d_B_holds_5 (by decide) ?_
  refine bj_lc_eq (pc := 6) (tgt := 14) d_B_holds_6 d_B_holds_7 (by decide) (fun hc => ?_) (fun hc => ?_)
  · replace hw := hw.1 hc
    refine bj_iconst (pc := 14) (v := 0) d_B_holds_14 (by decide) ?_
    refine bj_sub [] (lo' := []) rfl ?_
    exact m_B_holds_15 hR hw
  · replace hw := hw.2 hc
    refine bj_iconst (pc := 10) (v := 1) d_B_holds_10 (by decide) ?_
    refine bj_goto (pc := 11) (tgt := 15) d_B_holds_11 (by decide) ?_
    refine bj_sub [] (lo' := []) rfl ?_
    exact m_B_holds_15 hR hw
theorem d_M_isPermutation_0 : decode prog_2_method_12_code 0 = .ok (.lconst 0, 1) := by decide +kernel
theorem d_M_isPermutation_1 : decode prog_2_method_12_code 1 = .ok (.lstore_n 1, 1) := by decide +kernel
theorem d_M_isPermutation_2 : decode prog_2_method_12_code 2 = .ok (.iconst 0, 1) := by decide +kernel
theorem d_M_isPermutation_3 : decode prog_2_method_12_code 3 = .ok (.istore_n 3, 1) := by decide +kernel
theorem d_M_isPermutation_4 : decode prog_2_method_12_code 4 = .ok (.iload_n 3, 1) := by decide +kernel
theorem d_M_isPermutation_5 : decode prog_2_method_12_code 5 = .ok (.aload_n 0, 1) := by decide +kernel
theorem d_M_isPermutation_6 : decode prog_2_method_12_code 6 = .ok (.getfield 15, 3) := by decide +kernel
theorem d_M_isPermutation_9 : decode prog_2_method_12_code 9 = .ok (.if_icmp .ge 43, 3) := by decide +kernel
theorem d_M_isPermutation_12 : decode prog_2_method_12_code 12 = .ok (.aload_n 0, 1) := by decide +kernel
theorem d_M_isPermutation_13 : decode prog_2_method_12_code 13 = .ok (.iload_n 3, 1) := by decide +kernel
theorem d_M_isPermutation_14 : decode prog_2_method_12_code 14 = .ok (.invokevirtual 29, 3) := by decide +kernel
theorem d_M_isPermutation_17 : decode prog_2_method_12_code 17 = .ok (.ifCond .eq 16, 3) := by decide +kernel
theorem d_M_isPermutation_20 : decode prog_2_method_12_code 20 = .ok (.lload_n 1, 1) := by decide +kernel
theorem d_M_isPermutation_21 : decode prog_2_method_12_code 21 = .ok (.aload_n 0, 1) := by decide +kernel
theorem d_M_isPermutation_22 : decode prog_2_method_12_code 22 = .ok (.getfield 9, 3) := by decide +kernel
theorem d_M_isPermutation_25 : decode prog_2_method_12_code 25 = .ok (.iload_n 3, 1) := by decide +kernel
theorem d_M_isPermutation_26 : decode prog_2_method_12_code 26 = .ok (.iaload, 1) := by decide +kernel
theorem d_M_isPermutation_27 : decode prog_2_method_12_code 27 = .ok (.invokestatic 32, 3) := by decide +kernel
theorem d_M_isPermutation_30 : decode prog_2_method_12_code 30 = .ok (.ifCond .eq 5, 3) := by decide +kernel
theorem d_M_isPermutation_33 : decode prog_2_method_12_code 33 = .ok (.iconst 0, 1) := by decide +kernel
theorem d_M_isPermutation_34 : decode prog_2_method_12_code 34 = .ok (.ireturn, 1) := by decide +kernel
theorem d_M_isPermutation_35 : decode prog_2_method_12_code 35 = .ok (.lload_n 1, 1) := by decide +kernel
theorem d_M_isPermutation_36 : decode prog_2_method_12_code 36 = .ok (.lconst 1, 1) := by decide +kernel
theorem d_M_isPermutation_37 : decode prog_2_method_12_code 37 = .ok (.aload_n 0, 1) := by decide +kernel
theorem d_M_isPermutation_38 : decode prog_2_method_12_code 38 = .ok (.getfield 9, 3) := by decide +kernel
theorem d_M_isPermutation_41 : decode prog_2_method_12_code 41 = .ok (.iload_n 3, 1) := by decide +kernel
theorem d_M_isPermutation_42 : decode prog_2_method_12_code 42 = .ok (.iaload, 1) := by decide +kernel
theorem d_M_isPermutation_43 : decode prog_2_method_12_code 43 = .ok (.lshl, 1) := by decide +kernel
theorem d_M_isPermutation_44 : decode prog_2_method_12_code 44 = .ok (.lor, 1) := by decide +kernel
theorem d_M_isPermutation_45 : decode prog_2_method_12_code 45 = .ok (.lstore_n 1, 1) := by decide +kernel
theorem d_M_isPermutation_46 : decode prog_2_method_12_code 46 = .ok (.iinc 3 1, 3) := by decide +kernel
theorem d_M_isPermutation_49 : decode prog_2_method_12_code 49 = .ok (.goto (-45), 3) := by decide +kernel
theorem d_M_isPermutation_52 : decode prog_2_method_12_code 52 = .ok (.iconst 1, 1) := by decide +kernel
theorem d_M_isPermutation_53 : decode prog_2_method_12_code 53 = .ok (.ireturn, 1) := by decide +kernel
def w_M_isPermutation_33 (Φ : bs_R → bs_H → Prop) (h : bs_H) : Prop :=
  bs_rZ Φ 0 h
def w_M_isPermutation_4_s (Φ : bs_R → bs_H → Prop) (nx4 : Nat → Int64 → Int32 → bs_H → Prop) (x0 : Nat) (x1 : Int64) (x3 : Int32) (h : bs_H) : Prop :=
  bs_fI h x0 1 1 (fun v1 => bs_if (v1 ≤ x3) (bs_rZ Φ 1 h) (bs_on h x0 1 (w_M_comesFromWord (bs_kI Φ fun v2 h3 => (bs_if (v2 = 0) (w_M_isPermutation_33 Φ h3) (bs_fA h3 x0 1 0 (fun v4 => bs_lI h3 v4 x3 (fun v5 => w_B_holds (bs_kI Φ fun v6 h7 => (bs_if (v6 = 0) (bs_fA h7 x0 1 0 (fun v8 => bs_lI h7 v8 x3 (fun v9 => nx4 x0 (x1 ||| (bs_shl 1 v9)) (x3 + 1) h7))) (w_M_isPermutation_33 Φ h7))) x1 v5 h3))))) x0 x3 h)))
def w_M_isPermutation_4 (Φ : bs_R → bs_H → Prop) : Nat → Nat → Int64 → Int32 → bs_H → Prop
  | 0 => fun _ _ _ _ => False
  | n + 1 => fun x0 x1 x3 h => w_M_isPermutation_4_s Φ (w_M_isPermutation_4 Φ n) x0 x1 x3 h
def w_M_isPermutation (Φ : bs_R → bs_H → Prop) (x0 : Nat) (h : bs_H) : Prop :=
  w_M_isPermutation_4 Φ 1000 x0 0 0 h
theorem m_M_isPermutation_33 {l : Launch} {R : Room} {Φ : bs_R → bs_H → Prop} (hR : bs_rm 2 R) {h : bs_H} (hw : w_M_isPermutation_33 Φ h) : bs_J l K_M_isPermutation R Φ 33 [] [] h := by
  unfold w_M_isPermutation_33 at hw
  refine bj_iconst (pc := 33) (v := 0) d_M_isPermutation_33 (by decide) ?_
  exact bj_zret (pc := 34) d_M_isPermutation_34 rfl hw.1 hw.2
theorem m_M_isPermutation_4 {l : Launch} {R : Room} {Φ : bs_R → bs_H → Prop} (hR : bs_rm 2 R) : ∀ (n : Nat) (x0 : Nat) (x1 : Int64) (x3 : Int32) (h : bs_H), w_M_isPermutation_4 Φ n x0 x1 x3 h → bs_J l K_M_isPermutation R Φ 4 [(0, .ref x0), (1, .long x1), (3, .int x3)] [] h := by
  intro n
  induction n with
  | zero => intro x0 x1 x3 h hw; exact hw.elim
  | succ n ih =>
    have hnx4 := ih
    intro x0 x1 x3 h hw
    replace hw : w_M_isPermutation_4_s Φ (w_M_isPermutation_4 Φ n) x0 x1 x3 h := hw
    unfold w_M_isPermutation_4_s at hw
    refine bj_iload_n (pc := 4) 2 d_M_isPermutation_4 rfl rfl ?_
    refine bj_aload_n (pc := 5) 0 d_M_isPermutation_5 rfl rfl ?_
    obtain ⟨fs, v1, hx, hv, hw⟩ := hw
    refine bj_get (pc := 6) (ci := 1) (k := 1) (fs := fs) (v := .int v1) d_M_isPermutation_6 rfl (by decide) q_79 hx hv ?_
    refine bj_icmp_ge (pc := 9) (tgt := 52) d_M_isPermutation_9 (by decide) (fun hc => ?_) (fun hc => ?_)
    · replace hw := hw.1 hc
      refine bj_iconst (pc := 52) (v := 1) d_M_isPermutation_52 (by decide) ?_
      exact bj_zret (pc := 53) d_M_isPermutation_53 rfl hw.1 hw.2
    · replace hw := hw.2 hc
      refine bj_aload_n (pc := 12) 0 d_M_isPermutation_12 rfl rfl ?_
      refine bj_iload_n (pc := 13) 2 d_M_isPermutation_13 rfl rfl ?_
      obtain ⟨⟨fs, hx⟩, hw⟩ := hw
      refine bj_callV (pc := 14) (np := 1) (K' := K_M_comesFromWord) (argsL := [.int x3]) (st := []) (d1 := 1) (ci := 1) (fs := fs) rfl d_M_isPermutation_14 (Or.inl q_295) q_296 rfl q_297 c_M_comesFromWord n_M_comesFromWord hR (by decide) (by decide) rfl (Nat.le_of_ble_eq_true rfl) rfl (Nat.le_of_ble_eq_true rfl) hx (fun R' hR' => m_M_comesFromWord hR' hw) (bs_kI_ok fun v2 h3 hw => ?_) (fun _ _ z => z)
      refine bj_if_eq (pc := 17) (tgt := 33) d_M_isPermutation_17 (by decide) (fun hc => ?_) (fun hc => ?_)
      · replace hw := hw.1 hc
        refine bj_sub [] (lo' := []) rfl ?_
        exact m_M_isPermutation_33 hR hw
      · replace hw := hw.2 hc
        refine bj_lload_n (pc := 20) 1 d_M_isPermutation_20 rfl rfl ?_
        refine bj_aload_n (pc := 21) 0 d_M_isPermutation_21 rfl rfl ?_
        obtain ⟨fs, v4, hx, hv, hw⟩ := hw
        refine bj_get (pc := 22) (ci := 1) (k := 0) (fs := fs) (v := .ref v4) d_M_isPermutation_22 rfl (by decide) q_78 hx hv ?_
        refine bj_iload_n (pc := 25) 2 d_M_isPermutation_25 rfl rfl ?_
        obtain ⟨n, f, v5, hx, hin, hv, hw⟩ := hw
        refine bj_iald (pc := 26) (n := n) (f := f) d_M_isPermutation_26 hx hin hv ?_
        refine bj_callS (pc := 27) (np := 2) (K' := K_B_holds) (argsL := [.long x1, .int v5]) (st := []) (d1 := 1) rfl d_M_isPermutation_27 (Or.inr ⟨_, q_299⟩) q_277 q_46 c_B_holds n_B_holds hR (by decide) (by decide) rfl (Nat.le_of_ble_eq_true rfl) rfl (Nat.le_of_ble_eq_true rfl) (fun R' hR' => m_B_holds hR' hw) (bs_kI_ok fun v6 h7 hw => ?_) (fun _ _ z => z)
        refine bj_if_eq (pc := 30) (tgt := 35) d_M_isPermutation_30 (by decide) (fun hc => ?_) (fun hc => ?_)
        · replace hw := hw.1 hc
          refine bj_lload_n (pc := 35) 1 d_M_isPermutation_35 rfl rfl ?_
          refine bj_lconst (pc := 36) (v := 1) d_M_isPermutation_36 (by decide) ?_
          refine bj_aload_n (pc := 37) 0 d_M_isPermutation_37 rfl rfl ?_
          obtain ⟨fs, v8, hx, hv, hw⟩ := hw
          refine bj_get (pc := 38) (ci := 1) (k := 0) (fs := fs) (v := .ref v8) d_M_isPermutation_38 rfl (by decide) q_78 hx hv ?_
          refine bj_iload_n (pc := 41) 2 d_M_isPermutation_41 rfl rfl ?_
          obtain ⟨n, f, v9, hx, hin, hv, hw⟩ := hw
          refine bj_iald (pc := 42) (n := n) (f := f) d_M_isPermutation_42 hx hin hv ?_
          refine bj_lshl (pc := 43) d_M_isPermutation_43 ?_
          refine bj_lor (pc := 44) d_M_isPermutation_44 ?_
          refine bj_lstore_n (pc := 45) (lo' := [(1, .long (x1 ||| (bs_shl 1 v9))), (0, .ref x0), (3, .int x3)]) d_M_isPermutation_45 rfl (by decide) rfl ?_
          refine bj_iinc (pc := 46) (v := (x3 + 1)) (lo' := [(3, .int (x3 + 1)), (1, .long (x1 ||| (bs_shl 1 v9))), (0, .ref x0)]) 2 d_M_isPermutation_46 rfl rfl (by decide) rfl ?_
          refine bj_goto (pc := 49) (tgt := 4) d_M_isPermutation_49 (by decide) ?_
          refine bj_sub [2, 1, 0] (lo' := [(0, .ref x0), (1, .long (x1 ||| (bs_shl 1 v9))), (3, .int (x3 + 1))]) rfl ?_
          exact hnx4 _ _ _ _ hw
        · replace hw := hw.2 hc
          refine bj_sub [] (lo' := []) rfl ?_
          exact m_M_isPermutation_33 hR hw
theorem m_M_isPermutation {l : Launch} {R : Room} (hR : bs_rm 2 R) {Φ : bs_R → bs_H → Prop} {x0 : Nat} {h : bs_H} (hw : w_M_isPermutation Φ x0 h) : bs_J l K_M_isPermutation R Φ 0 [(0, .ref x0)] [] h := by
  unfold w_M_isPermutation at hw
  refine bj_lconst (pc := 0) (v := 0) d_M_isPermutation_0 (by decide) ?_
  refine bj_lstore_n (pc := 1) (lo' := [(1, .long 0), (0, .ref x0)]) d_M_isPermutation_1 rfl (by decide) rfl ?_
  refine bj_iconst (pc := 2) (v := 0) d_M_isPermutation_2 (by decide) ?_
  refine bj_istore_n (pc := 3) (lo' := [(3, .int 0), (1, .long 0), (0, .ref x0)]) d_M_isPermutation_3 rfl (by decide) rfl ?_
  refine bj_sub [2, 1, 0] (lo' := [(0, .ref x0), (1, .long 0), (3, .int 0)]) rfl ?_
  exact m_M_isPermutation_4 hR 1000 _ _ _ _ hw
theorem d_M_bits_0 : decode prog_2_method_2_code 0 = .ok (.aload_n 0, 1) := by decide +kernel
theorem d_M_bits_1 : decode prog_2_method_2_code 1 = .ok (.getfield 15, 3) := by decide +kernel
theorem d_M_bits_4 : decode prog_2_method_2_code 4 = .ok (.ireturn, 1) := by decide +kernel
def w_M_bits (Φ : bs_R → bs_H → Prop) (x0 : Nat) (h : bs_H) : Prop :=
  bs_fI h x0 1 1 (fun v1 => Φ (.ok (some (.int v1))) h)
theorem m_M_bits {l : Launch} {R : Room} (hR : bs_rm 1 R) {Φ : bs_R → bs_H → Prop} {x0 : Nat} {h : bs_H} (hw : w_M_bits Φ x0 h) : bs_J l K_M_bits R Φ 0 [(0, .ref x0)] [] h := by
  unfold w_M_bits at hw
  refine bj_aload_n (pc := 0) 0 d_M_bits_0 rfl rfl ?_
  obtain ⟨fs, v1, hx, hv, hw⟩ := hw
  refine bj_get (pc := 1) (ci := 1) (k := 1) (fs := fs) (v := .int v1) d_M_bits_1 rfl (by decide) q_79 hx hv ?_
  exact bj_iret (pc := 4) d_M_bits_4 rfl hw
theorem d_JI_bitCount_0 : decode prog_14_method_49_code 0 = .ok (.iload_n 0, 1) := by decide +kernel
theorem d_JI_bitCount_1 : decode prog_14_method_49_code 1 = .ok (.iload_n 0, 1) := by decide +kernel
theorem d_JI_bitCount_2 : decode prog_14_method_49_code 2 = .ok (.iconst 1, 1) := by decide +kernel
theorem d_JI_bitCount_3 : decode prog_14_method_49_code 3 = .ok (.iushr, 1) := by decide +kernel
theorem d_JI_bitCount_4 : decode prog_14_method_49_code 4 = .ok (.ldc_w 265, 3) := by decide +kernel
theorem d_JI_bitCount_7 : decode prog_14_method_49_code 7 = .ok (.iand, 1) := by decide +kernel
theorem d_JI_bitCount_8 : decode prog_14_method_49_code 8 = .ok (.isub, 1) := by decide +kernel
theorem d_JI_bitCount_9 : decode prog_14_method_49_code 9 = .ok (.istore_n 0, 1) := by decide +kernel
theorem d_JI_bitCount_10 : decode prog_14_method_49_code 10 = .ok (.iload_n 0, 1) := by decide +kernel
theorem d_JI_bitCount_11 : decode prog_14_method_49_code 11 = .ok (.ldc_w 266, 3) := by decide +kernel
theorem d_JI_bitCount_14 : decode prog_14_method_49_code 14 = .ok (.iand, 1) := by decide +kernel
theorem d_JI_bitCount_15 : decode prog_14_method_49_code 15 = .ok (.iload_n 0, 1) := by decide +kernel
theorem d_JI_bitCount_16 : decode prog_14_method_49_code 16 = .ok (.iconst 2, 1) := by decide +kernel
theorem d_JI_bitCount_17 : decode prog_14_method_49_code 17 = .ok (.iushr, 1) := by decide +kernel
theorem d_JI_bitCount_18 : decode prog_14_method_49_code 18 = .ok (.ldc_w 266, 3) := by decide +kernel
theorem d_JI_bitCount_21 : decode prog_14_method_49_code 21 = .ok (.iand, 1) := by decide +kernel
theorem d_JI_bitCount_22 : decode prog_14_method_49_code 22 = .ok (.iadd, 1) := by decide +kernel
theorem d_JI_bitCount_23 : decode prog_14_method_49_code 23 = .ok (.istore_n 0, 1) := by decide +kernel
theorem d_JI_bitCount_24 : decode prog_14_method_49_code 24 = .ok (.iload_n 0, 1) := by decide +kernel
theorem d_JI_bitCount_25 : decode prog_14_method_49_code 25 = .ok (.iload_n 0, 1) := by decide +kernel
theorem d_JI_bitCount_26 : decode prog_14_method_49_code 26 = .ok (.iconst 4, 1) := by decide +kernel
theorem d_JI_bitCount_27 : decode prog_14_method_49_code 27 = .ok (.iushr, 1) := by decide +kernel
theorem d_JI_bitCount_28 : decode prog_14_method_49_code 28 = .ok (.iadd, 1) := by decide +kernel
theorem d_JI_bitCount_29 : decode prog_14_method_49_code 29 = .ok (.ldc_w 267, 3) := by decide +kernel
theorem d_JI_bitCount_32 : decode prog_14_method_49_code 32 = .ok (.iand, 1) := by decide +kernel
theorem d_JI_bitCount_33 : decode prog_14_method_49_code 33 = .ok (.istore_n 0, 1) := by decide +kernel
theorem d_JI_bitCount_34 : decode prog_14_method_49_code 34 = .ok (.iload_n 0, 1) := by decide +kernel
theorem d_JI_bitCount_35 : decode prog_14_method_49_code 35 = .ok (.iload_n 0, 1) := by decide +kernel
theorem d_JI_bitCount_36 : decode prog_14_method_49_code 36 = .ok (.bipush 8, 2) := by decide +kernel
theorem d_JI_bitCount_38 : decode prog_14_method_49_code 38 = .ok (.iushr, 1) := by decide +kernel
theorem d_JI_bitCount_39 : decode prog_14_method_49_code 39 = .ok (.iadd, 1) := by decide +kernel
theorem d_JI_bitCount_40 : decode prog_14_method_49_code 40 = .ok (.istore_n 0, 1) := by decide +kernel
theorem d_JI_bitCount_41 : decode prog_14_method_49_code 41 = .ok (.iload_n 0, 1) := by decide +kernel
theorem d_JI_bitCount_42 : decode prog_14_method_49_code 42 = .ok (.iload_n 0, 1) := by decide +kernel
theorem d_JI_bitCount_43 : decode prog_14_method_49_code 43 = .ok (.bipush 16, 2) := by decide +kernel
theorem d_JI_bitCount_45 : decode prog_14_method_49_code 45 = .ok (.iushr, 1) := by decide +kernel
theorem d_JI_bitCount_46 : decode prog_14_method_49_code 46 = .ok (.iadd, 1) := by decide +kernel
theorem d_JI_bitCount_47 : decode prog_14_method_49_code 47 = .ok (.istore_n 0, 1) := by decide +kernel
theorem d_JI_bitCount_48 : decode prog_14_method_49_code 48 = .ok (.iload_n 0, 1) := by decide +kernel
theorem d_JI_bitCount_49 : decode prog_14_method_49_code 49 = .ok (.bipush 63, 2) := by decide +kernel
theorem d_JI_bitCount_51 : decode prog_14_method_49_code 51 = .ok (.iand, 1) := by decide +kernel
theorem d_JI_bitCount_52 : decode prog_14_method_49_code 52 = .ok (.ireturn, 1) := by decide +kernel
def w_JI_bitCount (Φ : bs_R → bs_H → Prop) (x0 : Int32) (h : bs_H) : Prop :=
  Φ (.ok (some (.int ((((((((x0 - ((bs_iushr x0 1) &&& 1431655765)) &&& 858993459) + ((bs_iushr (x0 - ((bs_iushr x0 1) &&& 1431655765)) 2) &&& 858993459)) + (bs_iushr (((x0 - ((bs_iushr x0 1) &&& 1431655765)) &&& 858993459) + ((bs_iushr (x0 - ((bs_iushr x0 1) &&& 1431655765)) 2) &&& 858993459)) 4)) &&& 252645135) + (bs_iushr (((((x0 - ((bs_iushr x0 1) &&& 1431655765)) &&& 858993459) + ((bs_iushr (x0 - ((bs_iushr x0 1) &&& 1431655765)) 2) &&& 858993459)) + (bs_iushr (((x0 - ((bs_iushr x0 1) &&& 1431655765)) &&& 858993459) + ((bs_iushr (x0 - ((bs_iushr x0 1) &&& 1431655765)) 2) &&& 858993459)) 4)) &&& 252645135) 8)) + (bs_iushr ((((((x0 - ((bs_iushr x0 1) &&& 1431655765)) &&& 858993459) + ((bs_iushr (x0 - ((bs_iushr x0 1) &&& 1431655765)) 2) &&& 858993459)) + (bs_iushr (((x0 - ((bs_iushr x0 1) &&& 1431655765)) &&& 858993459) + ((bs_iushr (x0 - ((bs_iushr x0 1) &&& 1431655765)) 2) &&& 858993459)) 4)) &&& 252645135) + (bs_iushr (((((x0 - ((bs_iushr x0 1) &&& 1431655765)) &&& 858993459) + ((bs_iushr (x0 - ((bs_iushr x0 1) &&& 1431655765)) 2) &&& 858993459)) + (bs_iushr (((x0 - ((bs_iushr x0 1) &&& 1431655765)) &&& 858993459) + ((bs_iushr (x0 - ((bs_iushr x0 1) &&& 1431655765)) 2) &&& 858993459)) 4)) &&& 252645135) 8)) 16)) &&& 63)))) h
theorem m_JI_bitCount {l : Launch} {R : Room} (hR : bs_rm 1 R) {Φ : bs_R → bs_H → Prop} {x0 : Int32} {h : bs_H} (hw : w_JI_bitCount Φ x0 h) : bs_J l K_JI_bitCount R Φ 0 [(0, .int x0)] [] h := by
  unfold w_JI_bitCount at hw
  refine bj_iload_n (pc := 0) 0 d_JI_bitCount_0 rfl rfl ?_
  refine bj_iload_n (pc := 1) 0 d_JI_bitCount_1 rfl rfl ?_
  refine bj_iconst (pc := 2) (v := 1) d_JI_bitCount_2 (by decide) ?_
  refine bj_iushr (pc := 3) d_JI_bitCount_3 ?_
  refine bj_ldcw (pc := 4) (v := 1431655765) d_JI_bitCount_4 q_498 ?_
  refine bj_iand (pc := 7) d_JI_bitCount_7 ?_
  refine bj_isub (pc := 8) d_JI_bitCount_8 ?_
  refine bj_istore_n (pc := 9) (lo' := [(0, .int (x0 - ((bs_iushr x0 1) &&& 1431655765)))]) d_JI_bitCount_9 rfl (by decide) rfl ?_
  refine bj_iload_n (pc := 10) 0 d_JI_bitCount_10 rfl rfl ?_
  refine bj_ldcw (pc := 11) (v := 858993459) d_JI_bitCount_11 q_499 ?_
  refine bj_iand (pc := 14) d_JI_bitCount_14 ?_
  refine bj_iload_n (pc := 15) 0 d_JI_bitCount_15 rfl rfl ?_
  refine bj_iconst (pc := 16) (v := 2) d_JI_bitCount_16 (by decide) ?_
  refine bj_iushr (pc := 17) d_JI_bitCount_17 ?_
  refine bj_ldcw (pc := 18) (v := 858993459) d_JI_bitCount_18 q_499 ?_
  refine bj_iand (pc := 21) d_JI_bitCount_21 ?_
  refine bj_iadd (pc := 22) d_JI_bitCount_22 ?_
  refine bj_istore_n (pc := 23) (lo' := [(0, .int (((x0 - ((bs_iushr x0 1) &&& 1431655765)) &&& 858993459) + ((bs_iushr (x0 - ((bs_iushr x0 1) &&& 1431655765)) 2) &&& 858993459)))]) d_JI_bitCount_23 rfl (by decide) rfl ?_
  refine bj_iload_n (pc := 24) 0 d_JI_bitCount_24 rfl rfl ?_
  refine bj_iload_n (pc := 25) 0 d_JI_bitCount_25 rfl rfl ?_
  refine bj_iconst (pc := 26) (v := 4) d_JI_bitCount_26 (by decide) ?_
  refine bj_iushr (pc := 27) d_JI_bitCount_27 ?_
  refine bj_iadd (pc := 28) d_JI_bitCount_28 ?_
  refine bj_ldcw (pc := 29) (v := 252645135) d_JI_bitCount_29 q_500 ?_
  refine bj_iand (pc := 32) d_JI_bitCount_32 ?_
  refine bj_istore_n (pc := 33) (lo' := [(0, .int (((((x0 - ((bs_iushr x0 1) &&& 1431655765)) &&& 858993459) + ((bs_iushr (x0 - ((bs_iushr x0 1) &&& 1431655765)) 2) &&& 858993459)) + (bs_iushr (((x0 - ((bs_iushr x0 1) &&& 1431655765)) &&& 858993459) + ((bs_iushr (x0 - ((bs_iushr x0 1) &&& 1431655765)) 2) &&& 858993459)) 4)) &&& 252645135))]) d_JI_bitCount_33 rfl (by decide) rfl ?_
  refine bj_iload_n (pc := 34) 0 d_JI_bitCount_34 rfl rfl ?_
  refine bj_iload_n (pc := 35) 0 d_JI_bitCount_35 rfl rfl ?_
  refine bj_bipush (pc := 36) (v := 8) d_JI_bitCount_36 (by decide) ?_
  refine bj_iushr (pc := 38) d_JI_bitCount_38 ?_
  refine bj_iadd (pc := 39) d_JI_bitCount_39 ?_
  refine bj_istore_n (pc := 40) (lo' := [(0, .int ((((((x0 - ((bs_iushr x0 1) &&& 1431655765)) &&& 858993459) + ((bs_iushr (x0 - ((bs_iushr x0 1) &&& 1431655765)) 2) &&& 858993459)) + (bs_iushr (((x0 - ((bs_iushr x0 1) &&& 1431655765)) &&& 858993459) + ((bs_iushr (x0 - ((bs_iushr x0 1) &&& 1431655765)) 2) &&& 858993459)) 4)) &&& 252645135) + (bs_iushr (((((x0 - ((bs_iushr x0 1) &&& 1431655765)) &&& 858993459) + ((bs_iushr (x0 - ((bs_iushr x0 1) &&& 1431655765)) 2) &&& 858993459)) + (bs_iushr (((x0 - ((bs_iushr x0 1) &&& 1431655765)) &&& 858993459) + ((bs_iushr (x0 - ((bs_iushr x0 1) &&& 1431655765)) 2) &&& 858993459)) 4)) &&& 252645135) 8)))]) d_JI_bitCount_40 rfl (by decide) rfl ?_
  refine bj_iload_n (pc := 41) 0 d_JI_bitCount_41 rfl rfl ?_
  refine bj_iload_n (pc := 42) 0 d_JI_bitCount_42 rfl rfl ?_
  refine bj_bipush (pc := 43) (v := 16) d_JI_bitCount_43 (by decide) ?_
  refine bj_iushr (pc := 45) d_JI_bitCount_45 ?_
  refine bj_iadd (pc := 46) d_JI_bitCount_46 ?_
  refine bj_istore_n (pc := 47) (lo' := [(0, .int (((((((x0 - ((bs_iushr x0 1) &&& 1431655765)) &&& 858993459) + ((bs_iushr (x0 - ((bs_iushr x0 1) &&& 1431655765)) 2) &&& 858993459)) + (bs_iushr (((x0 - ((bs_iushr x0 1) &&& 1431655765)) &&& 858993459) + ((bs_iushr (x0 - ((bs_iushr x0 1) &&& 1431655765)) 2) &&& 858993459)) 4)) &&& 252645135) + (bs_iushr (((((x0 - ((bs_iushr x0 1) &&& 1431655765)) &&& 858993459) + ((bs_iushr (x0 - ((bs_iushr x0 1) &&& 1431655765)) 2) &&& 858993459)) + (bs_iushr (((x0 - ((bs_iushr x0 1) &&& 1431655765)) &&& 858993459) + ((bs_iushr (x0 - ((bs_iushr x0 1) &&& 1431655765)) 2) &&& 858993459)) 4)) &&& 252645135) 8)) + (bs_iushr ((((((x0 - ((bs_iushr x0 1) &&& 1431655765)) &&& 858993459) + ((bs_iushr (x0 - ((bs_iushr x0 1) &&& 1431655765)) 2) &&& 858993459)) + (bs_iushr (((x0 - ((bs_iushr x0 1) &&& 1431655765)) &&& 858993459) + ((bs_iushr (x0 - ((bs_iushr x0 1) &&& 1431655765)) 2) &&& 858993459)) 4)) &&& 252645135) + (bs_iushr (((((x0 - ((bs_iushr x0 1) &&& 1431655765)) &&& 858993459) + ((bs_iushr (x0 - ((bs_iushr x0 1) &&& 1431655765)) 2) &&& 858993459)) + (bs_iushr (((x0 - ((bs_iushr x0 1) &&& 1431655765)) &&& 858993459) + ((bs_iushr (x0 - ((bs_iushr x0 1) &&& 1431655765)) 2) &&& 858993459)) 4)) &&& 252645135) 8)) 16)))]) d_JI_bitCount_47 rfl (by decide) rfl ?_
  refine bj_iload_n (pc := 48) 0 d_JI_bitCount_48 rfl rfl ?_
  refine bj_bipush (pc := 49) (v := 63) d_JI_bitCount_49 (by decide) ?_
  refine bj_iand (pc := 51) d_JI_bitCount_51 ?_
  exact bj_iret (pc := 52) d_JI_bitCount_52 rfl hw
theorem d_B_isPowerOfTwo_0 : decode prog_1_method_32_code 0 = .ok (.iload_n 0, 1) := by decide +kernel
theorem d_B_isPowerOfTwo_1 : decode prog_1_method_32_code 1 = .ok (.invokestatic 230, 3) := by decide +kernel
theorem d_B_isPowerOfTwo_4 : decode prog_1_method_32_code 4 = .ok (.iconst 1, 1) := by decide +kernel
theorem d_B_isPowerOfTwo_5 : decode prog_1_method_32_code 5 = .ok (.if_icmp .ne 7, 3) := by decide +kernel
theorem d_B_isPowerOfTwo_8 : decode prog_1_method_32_code 8 = .ok (.iconst 1, 1) := by decide +kernel
theorem d_B_isPowerOfTwo_9 : decode prog_1_method_32_code 9 = .ok (.goto 4, 3) := by decide +kernel
theorem d_B_isPowerOfTwo_12 : decode prog_1_method_32_code 12 = .ok (.iconst 0, 1) := by decide +kernel
theorem d_B_isPowerOfTwo_13 : decode prog_1_method_32_code 13 = .ok (.ireturn, 1) := by decide +kernel
def w_B_isPowerOfTwo_13 (Φ : bs_R → bs_H → Prop) (s0 : Int32) (h : bs_H) : Prop :=
  bs_rZ Φ s0 h
def w_B_isPowerOfTwo (Φ : bs_R → bs_H → Prop) (x0 : Int32) (h : bs_H) : Prop :=
  w_JI_bitCount (bs_kI Φ fun v1 h2 => (bs_if (v1 = 1) (w_B_isPowerOfTwo_13 Φ 1 h2) (w_B_isPowerOfTwo_13 Φ 0 h2))) x0 h
theorem m_B_isPowerOfTwo_13 {l : Launch} {R : Room} {Φ : bs_R → bs_H → Prop} (hR : bs_rm 2 R) {s0 : Int32} {h : bs_H} (hw : w_B_isPowerOfTwo_13 Φ s0 h) : bs_J l K_B_isPowerOfTwo R Φ 13 [] [.int s0] h := by
  unfold w_B_isPowerOfTwo_13 at hw
  exact bj_zret (pc := 13) d_B_isPowerOfTwo_13 rfl hw.1 hw.2
theorem m_B_isPowerOfTwo {l : Launch} {R : Room} (hR : bs_rm 2 R) {Φ : bs_R → bs_H → Prop} {x0 : Int32} {h : bs_H} (hw : w_B_isPowerOfTwo Φ x0 h) : bs_J l K_B_isPowerOfTwo R Φ 0 [(0, .int x0)] [] h := by
  unfold w_B_isPowerOfTwo at hw
  refine bj_iload_n (pc := 0) 0 d_B_isPowerOfTwo_0 rfl rfl ?_
  refine bj_callS (pc := 1) (np := 1) (K' := K_JI_bitCount) (argsL := [.int x0]) (st := []) (d1 := 1) rfl d_B_isPowerOfTwo_1 (Or.inl q_495) q_496 q_58 c_JI_bitCount n_JI_bitCount hR (by decide) (by decide) rfl (Nat.le_of_ble_eq_true rfl) rfl (Nat.le_of_ble_eq_true rfl) (fun R' hR' => m_JI_bitCount hR' hw) (bs_kI_ok fun v1 h2 hw => ?_) (fun _ _ z => z)
  refine bj_iconst (pc := 4) (v := 1) d_B_isPowerOfTwo_4 (by decide) ?_
  refine bj_icmp_ne (pc := 5) (tgt := 12) d_B_isPowerOfTwo_5 (by decide) (fun hc => ?_) (fun hc => ?_)
  · replace hw := hw.2 hc
    refine bj_iconst (pc := 12) (v := 0) d_B_isPowerOfTwo_12 (by decide) ?_
    refine bj_sub [] (lo' := []) rfl ?_
    exact m_B_isPowerOfTwo_13 hR hw
  · replace hw := hw.1 hc
    refine bj_iconst (pc := 8) (v := 1) d_B_isPowerOfTwo_8 (by decide) ?_
    refine bj_goto (pc := 9) (tgt := 13) d_B_isPowerOfTwo_9 (by decide) ?_
    refine bj_sub [] (lo' := []) rfl ?_
    exact m_B_isPowerOfTwo_13 hR hw
theorem d_M_bitsShifted_0 : decode prog_2_method_15_code 0 = .ok (.lconst 0, 1) := by decide +kernel
theorem d_M_bitsShifted_1 : decode prog_2_method_15_code 1 = .ok (.lstore_n 2, 1) := by decide +kernel
theorem d_M_bitsShifted_2 : decode prog_2_method_15_code 2 = .ok (.iconst 0, 1) := by decide +kernel
theorem d_M_bitsShifted_3 : decode prog_2_method_15_code 3 = .ok (.istore 4, 2) := by decide +kernel
theorem d_M_bitsShifted_5 : decode prog_2_method_15_code 5 = .ok (.iload 4, 2) := by decide +kernel
theorem d_M_bitsShifted_7 : decode prog_2_method_15_code 7 = .ok (.aload_n 0, 1) := by decide +kernel
theorem d_M_bitsShifted_8 : decode prog_2_method_15_code 8 = .ok (.getfield 15, 3) := by decide +kernel
theorem d_M_bitsShifted_11 : decode prog_2_method_15_code 11 = .ok (.if_icmp .ge 39, 3) := by decide +kernel
theorem d_M_bitsShifted_14 : decode prog_2_method_15_code 14 = .ok (.aload_n 0, 1) := by decide +kernel
theorem d_M_bitsShifted_15 : decode prog_2_method_15_code 15 = .ok (.iload 4, 2) := by decide +kernel
theorem d_M_bitsShifted_17 : decode prog_2_method_15_code 17 = .ok (.invokevirtual 29, 3) := by decide +kernel
theorem d_M_bitsShifted_20 : decode prog_2_method_15_code 20 = .ok (.ifCond .eq 24, 3) := by decide +kernel
theorem d_M_bitsShifted_23 : decode prog_2_method_15_code 23 = .ok (.iload 4, 2) := by decide +kernel
theorem d_M_bitsShifted_25 : decode prog_2_method_15_code 25 = .ok (.aload_n 0, 1) := by decide +kernel
theorem d_M_bitsShifted_26 : decode prog_2_method_15_code 26 = .ok (.getfield 9, 3) := by decide +kernel
theorem d_M_bitsShifted_29 : decode prog_2_method_15_code 29 = .ok (.iload 4, 2) := by decide +kernel
theorem d_M_bitsShifted_31 : decode prog_2_method_15_code 31 = .ok (.iaload, 1) := by decide +kernel
theorem d_M_bitsShifted_32 : decode prog_2_method_15_code 32 = .ok (.isub, 1) := by decide +kernel
theorem d_M_bitsShifted_33 : decode prog_2_method_15_code 33 = .ok (.iload_n 1, 1) := by decide +kernel
theorem d_M_bitsShifted_34 : decode prog_2_method_15_code 34 = .ok (.if_icmp .ne 10, 3) := by decide +kernel
theorem d_M_bitsShifted_37 : decode prog_2_method_15_code 37 = .ok (.lload_n 2, 1) := by decide +kernel
theorem d_M_bitsShifted_38 : decode prog_2_method_15_code 38 = .ok (.lconst 1, 1) := by decide +kernel
theorem d_M_bitsShifted_39 : decode prog_2_method_15_code 39 = .ok (.iload 4, 2) := by decide +kernel
theorem d_M_bitsShifted_41 : decode prog_2_method_15_code 41 = .ok (.lshl, 1) := by decide +kernel
theorem d_M_bitsShifted_42 : decode prog_2_method_15_code 42 = .ok (.lor, 1) := by decide +kernel
theorem d_M_bitsShifted_43 : decode prog_2_method_15_code 43 = .ok (.lstore_n 2, 1) := by decide +kernel
theorem d_M_bitsShifted_44 : decode prog_2_method_15_code 44 = .ok (.iinc 4 1, 3) := by decide +kernel
theorem d_M_bitsShifted_47 : decode prog_2_method_15_code 47 = .ok (.goto (-42), 3) := by decide +kernel
theorem d_M_bitsShifted_50 : decode prog_2_method_15_code 50 = .ok (.lload_n 2, 1) := by decide +kernel
theorem d_M_bitsShifted_51 : decode prog_2_method_15_code 51 = .ok (.lreturn, 1) := by decide +kernel
def w_M_bitsShifted_44 (Φ : bs_R → bs_H → Prop) (nx5 : Nat → Int32 → Int64 → Int32 → bs_H → Prop) (x0 : Nat) (x1 : Int32) (x2 : Int64) (x4 : Int32) (h : bs_H) : Prop :=
  nx5 x0 x1 x2 (x4 + 1) h
def w_M_bitsShifted_5_s (Φ : bs_R → bs_H → Prop) (nx5 : Nat → Int32 → Int64 → Int32 → bs_H → Prop) (x0 : Nat) (x1 : Int32) (x2 : Int64) (x4 : Int32) (h : bs_H) : Prop :=
  bs_fI h x0 1 1 (fun v1 => bs_if (v1 ≤ x4) (Φ (.ok (some (.long x2))) h) (bs_on h x0 1 (w_M_comesFromWord (bs_kI Φ fun v2 h3 => (bs_if (v2 = 0) (w_M_bitsShifted_44 Φ nx5 x0 x1 x2 x4 h3) (bs_fA h3 x0 1 0 (fun v4 => bs_lI h3 v4 x4 (fun v5 => bs_if ((x4 - v5) = x1) (w_M_bitsShifted_44 Φ nx5 x0 x1 (x2 ||| (bs_shl 1 x4)) x4 h3) (w_M_bitsShifted_44 Φ nx5 x0 x1 x2 x4 h3)))))) x0 x4 h)))
def w_M_bitsShifted_5 (Φ : bs_R → bs_H → Prop) : Nat → Nat → Int32 → Int64 → Int32 → bs_H → Prop
  | 0 => fun _ _ _ _ _ => False
  | n + 1 => fun x0 x1 x2 x4 h => w_M_bitsShifted_5_s Φ (w_M_bitsShifted_5 Φ n) x0 x1 x2 x4 h
def w_M_bitsShifted (Φ : bs_R → bs_H → Prop) (x0 : Nat) (x1 : Int32) (h : bs_H) : Prop :=
  w_M_bitsShifted_5 Φ 1000 x0 x1 0 0 h
theorem m_M_bitsShifted_44 {l : Launch} {R : Room} {Φ : bs_R → bs_H → Prop} (hR : bs_rm 2 R) {nx5 : Nat → Int32 → Int64 → Int32 → bs_H → Prop} (hnx5 : ∀ (x0 : Nat) (x1 : Int32) (x2 : Int64) (x4 : Int32) (h : bs_H), nx5 x0 x1 x2 x4 h → bs_J l K_M_bitsShifted R Φ 5 [(0, .ref x0), (1, .int x1), (2, .long x2), (4, .int x4)] [] h) {x0 : Nat} {x1 : Int32} {x2 : Int64} {x4 : Int32} {h : bs_H} (hw : w_M_bitsShifted_44 Φ nx5 x0 x1 x2 x4 h) : bs_J l K_M_bitsShifted R Φ 44 [(0, .ref x0), (1, .int x1), (2, .long x2), (4, .int x4)] [] h := by
  unfold w_M_bitsShifted_44 at hw
  refine bj_iinc (pc := 44) (v := (x4 + 1)) (lo' := [(4, .int (x4 + 1)), (0, .ref x0), (1, .int x1), (2, .long x2)]) 3 d_M_bitsShifted_44 rfl rfl (by decide) rfl ?_
  refine bj_goto (pc := 47) (tgt := 5) d_M_bitsShifted_47 (by decide) ?_
  refine bj_sub [1, 2, 3, 0] (lo' := [(0, .ref x0), (1, .int x1), (2, .long x2), (4, .int (x4 + 1))]) rfl ?_
  exact hnx5 _ _ _ _ _ hw
theorem m_M_bitsShifted_5 {l : Launch} {R : Room} {Φ : bs_R → bs_H → Prop} (hR : bs_rm 2 R) : ∀ (n : Nat) (x0 : Nat) (x1 : Int32) (x2 : Int64) (x4 : Int32) (h : bs_H), w_M_bitsShifted_5 Φ n x0 x1 x2 x4 h → bs_J l K_M_bitsShifted R Φ 5 [(0, .ref x0), (1, .int x1), (2, .long x2), (4, .int x4)] [] h := by
  intro n
  induction n with
  | zero => intro x0 x1 x2 x4 h hw; exact hw.elim
  | succ n ih =>
    have hnx5 := ih
    intro x0 x1 x2 x4 h hw
    replace hw : w_M_bitsShifted_5_s Φ (w_M_bitsShifted_5 Φ n) x0 x1 x2 x4 h := hw
    unfold w_M_bitsShifted_5_s at hw
    refine bj_iload (pc := 5) 3 d_M_bitsShifted_5 rfl ?_
    refine bj_aload_n (pc := 7) 0 d_M_bitsShifted_7 rfl rfl ?_
    obtain ⟨fs, v1, hx, hv, hw⟩ := hw
    refine bj_get (pc := 8) (ci := 1) (k := 1) (fs := fs) (v := .int v1) d_M_bitsShifted_8 rfl (by decide) q_79 hx hv ?_
    refine bj_icmp_ge (pc := 11) (tgt := 50) d_M_bitsShifted_11 (by decide) (fun hc => ?_) (fun hc => ?_)
    · replace hw := hw.1 hc
      refine bj_lload_n (pc := 50) 2 d_M_bitsShifted_50 rfl rfl ?_
      exact bj_lret (pc := 51) d_M_bitsShifted_51 rfl hw
    · replace hw := hw.2 hc
      refine bj_aload_n (pc := 14) 0 d_M_bitsShifted_14 rfl rfl ?_
      refine bj_iload (pc := 15) 3 d_M_bitsShifted_15 rfl ?_
      obtain ⟨⟨fs, hx⟩, hw⟩ := hw
      refine bj_callV (pc := 17) (np := 1) (K' := K_M_comesFromWord) (argsL := [.int x4]) (st := []) (d1 := 1) (ci := 1) (fs := fs) rfl d_M_bitsShifted_17 (Or.inl q_295) q_296 rfl q_297 c_M_comesFromWord n_M_comesFromWord hR (by decide) (by decide) rfl (Nat.le_of_ble_eq_true rfl) rfl (Nat.le_of_ble_eq_true rfl) hx (fun R' hR' => m_M_comesFromWord hR' hw) (bs_kI_ok fun v2 h3 hw => ?_) (fun _ _ z => z)
      refine bj_if_eq (pc := 20) (tgt := 44) d_M_bitsShifted_20 (by decide) (fun hc => ?_) (fun hc => ?_)
      · replace hw := hw.1 hc
        exact m_M_bitsShifted_44 hR hnx5 hw
      · replace hw := hw.2 hc
        refine bj_iload (pc := 23) 3 d_M_bitsShifted_23 rfl ?_
        refine bj_aload_n (pc := 25) 0 d_M_bitsShifted_25 rfl rfl ?_
        obtain ⟨fs, v4, hx, hv, hw⟩ := hw
        refine bj_get (pc := 26) (ci := 1) (k := 0) (fs := fs) (v := .ref v4) d_M_bitsShifted_26 rfl (by decide) q_78 hx hv ?_
        refine bj_iload (pc := 29) 3 d_M_bitsShifted_29 rfl ?_
        obtain ⟨n, f, v5, hx, hin, hv, hw⟩ := hw
        refine bj_iald (pc := 31) (n := n) (f := f) d_M_bitsShifted_31 hx hin hv ?_
        refine bj_isub (pc := 32) d_M_bitsShifted_32 ?_
        refine bj_iload_n (pc := 33) 1 d_M_bitsShifted_33 rfl rfl ?_
        refine bj_icmp_ne (pc := 34) (tgt := 44) d_M_bitsShifted_34 (by decide) (fun hc => ?_) (fun hc => ?_)
        · replace hw := hw.2 hc
          exact m_M_bitsShifted_44 hR hnx5 hw
        · replace hw := hw.1 hc
          refine bj_lload_n (pc := 37) 2 d_M_bitsShifted_37 rfl rfl ?_
          refine bj_lconst (pc := 38) (v := 1) d_M_bitsShifted_38 (by decide) ?_
          refine bj_iload (pc := 39) 3 d_M_bitsShifted_39 rfl ?_
          refine bj_lshl (pc := 41) d_M_bitsShifted_41 ?_
          refine bj_lor (pc := 42) d_M_bitsShifted_42 ?_
          refine bj_lstore_n (pc := 43) (lo' := [(2, .long (x2 ||| (bs_shl 1 x4))), (0, .ref x0), (1, .int x1), (4, .int x4)]) d_M_bitsShifted_43 rfl (by decide) rfl ?_
          refine bj_sub [1, 2, 0, 3] (lo' := [(0, .ref x0), (1, .int x1), (2, .long (x2 ||| (bs_shl 1 x4))), (4, .int x4)]) rfl ?_
          exact m_M_bitsShifted_44 hR hnx5 hw
theorem m_M_bitsShifted {l : Launch} {R : Room} (hR : bs_rm 2 R) {Φ : bs_R → bs_H → Prop} {x0 : Nat} {x1 : Int32} {h : bs_H} (hw : w_M_bitsShifted Φ x0 x1 h) : bs_J l K_M_bitsShifted R Φ 0 [(0, .ref x0), (1, .int x1)] [] h := by
  unfold w_M_bitsShifted at hw
  refine bj_lconst (pc := 0) (v := 0) d_M_bitsShifted_0 (by decide) ?_
  refine bj_lstore_n (pc := 1) (lo' := [(2, .long 0), (0, .ref x0), (1, .int x1)]) d_M_bitsShifted_1 rfl (by decide) rfl ?_
  refine bj_iconst (pc := 2) (v := 0) d_M_bitsShifted_2 (by decide) ?_
  refine bj_istore (pc := 3) (lo' := [(4, .int 0), (2, .long 0), (0, .ref x0), (1, .int x1)]) d_M_bitsShifted_3 (by decide) rfl ?_
  refine bj_sub [2, 3, 1, 0] (lo' := [(0, .ref x0), (1, .int x1), (2, .long 0), (4, .int 0)]) rfl ?_
  exact m_M_bitsShifted_5 hR 1000 _ _ _ _ _ hw
theorem d_P_change_0 : decode prog_4_method_7_code 0 = .ok (.aload_n 0, 1) := by decide +kernel
theorem d_P_change_1 : decode prog_4_method_7_code 1 = .ok (.getfield 15, 3) := by decide +kernel
theorem d_P_change_4 : decode prog_4_method_7_code 4 = .ok (.iload_n 1, 1) := by decide +kernel
theorem d_P_change_5 : decode prog_4_method_7_code 5 = .ok (.iload_n 2, 1) := by decide +kernel
theorem d_P_change_6 : decode prog_4_method_7_code 6 = .ok (.iastore, 1) := by decide +kernel
theorem d_P_change_7 : decode prog_4_method_7_code 7 = .ok (.aload_n 0, 1) := by decide +kernel
theorem d_P_change_8 : decode prog_4_method_7_code 8 = .ok (.getfield 18, 3) := by decide +kernel
theorem d_P_change_11 : decode prog_4_method_7_code 11 = .ok (.iload_n 1, 1) := by decide +kernel
theorem d_P_change_12 : decode prog_4_method_7_code 12 = .ok (.lload_n 3, 1) := by decide +kernel
theorem d_P_change_13 : decode prog_4_method_7_code 13 = .ok (.lastore, 1) := by decide +kernel
theorem d_P_change_14 : decode prog_4_method_7_code 14 = .ok (.return_, 1) := by decide +kernel
def w_P_change (Φ : bs_R → bs_H → Prop) (x0 : Nat) (x1 : Int32) (x2 : Int32) (x3 : Int64) (h : bs_H) : Prop :=
  bs_fA h x0 2 1 (fun v1 => bs_sI h v1 x1 x2 (fun h2 => bs_fA h2 x0 2 2 (fun v3 => bs_sL h2 v3 x1 x3 (fun h4 => Φ (.ok none) h4))))
theorem m_P_change {l : Launch} {R : Room} (hR : bs_rm 1 R) {Φ : bs_R → bs_H → Prop} {x0 : Nat} {x1 : Int32} {x2 : Int32} {x3 : Int64} {h : bs_H} (hw : w_P_change Φ x0 x1 x2 x3 h) : bs_J l K_P_change R Φ 0 [(0, .ref x0), (1, .int x1), (2, .int x2), (3, .long x3)] [] h := by
  unfold w_P_change at hw
  refine bj_aload_n (pc := 0) 0 d_P_change_0 rfl rfl ?_
  obtain ⟨fs, v1, hx, hv, hw⟩ := hw
  refine bj_get (pc := 1) (ci := 2) (k := 1) (fs := fs) (v := .ref v1) d_P_change_1 rfl (by decide) q_94 hx hv ?_
  refine bj_iload_n (pc := 4) 1 d_P_change_4 rfl rfl ?_
  refine bj_iload_n (pc := 5) 2 d_P_change_5 rfl rfl ?_
  obtain ⟨n, f, hx, hin, hw⟩ := hw
  refine bj_iast (pc := 6) (n := n) (f := f) d_P_change_6 hx hin ?_
  refine bj_aload_n (pc := 7) 0 d_P_change_7 rfl rfl ?_
  obtain ⟨fs, v3, hx, hv, hw⟩ := hw
  refine bj_get (pc := 8) (ci := 2) (k := 2) (fs := fs) (v := .ref v3) d_P_change_8 rfl (by decide) q_95 hx hv ?_
  refine bj_iload_n (pc := 11) 1 d_P_change_11 rfl rfl ?_
  refine bj_lload_n (pc := 12) 3 d_P_change_12 rfl rfl ?_
  obtain ⟨n, f, hx, hin, hw⟩ := hw
  refine bj_last (pc := 13) (n := n) (f := f) d_P_change_13 hx hin ?_
  exact bj_vret (pc := 14) d_P_change_14 rfl hw
theorem d_P_append_0 : decode prog_4_method_8_code 0 = .ok (.aload_n 0, 1) := by decide +kernel
theorem d_P_append_1 : decode prog_4_method_8_code 1 = .ok (.getfield 22, 3) := by decide +kernel
theorem d_P_append_4 : decode prog_4_method_8_code 4 = .ok (.sipush 192, 3) := by decide +kernel
theorem d_P_append_7 : decode prog_4_method_8_code 7 = .ok (.if_icmp .ge 33, 3) := by decide +kernel
theorem d_P_append_10 : decode prog_4_method_8_code 10 = .ok (.aload_n 0, 1) := by decide +kernel
theorem d_P_append_11 : decode prog_4_method_8_code 11 = .ok (.getfield 9, 3) := by decide +kernel
theorem d_P_append_14 : decode prog_4_method_8_code 14 = .ok (.aload_n 0, 1) := by decide +kernel
theorem d_P_append_15 : decode prog_4_method_8_code 15 = .ok (.getfield 22, 3) := by decide +kernel
theorem d_P_append_18 : decode prog_4_method_8_code 18 = .ok (.iload_n 1, 1) := by decide +kernel
theorem d_P_append_19 : decode prog_4_method_8_code 19 = .ok (.iastore, 1) := by decide +kernel
theorem d_P_append_20 : decode prog_4_method_8_code 20 = .ok (.aload_n 0, 1) := by decide +kernel
theorem d_P_append_21 : decode prog_4_method_8_code 21 = .ok (.aload_n 0, 1) := by decide +kernel
theorem d_P_append_22 : decode prog_4_method_8_code 22 = .ok (.getfield 22, 3) := by decide +kernel
theorem d_P_append_25 : decode prog_4_method_8_code 25 = .ok (.iload_n 2, 1) := by decide +kernel
theorem d_P_append_26 : decode prog_4_method_8_code 26 = .ok (.lload_n 3, 1) := by decide +kernel
theorem d_P_append_27 : decode prog_4_method_8_code 27 = .ok (.invokevirtual 26, 3) := by decide +kernel
theorem d_P_append_30 : decode prog_4_method_8_code 30 = .ok (.aload_n 0, 1) := by decide +kernel
theorem d_P_append_31 : decode prog_4_method_8_code 31 = .ok (.dup, 1) := by decide +kernel
theorem d_P_append_32 : decode prog_4_method_8_code 32 = .ok (.getfield 22, 3) := by decide +kernel
theorem d_P_append_35 : decode prog_4_method_8_code 35 = .ok (.iconst 1, 1) := by decide +kernel
theorem d_P_append_36 : decode prog_4_method_8_code 36 = .ok (.iadd, 1) := by decide +kernel
theorem d_P_append_37 : decode prog_4_method_8_code 37 = .ok (.putfield 22, 3) := by decide +kernel
theorem d_P_append_40 : decode prog_4_method_8_code 40 = .ok (.return_, 1) := by decide +kernel
def w_P_append_40 (Φ : bs_R → bs_H → Prop) (h : bs_H) : Prop :=
  Φ (.ok none) h
def w_P_append (Φ : bs_R → bs_H → Prop) (x0 : Nat) (x1 : Int32) (x2 : Int32) (x3 : Int64) (h : bs_H) : Prop :=
  bs_fI h x0 2 3 (fun v1 => bs_if ((192 : Int32) ≤ v1) (w_P_append_40 Φ h) (bs_fA h x0 2 0 (fun v2 => bs_fI h x0 2 3 (fun v3 => bs_sI h v2 v3 x1 (fun h4 => bs_fI h4 x0 2 3 (fun v5 => bs_on h4 x0 2 (w_P_change (bs_kV Φ fun h6 => (bs_fI h6 x0 2 3 (fun v7 => bs_p h6 x0 2 3 (.int (v7 + 1)) (fun h8 => w_P_append_40 Φ h8)))) x0 v5 x2 x3 h4)))))))
theorem m_P_append_40 {l : Launch} {R : Room} {Φ : bs_R → bs_H → Prop} (hR : bs_rm 2 R) {h : bs_H} (hw : w_P_append_40 Φ h) : bs_J l K_P_append R Φ 40 [] [] h := by
  unfold w_P_append_40 at hw
  exact bj_vret (pc := 40) d_P_append_40 rfl hw
theorem m_P_append {l : Launch} {R : Room} (hR : bs_rm 2 R) {Φ : bs_R → bs_H → Prop} {x0 : Nat} {x1 : Int32} {x2 : Int32} {x3 : Int64} {h : bs_H} (hw : w_P_append Φ x0 x1 x2 x3 h) : bs_J l K_P_append R Φ 0 [(0, .ref x0), (1, .int x1), (2, .int x2), (3, .long x3)] [] h := by
  unfold w_P_append at hw
  refine bj_aload_n (pc := 0) 0 d_P_append_0 rfl rfl ?_
  obtain ⟨fs, v1, hx, hv, hw⟩ := hw
  refine bj_get (pc := 1) (ci := 2) (k := 3) (fs := fs) (v := .int v1) d_P_append_1 rfl (by decide) q_96 hx hv ?_
  refine bj_sipush (pc := 4) (v := 192) d_P_append_4 (by decide) ?_
  refine bj_icmp_ge (pc := 7) (tgt := 40) d_P_append_7 (by decide) (fun hc => ?_) (fun hc => ?_)
  · replace hw := hw.1 hc
    refine bj_sub [] (lo' := []) rfl ?_
    exact m_P_append_40 hR hw
  · replace hw := hw.2 hc
    refine bj_aload_n (pc := 10) 0 d_P_append_10 rfl rfl ?_
    obtain ⟨fs, v2, hx, hv, hw⟩ := hw
    refine bj_get (pc := 11) (ci := 2) (k := 0) (fs := fs) (v := .ref v2) d_P_append_11 rfl (by decide) q_93 hx hv ?_
    refine bj_aload_n (pc := 14) 0 d_P_append_14 rfl rfl ?_
    obtain ⟨fs, v3, hx, hv, hw⟩ := hw
    refine bj_get (pc := 15) (ci := 2) (k := 3) (fs := fs) (v := .int v3) d_P_append_15 rfl (by decide) q_96 hx hv ?_
    refine bj_iload_n (pc := 18) 1 d_P_append_18 rfl rfl ?_
    obtain ⟨n, f, hx, hin, hw⟩ := hw
    refine bj_iast (pc := 19) (n := n) (f := f) d_P_append_19 hx hin ?_
    refine bj_aload_n (pc := 20) 0 d_P_append_20 rfl rfl ?_
    refine bj_aload_n (pc := 21) 0 d_P_append_21 rfl rfl ?_
    obtain ⟨fs, v5, hx, hv, hw⟩ := hw
    refine bj_get (pc := 22) (ci := 2) (k := 3) (fs := fs) (v := .int v5) d_P_append_22 rfl (by decide) q_96 hx hv ?_
    refine bj_iload_n (pc := 25) 2 d_P_append_25 rfl rfl ?_
    refine bj_lload_n (pc := 26) 3 d_P_append_26 rfl rfl ?_
    obtain ⟨⟨fs, hx⟩, hw⟩ := hw
    refine bj_callV (pc := 27) (np := 3) (K' := K_P_change) (argsL := [.int v5, .int x2, .long x3]) (st := []) (d1 := 1) (ci := 2) (fs := fs) rfl d_P_append_27 (Or.inl q_532) q_533 rfl q_534 c_P_change n_P_change hR (by decide) (by decide) rfl (Nat.le_of_ble_eq_true rfl) rfl (Nat.le_of_ble_eq_true rfl) hx (fun R' hR' => m_P_change hR' hw) (bs_kV_ok fun h6 hw => ?_) (fun _ _ z => z)
    refine bj_aload_n (pc := 30) 0 d_P_append_30 rfl rfl ?_
    refine bj_dup (pc := 31) d_P_append_31 rfl ?_
    obtain ⟨fs, v7, hx, hv, hw⟩ := hw
    refine bj_get (pc := 32) (ci := 2) (k := 3) (fs := fs) (v := .int v7) d_P_append_32 rfl (by decide) q_96 hx hv ?_
    refine bj_iconst (pc := 35) (v := 1) d_P_append_35 (by decide) ?_
    refine bj_iadd (pc := 36) d_P_append_36 ?_
    obtain ⟨fs, hx, hlen, hw⟩ := hw
    refine bj_put (pc := 37) (ci := 2) (k := 3) (fs := fs) (v := (.int (v7 + 1))) (ty := .int) d_P_append_37 rfl (by decide) q_96 rfl (by decide +kernel) rfl rfl hx hlen ?_
    refine bj_sub [] (lo' := []) rfl ?_
    exact m_P_append_40 hR hw
theorem d_P_appendMove_0 : decode prog_4_method_9_code 0 = .ok (.lload_n 3, 1) := by decide +kernel
theorem d_P_appendMove_1 : decode prog_4_method_9_code 1 = .ok (.lconst 0, 1) := by decide +kernel
theorem d_P_appendMove_2 : decode prog_4_method_9_code 2 = .ok (.lcmp, 1) := by decide +kernel
theorem d_P_appendMove_3 : decode prog_4_method_9_code 3 = .ok (.ifCond .eq 24, 3) := by decide +kernel
theorem d_P_appendMove_6 : decode prog_4_method_9_code 6 = .ok (.aload_n 0, 1) := by decide +kernel
theorem d_P_appendMove_7 : decode prog_4_method_9_code 7 = .ok (.iload_n 1, 1) := by decide +kernel
theorem d_P_appendMove_8 : decode prog_4_method_9_code 8 = .ok (.iload_n 2, 1) := by decide +kernel
theorem d_P_appendMove_9 : decode prog_4_method_9_code 9 = .ok (.lconst 0, 1) := by decide +kernel
theorem d_P_appendMove_10 : decode prog_4_method_9_code 10 = .ok (.invokevirtual 30, 3) := by decide +kernel
theorem d_P_appendMove_13 : decode prog_4_method_9_code 13 = .ok (.aload_n 0, 1) := by decide +kernel
theorem d_P_appendMove_14 : decode prog_4_method_9_code 14 = .ok (.iconst 2, 1) := by decide +kernel
theorem d_P_appendMove_15 : decode prog_4_method_9_code 15 = .ok (.iconst 0, 1) := by decide +kernel
theorem d_P_appendMove_16 : decode prog_4_method_9_code 16 = .ok (.lload_n 3, 1) := by decide +kernel
theorem d_P_appendMove_17 : decode prog_4_method_9_code 17 = .ok (.invokevirtual 30, 3) := by decide +kernel
theorem d_P_appendMove_20 : decode prog_4_method_9_code 20 = .ok (.aload_n 0, 1) := by decide +kernel
theorem d_P_appendMove_21 : decode prog_4_method_9_code 21 = .ok (.iconst 3, 1) := by decide +kernel
theorem d_P_appendMove_22 : decode prog_4_method_9_code 22 = .ok (.iconst 0, 1) := by decide +kernel
theorem d_P_appendMove_23 : decode prog_4_method_9_code 23 = .ok (.lconst 0, 1) := by decide +kernel
theorem d_P_appendMove_24 : decode prog_4_method_9_code 24 = .ok (.invokevirtual 30, 3) := by decide +kernel
theorem d_P_appendMove_27 : decode prog_4_method_9_code 27 = .ok (.return_, 1) := by decide +kernel
def w_P_appendMove_27 (Φ : bs_R → bs_H → Prop) (h : bs_H) : Prop :=
  Φ (.ok none) h
def w_P_appendMove (Φ : bs_R → bs_H → Prop) (x0 : Nat) (x1 : Int32) (x2 : Int32) (x3 : Int64) (h : bs_H) : Prop :=
  bs_if (x3 = 0) (w_P_appendMove_27 Φ h) (bs_on h x0 2 (w_P_append (bs_kV Φ fun h1 => (bs_on h1 x0 2 (w_P_append (bs_kV Φ fun h2 => (bs_on h2 x0 2 (w_P_append (bs_kV Φ fun h3 => (w_P_appendMove_27 Φ h3)) x0 3 0 0 h2))) x0 2 0 x3 h1))) x0 x1 x2 0 h))
theorem m_P_appendMove_27 {l : Launch} {R : Room} {Φ : bs_R → bs_H → Prop} (hR : bs_rm 3 R) {h : bs_H} (hw : w_P_appendMove_27 Φ h) : bs_J l K_P_appendMove R Φ 27 [] [] h := by
  unfold w_P_appendMove_27 at hw
  exact bj_vret (pc := 27) d_P_appendMove_27 rfl hw
theorem m_P_appendMove {l : Launch} {R : Room} (hR : bs_rm 3 R) {Φ : bs_R → bs_H → Prop} {x0 : Nat} {x1 : Int32} {x2 : Int32} {x3 : Int64} {h : bs_H} (hw : w_P_appendMove Φ x0 x1 x2 x3 h) : bs_J l K_P_appendMove R Φ 0 [(0, .ref x0), (1, .int x1), (2, .int x2), (3, .long x3)] [] h := by
  unfold w_P_appendMove at hw
  refine bj_lload_n (pc := 0) 3 d_P_appendMove_0 rfl rfl ?_
  refine bj_lconst (pc := 1) (v := 0) d_P_appendMove_1 (by decide) ?_
  refine bj_lc_eq (pc := 2) (tgt := 27) d_P_appendMove_2 d_P_appendMove_3 (by decide) (fun hc => ?_) (fun hc => ?_)
  · replace hw := hw.1 hc
    refine bj_sub [] (lo' := []) rfl ?_
    exact m_P_appendMove_27 hR hw
  · replace hw := hw.2 hc
    refine bj_aload_n (pc := 6) 0 d_P_appendMove_6 rfl rfl ?_
    refine bj_iload_n (pc := 7) 1 d_P_appendMove_7 rfl rfl ?_
    refine bj_iload_n (pc := 8) 2 d_P_appendMove_8 rfl rfl ?_
    refine bj_lconst (pc := 9) (v := 0) d_P_appendMove_9 (by decide) ?_
    obtain ⟨⟨fs, hx⟩, hw⟩ := hw
    refine bj_callV (pc := 10) (np := 3) (K' := K_P_append) (argsL := [.int x1, .int x2, .long 0]) (st := []) (d1 := 2) (ci := 2) (fs := fs) rfl d_P_appendMove_10 (Or.inl q_528) q_529 rfl q_530 c_P_append n_P_append hR (by decide) (by decide) rfl (Nat.le_of_ble_eq_true rfl) rfl (Nat.le_of_ble_eq_true rfl) hx (fun R' hR' => m_P_append hR' hw) (bs_kV_ok fun h1 hw => ?_) (fun _ _ z => z)
    refine bj_aload_n (pc := 13) 0 d_P_appendMove_13 rfl rfl ?_
    refine bj_iconst (pc := 14) (v := 2) d_P_appendMove_14 (by decide) ?_
    refine bj_iconst (pc := 15) (v := 0) d_P_appendMove_15 (by decide) ?_
    refine bj_lload_n (pc := 16) 3 d_P_appendMove_16 rfl rfl ?_
    obtain ⟨⟨fs, hx⟩, hw⟩ := hw
    refine bj_callV (pc := 17) (np := 3) (K' := K_P_append) (argsL := [.int 2, .int 0, .long x3]) (st := []) (d1 := 2) (ci := 2) (fs := fs) rfl d_P_appendMove_17 (Or.inl q_528) q_529 rfl q_530 c_P_append n_P_append hR (by decide) (by decide) rfl (Nat.le_of_ble_eq_true rfl) rfl (Nat.le_of_ble_eq_true rfl) hx (fun R' hR' => m_P_append hR' hw) (bs_kV_ok fun h2 hw => ?_) (fun _ _ z => z)
    refine bj_aload_n (pc := 20) 0 d_P_appendMove_20 rfl rfl ?_
    refine bj_iconst (pc := 21) (v := 3) d_P_appendMove_21 (by decide) ?_
    refine bj_iconst (pc := 22) (v := 0) d_P_appendMove_22 (by decide) ?_
    refine bj_lconst (pc := 23) (v := 0) d_P_appendMove_23 (by decide) ?_
    obtain ⟨⟨fs, hx⟩, hw⟩ := hw
    refine bj_callV (pc := 24) (np := 3) (K' := K_P_append) (argsL := [.int 3, .int 0, .long 0]) (st := []) (d1 := 2) (ci := 2) (fs := fs) rfl d_P_appendMove_24 (Or.inl q_528) q_529 rfl q_530 c_P_append n_P_append hR (by decide) (by decide) rfl (Nat.le_of_ble_eq_true rfl) rfl (Nat.le_of_ble_eq_true rfl) hx (fun R' hR' => m_P_append hR' hw) (bs_kV_ok fun h3 hw => ?_) (fun _ _ z => z)
    refine bj_sub [] (lo' := []) rfl ?_
    exact m_P_appendMove_27 hR hw
theorem d_M_bitsThatAreOne_0 : decode prog_2_method_14_code 0 = .ok (.lconst 0, 1) := by decide +kernel
theorem d_M_bitsThatAreOne_1 : decode prog_2_method_14_code 1 = .ok (.lstore_n 1, 1) := by decide +kernel
theorem d_M_bitsThatAreOne_2 : decode prog_2_method_14_code 2 = .ok (.iconst 0, 1) := by decide +kernel
theorem d_M_bitsThatAreOne_3 : decode prog_2_method_14_code 3 = .ok (.istore_n 3, 1) := by decide +kernel
theorem d_M_bitsThatAreOne_4 : decode prog_2_method_14_code 4 = .ok (.iload_n 3, 1) := by decide +kernel
theorem d_M_bitsThatAreOne_5 : decode prog_2_method_14_code 5 = .ok (.aload_n 0, 1) := by decide +kernel
theorem d_M_bitsThatAreOne_6 : decode prog_2_method_14_code 6 = .ok (.getfield 15, 3) := by decide +kernel
theorem d_M_bitsThatAreOne_9 : decode prog_2_method_14_code 9 = .ok (.if_icmp .ge 26, 3) := by decide +kernel
theorem d_M_bitsThatAreOne_12 : decode prog_2_method_14_code 12 = .ok (.aload_n 0, 1) := by decide +kernel
theorem d_M_bitsThatAreOne_13 : decode prog_2_method_14_code 13 = .ok (.getfield 9, 3) := by decide +kernel
theorem d_M_bitsThatAreOne_16 : decode prog_2_method_14_code 16 = .ok (.iload_n 3, 1) := by decide +kernel
theorem d_M_bitsThatAreOne_17 : decode prog_2_method_14_code 17 = .ok (.iaload, 1) := by decide +kernel
theorem d_M_bitsThatAreOne_18 : decode prog_2_method_14_code 18 = .ok (.bipush 65, 2) := by decide +kernel
theorem d_M_bitsThatAreOne_20 : decode prog_2_method_14_code 20 = .ok (.if_icmp .ne 9, 3) := by decide +kernel
theorem d_M_bitsThatAreOne_23 : decode prog_2_method_14_code 23 = .ok (.lload_n 1, 1) := by decide +kernel
theorem d_M_bitsThatAreOne_24 : decode prog_2_method_14_code 24 = .ok (.lconst 1, 1) := by decide +kernel
theorem d_M_bitsThatAreOne_25 : decode prog_2_method_14_code 25 = .ok (.iload_n 3, 1) := by decide +kernel
theorem d_M_bitsThatAreOne_26 : decode prog_2_method_14_code 26 = .ok (.lshl, 1) := by decide +kernel
theorem d_M_bitsThatAreOne_27 : decode prog_2_method_14_code 27 = .ok (.lor, 1) := by decide +kernel
theorem d_M_bitsThatAreOne_28 : decode prog_2_method_14_code 28 = .ok (.lstore_n 1, 1) := by decide +kernel
theorem d_M_bitsThatAreOne_29 : decode prog_2_method_14_code 29 = .ok (.iinc 3 1, 3) := by decide +kernel
theorem d_M_bitsThatAreOne_32 : decode prog_2_method_14_code 32 = .ok (.goto (-28), 3) := by decide +kernel
theorem d_M_bitsThatAreOne_35 : decode prog_2_method_14_code 35 = .ok (.lload_n 1, 1) := by decide +kernel
theorem d_M_bitsThatAreOne_36 : decode prog_2_method_14_code 36 = .ok (.lreturn, 1) := by decide +kernel
def w_M_bitsThatAreOne_29 (Φ : bs_R → bs_H → Prop) (nx4 : Nat → Int64 → Int32 → bs_H → Prop) (x0 : Nat) (x1 : Int64) (x3 : Int32) (h : bs_H) : Prop :=
  nx4 x0 x1 (x3 + 1) h
def w_M_bitsThatAreOne_4_s (Φ : bs_R → bs_H → Prop) (nx4 : Nat → Int64 → Int32 → bs_H → Prop) (x0 : Nat) (x1 : Int64) (x3 : Int32) (h : bs_H) : Prop :=
  bs_fI h x0 1 1 (fun v1 => bs_if (v1 ≤ x3) (Φ (.ok (some (.long x1))) h) (bs_fA h x0 1 0 (fun v2 => bs_lI h v2 x3 (fun v3 => bs_if (v3 = 65) (w_M_bitsThatAreOne_29 Φ nx4 x0 (x1 ||| (bs_shl 1 x3)) x3 h) (w_M_bitsThatAreOne_29 Φ nx4 x0 x1 x3 h)))))
def w_M_bitsThatAreOne_4 (Φ : bs_R → bs_H → Prop) : Nat → Nat → Int64 → Int32 → bs_H → Prop
  | 0 => fun _ _ _ _ => False
  | n + 1 => fun x0 x1 x3 h => w_M_bitsThatAreOne_4_s Φ (w_M_bitsThatAreOne_4 Φ n) x0 x1 x3 h
def w_M_bitsThatAreOne (Φ : bs_R → bs_H → Prop) (x0 : Nat) (h : bs_H) : Prop :=
  w_M_bitsThatAreOne_4 Φ 1000 x0 0 0 h
theorem m_M_bitsThatAreOne_29 {l : Launch} {R : Room} {Φ : bs_R → bs_H → Prop} (hR : bs_rm 1 R) {nx4 : Nat → Int64 → Int32 → bs_H → Prop} (hnx4 : ∀ (x0 : Nat) (x1 : Int64) (x3 : Int32) (h : bs_H), nx4 x0 x1 x3 h → bs_J l K_M_bitsThatAreOne R Φ 4 [(0, .ref x0), (1, .long x1), (3, .int x3)] [] h) {x0 : Nat} {x1 : Int64} {x3 : Int32} {h : bs_H} (hw : w_M_bitsThatAreOne_29 Φ nx4 x0 x1 x3 h) : bs_J l K_M_bitsThatAreOne R Φ 29 [(0, .ref x0), (1, .long x1), (3, .int x3)] [] h := by
  unfold w_M_bitsThatAreOne_29 at hw
  refine bj_iinc (pc := 29) (v := (x3 + 1)) (lo' := [(3, .int (x3 + 1)), (0, .ref x0), (1, .long x1)]) 2 d_M_bitsThatAreOne_29 rfl rfl (by decide) rfl ?_
  refine bj_goto (pc := 32) (tgt := 4) d_M_bitsThatAreOne_32 (by decide) ?_
  refine bj_sub [1, 2, 0] (lo' := [(0, .ref x0), (1, .long x1), (3, .int (x3 + 1))]) rfl ?_
  exact hnx4 _ _ _ _ hw
theorem m_M_bitsThatAreOne_4 {l : Launch} {R : Room} {Φ : bs_R → bs_H → Prop} (hR : bs_rm 1 R) : ∀ (n : Nat) (x0 : Nat) (x1 : Int64) (x3 : Int32) (h : bs_H), w_M_bitsThatAreOne_4 Φ n x0 x1 x3 h → bs_J l K_M_bitsThatAreOne R Φ 4 [(0, .ref x0), (1, .long x1), (3, .int x3)] [] h := by
  intro n
  induction n with
  | zero => intro x0 x1 x3 h hw; exact hw.elim
  | succ n ih =>
    have hnx4 := ih
    intro x0 x1 x3 h hw
    replace hw : w_M_bitsThatAreOne_4_s Φ (w_M_bitsThatAreOne_4 Φ n) x0 x1 x3 h := hw
    unfold w_M_bitsThatAreOne_4_s at hw
    refine bj_iload_n (pc := 4) 2 d_M_bitsThatAreOne_4 rfl rfl ?_
    refine bj_aload_n (pc := 5) 0 d_M_bitsThatAreOne_5 rfl rfl ?_
    obtain ⟨fs, v1, hx, hv, hw⟩ := hw
    refine bj_get (pc := 6) (ci := 1) (k := 1) (fs := fs) (v := .int v1) d_M_bitsThatAreOne_6 rfl (by decide) q_79 hx hv ?_
    refine bj_icmp_ge (pc := 9) (tgt := 35) d_M_bitsThatAreOne_9 (by decide) (fun hc => ?_) (fun hc => ?_)
    · replace hw := hw.1 hc
      refine bj_lload_n (pc := 35) 1 d_M_bitsThatAreOne_35 rfl rfl ?_
      exact bj_lret (pc := 36) d_M_bitsThatAreOne_36 rfl hw
    · replace hw := hw.2 hc
      refine bj_aload_n (pc := 12) 0 d_M_bitsThatAreOne_12 rfl rfl ?_
      obtain ⟨fs, v2, hx, hv, hw⟩ := hw
      refine bj_get (pc := 13) (ci := 1) (k := 0) (fs := fs) (v := .ref v2) d_M_bitsThatAreOne_13 rfl (by decide) q_78 hx hv ?_
      refine bj_iload_n (pc := 16) 2 d_M_bitsThatAreOne_16 rfl rfl ?_
      obtain ⟨n, f, v3, hx, hin, hv, hw⟩ := hw
      refine bj_iald (pc := 17) (n := n) (f := f) d_M_bitsThatAreOne_17 hx hin hv ?_
      refine bj_bipush (pc := 18) (v := 65) d_M_bitsThatAreOne_18 (by decide) ?_
      refine bj_icmp_ne (pc := 20) (tgt := 29) d_M_bitsThatAreOne_20 (by decide) (fun hc => ?_) (fun hc => ?_)
      · replace hw := hw.2 hc
        exact m_M_bitsThatAreOne_29 hR hnx4 hw
      · replace hw := hw.1 hc
        refine bj_lload_n (pc := 23) 1 d_M_bitsThatAreOne_23 rfl rfl ?_
        refine bj_lconst (pc := 24) (v := 1) d_M_bitsThatAreOne_24 (by decide) ?_
        refine bj_iload_n (pc := 25) 2 d_M_bitsThatAreOne_25 rfl rfl ?_
        refine bj_lshl (pc := 26) d_M_bitsThatAreOne_26 ?_
        refine bj_lor (pc := 27) d_M_bitsThatAreOne_27 ?_
        refine bj_lstore_n (pc := 28) (lo' := [(1, .long (x1 ||| (bs_shl 1 x3))), (0, .ref x0), (3, .int x3)]) d_M_bitsThatAreOne_28 rfl (by decide) rfl ?_
        refine bj_sub [1, 0, 2] (lo' := [(0, .ref x0), (1, .long (x1 ||| (bs_shl 1 x3))), (3, .int x3)]) rfl ?_
        exact m_M_bitsThatAreOne_29 hR hnx4 hw
theorem m_M_bitsThatAreOne {l : Launch} {R : Room} (hR : bs_rm 1 R) {Φ : bs_R → bs_H → Prop} {x0 : Nat} {h : bs_H} (hw : w_M_bitsThatAreOne Φ x0 h) : bs_J l K_M_bitsThatAreOne R Φ 0 [(0, .ref x0)] [] h := by
  unfold w_M_bitsThatAreOne at hw
  refine bj_lconst (pc := 0) (v := 0) d_M_bitsThatAreOne_0 (by decide) ?_
  refine bj_lstore_n (pc := 1) (lo' := [(1, .long 0), (0, .ref x0)]) d_M_bitsThatAreOne_1 rfl (by decide) rfl ?_
  refine bj_iconst (pc := 2) (v := 0) d_M_bitsThatAreOne_2 (by decide) ?_
  refine bj_istore_n (pc := 3) (lo' := [(3, .int 0), (1, .long 0), (0, .ref x0)]) d_M_bitsThatAreOne_3 rfl (by decide) rfl ?_
  refine bj_sub [2, 1, 0] (lo' := [(0, .ref x0), (1, .long 0), (3, .int 0)]) rfl ?_
  exact m_M_bitsThatAreOne_4 hR 1000 _ _ _ _ hw
theorem d_P_appendSet_0 : decode prog_4_method_10_code 0 = .ok (.lload_n 1, 1) := by decide +kernel
theorem d_P_appendSet_1 : decode prog_4_method_10_code 1 = .ok (.lconst 0, 1) := by decide +kernel
theorem d_P_appendSet_2 : decode prog_4_method_10_code 2 = .ok (.lcmp, 1) := by decide +kernel
theorem d_P_appendSet_3 : decode prog_4_method_10_code 3 = .ok (.ifCond .eq 10, 3) := by decide +kernel
theorem d_P_appendSet_6 : decode prog_4_method_10_code 6 = .ok (.aload_n 0, 1) := by decide +kernel
theorem d_P_appendSet_7 : decode prog_4_method_10_code 7 = .ok (.iconst 4, 1) := by decide +kernel
theorem d_P_appendSet_8 : decode prog_4_method_10_code 8 = .ok (.iconst 0, 1) := by decide +kernel
theorem d_P_appendSet_9 : decode prog_4_method_10_code 9 = .ok (.lload_n 1, 1) := by decide +kernel
theorem d_P_appendSet_10 : decode prog_4_method_10_code 10 = .ok (.invokevirtual 30, 3) := by decide +kernel
theorem d_P_appendSet_13 : decode prog_4_method_10_code 13 = .ok (.return_, 1) := by decide +kernel
def w_P_appendSet_13 (Φ : bs_R → bs_H → Prop) (h : bs_H) : Prop :=
  Φ (.ok none) h
def w_P_appendSet (Φ : bs_R → bs_H → Prop) (x0 : Nat) (x1 : Int64) (h : bs_H) : Prop :=
  bs_if (x1 = 0) (w_P_appendSet_13 Φ h) (bs_on h x0 2 (w_P_append (bs_kV Φ fun h1 => (w_P_appendSet_13 Φ h1)) x0 4 0 x1 h))
theorem m_P_appendSet_13 {l : Launch} {R : Room} {Φ : bs_R → bs_H → Prop} (hR : bs_rm 3 R) {h : bs_H} (hw : w_P_appendSet_13 Φ h) : bs_J l K_P_appendSet R Φ 13 [] [] h := by
  unfold w_P_appendSet_13 at hw
  exact bj_vret (pc := 13) d_P_appendSet_13 rfl hw
theorem m_P_appendSet {l : Launch} {R : Room} (hR : bs_rm 3 R) {Φ : bs_R → bs_H → Prop} {x0 : Nat} {x1 : Int64} {h : bs_H} (hw : w_P_appendSet Φ x0 x1 h) : bs_J l K_P_appendSet R Φ 0 [(0, .ref x0), (1, .long x1)] [] h := by
  unfold w_P_appendSet at hw
  refine bj_lload_n (pc := 0) 1 d_P_appendSet_0 rfl rfl ?_
  refine bj_lconst (pc := 1) (v := 0) d_P_appendSet_1 (by decide) ?_
  refine bj_lc_eq (pc := 2) (tgt := 13) d_P_appendSet_2 d_P_appendSet_3 (by decide) (fun hc => ?_) (fun hc => ?_)
  · replace hw := hw.1 hc
    refine bj_sub [] (lo' := []) rfl ?_
    exact m_P_appendSet_13 hR hw
  · replace hw := hw.2 hc
    refine bj_aload_n (pc := 6) 0 d_P_appendSet_6 rfl rfl ?_
    refine bj_iconst (pc := 7) (v := 4) d_P_appendSet_7 (by decide) ?_
    refine bj_iconst (pc := 8) (v := 0) d_P_appendSet_8 (by decide) ?_
    refine bj_lload_n (pc := 9) 1 d_P_appendSet_9 rfl rfl ?_
    obtain ⟨⟨fs, hx⟩, hw⟩ := hw
    refine bj_callV (pc := 10) (np := 3) (K' := K_P_append) (argsL := [.int 4, .int 0, .long x1]) (st := []) (d1 := 2) (ci := 2) (fs := fs) rfl d_P_appendSet_10 (Or.inl q_528) q_529 rfl q_530 c_P_append n_P_append hR (by decide) (by decide) rfl (Nat.le_of_ble_eq_true rfl) rfl (Nat.le_of_ble_eq_true rfl) hx (fun R' hR' => m_P_append hR' hw) (bs_kV_ok fun h1 hw => ?_) (fun _ _ z => z)
    refine bj_sub [] (lo' := []) rfl ?_
    exact m_P_appendSet_13 hR hw
theorem d_B_writeShifts_0 : decode prog_1_method_22_code 0 = .ok (.iconst 1, 1) := by decide +kernel
theorem d_B_writeShifts_1 : decode prog_1_method_22_code 1 = .ok (.aload_n 0, 1) := by decide +kernel
theorem d_B_writeShifts_2 : decode prog_1_method_22_code 2 = .ok (.getfield 12, 3) := by decide +kernel
theorem d_B_writeShifts_5 : decode prog_1_method_22_code 5 = .ok (.invokevirtual 91, 3) := by decide +kernel
theorem d_B_writeShifts_8 : decode prog_1_method_22_code 8 = .ok (.isub, 1) := by decide +kernel
theorem d_B_writeShifts_9 : decode prog_1_method_22_code 9 = .ok (.istore_n 1, 1) := by decide +kernel
theorem d_B_writeShifts_10 : decode prog_1_method_22_code 10 = .ok (.iload_n 1, 1) := by decide +kernel
theorem d_B_writeShifts_11 : decode prog_1_method_22_code 11 = .ok (.aload_n 0, 1) := by decide +kernel
theorem d_B_writeShifts_12 : decode prog_1_method_22_code 12 = .ok (.getfield 12, 3) := by decide +kernel
theorem d_B_writeShifts_15 : decode prog_1_method_22_code 15 = .ok (.invokevirtual 91, 3) := by decide +kernel
theorem d_B_writeShifts_18 : decode prog_1_method_22_code 18 = .ok (.if_icmp .ge 26, 3) := by decide +kernel
theorem d_B_writeShifts_21 : decode prog_1_method_22_code 21 = .ok (.aload_n 0, 1) := by decide +kernel
theorem d_B_writeShifts_22 : decode prog_1_method_22_code 22 = .ok (.getfield 30, 3) := by decide +kernel
theorem d_B_writeShifts_25 : decode prog_1_method_22_code 25 = .ok (.iconst 0, 1) := by decide +kernel
theorem d_B_writeShifts_26 : decode prog_1_method_22_code 26 = .ok (.iload_n 1, 1) := by decide +kernel
theorem d_B_writeShifts_27 : decode prog_1_method_22_code 27 = .ok (.aload_n 0, 1) := by decide +kernel
theorem d_B_writeShifts_28 : decode prog_1_method_22_code 28 = .ok (.getfield 12, 3) := by decide +kernel
theorem d_B_writeShifts_31 : decode prog_1_method_22_code 31 = .ok (.iload_n 1, 1) := by decide +kernel
theorem d_B_writeShifts_32 : decode prog_1_method_22_code 32 = .ok (.invokevirtual 184, 3) := by decide +kernel
theorem d_B_writeShifts_35 : decode prog_1_method_22_code 35 = .ok (.invokevirtual 187, 3) := by decide +kernel
theorem d_B_writeShifts_38 : decode prog_1_method_22_code 38 = .ok (.iinc 1 1, 3) := by decide +kernel
theorem d_B_writeShifts_41 : decode prog_1_method_22_code 41 = .ok (.goto (-31), 3) := by decide +kernel
theorem d_B_writeShifts_44 : decode prog_1_method_22_code 44 = .ok (.aload_n 0, 1) := by decide +kernel
theorem d_B_writeShifts_45 : decode prog_1_method_22_code 45 = .ok (.getfield 30, 3) := by decide +kernel
theorem d_B_writeShifts_48 : decode prog_1_method_22_code 48 = .ok (.aload_n 0, 1) := by decide +kernel
theorem d_B_writeShifts_49 : decode prog_1_method_22_code 49 = .ok (.getfield 12, 3) := by decide +kernel
theorem d_B_writeShifts_52 : decode prog_1_method_22_code 52 = .ok (.invokevirtual 190, 3) := by decide +kernel
theorem d_B_writeShifts_55 : decode prog_1_method_22_code 55 = .ok (.invokevirtual 194, 3) := by decide +kernel
theorem d_B_writeShifts_58 : decode prog_1_method_22_code 58 = .ok (.return_, 1) := by decide +kernel
def w_B_writeShifts_10_s (Φ : bs_R → bs_H → Prop) (nx10 : Nat → Int32 → bs_H → Prop) (x0 : Nat) (x1 : Int32) (h : bs_H) : Prop :=
  bs_fA h x0 0 0 (fun v1 => bs_on h v1 1 (w_M_bits (bs_kI Φ fun v2 h3 => (bs_if (v2 ≤ x1) (bs_fA h3 x0 0 4 (fun v4 => bs_fA h3 x0 0 0 (fun v5 => bs_on h3 v5 1 (w_M_bitsThatAreOne (bs_kL Φ fun v6 h7 => (bs_on h7 v4 2 (w_P_appendSet (bs_kV Φ fun h8 => (Φ (.ok none) h8)) v4 v6 h7))) v5 h3)))) (bs_fA h3 x0 0 4 (fun v9 => bs_fA h3 x0 0 0 (fun v10 => bs_on h3 v10 1 (w_M_bitsShifted (bs_kL Φ fun v11 h12 => (bs_on h12 v9 2 (w_P_appendMove (bs_kV Φ fun h13 => (nx10 x0 (x1 + 1) h13)) v9 0 x1 v11 h12))) v10 x1 h3)))))) v1 h))
def w_B_writeShifts_10 (Φ : bs_R → bs_H → Prop) : Nat → Nat → Int32 → bs_H → Prop
  | 0 => fun _ _ _ => False
  | n + 1 => fun x0 x1 h => w_B_writeShifts_10_s Φ (w_B_writeShifts_10 Φ n) x0 x1 h
def w_B_writeShifts (Φ : bs_R → bs_H → Prop) (x0 : Nat) (h : bs_H) : Prop :=
  bs_fA h x0 0 0 (fun v1 => bs_on h v1 1 (w_M_bits (bs_kI Φ fun v2 h3 => (w_B_writeShifts_10 Φ 1000 x0 ((1 : Int32) - v2) h3)) v1 h))
theorem m_B_writeShifts_10 {l : Launch} {R : Room} {Φ : bs_R → bs_H → Prop} (hR : bs_rm 4 R) : ∀ (n : Nat) (x0 : Nat) (x1 : Int32) (h : bs_H), w_B_writeShifts_10 Φ n x0 x1 h → bs_J l K_B_writeShifts R Φ 10 [(0, .ref x0), (1, .int x1)] [] h := by
  intro n
  induction n with
  | zero => intro x0 x1 h hw; exact hw.elim
  | succ n ih =>
    have hnx10 := ih
    intro x0 x1 h hw
    replace hw : w_B_writeShifts_10_s Φ (w_B_writeShifts_10 Φ n) x0 x1 h := hw
    unfold w_B_writeShifts_10_s at hw
    refine bj_iload_n (pc := 10) 1 d_B_writeShifts_10 rfl rfl ?_
    refine bj_aload_n (pc := 11) 0 d_B_writeShifts_11 rfl rfl ?_
    obtain ⟨fs, v1, hx, hv, hw⟩ := hw
    refine bj_get (pc := 12) (ci := 0) (k := 0) (fs := fs) (v := .ref v1) d_B_writeShifts_12 rfl (by decide) q_196 hx hv ?_
    obtain ⟨⟨fs, hx⟩, hw⟩ := hw
    refine bj_callV (pc := 15) (np := 0) (K' := K_M_bits) (argsL := []) (st := [.int x1]) (d1 := 1) (ci := 1) (fs := fs) rfl d_B_writeShifts_15 (Or.inl q_236) q_237 rfl q_238 c_M_bits n_M_bits hR (by decide) (by decide) rfl (Nat.le_of_ble_eq_true rfl) rfl (Nat.le_of_ble_eq_true rfl) hx (fun R' hR' => m_M_bits hR' hw) (bs_kI_ok fun v2 h3 hw => ?_) (fun _ _ z => z)
    refine bj_icmp_ge (pc := 18) (tgt := 44) d_B_writeShifts_18 (by decide) (fun hc => ?_) (fun hc => ?_)
    · replace hw := hw.1 hc
      refine bj_aload_n (pc := 44) 0 d_B_writeShifts_44 rfl rfl ?_
      obtain ⟨fs, v4, hx, hv, hw⟩ := hw
      refine bj_get (pc := 45) (ci := 0) (k := 4) (fs := fs) (v := .ref v4) d_B_writeShifts_45 rfl (by decide) q_200 hx hv ?_
      refine bj_aload_n (pc := 48) 0 d_B_writeShifts_48 rfl rfl ?_
      obtain ⟨fs, v5, hx, hv, hw⟩ := hw
      refine bj_get (pc := 49) (ci := 0) (k := 0) (fs := fs) (v := .ref v5) d_B_writeShifts_49 rfl (by decide) q_196 hx hv ?_
      obtain ⟨⟨fs, hx⟩, hw⟩ := hw
      refine bj_callV (pc := 52) (np := 0) (K' := K_M_bitsThatAreOne) (argsL := []) (st := [.ref v4]) (d1 := 1) (ci := 1) (fs := fs) rfl d_B_writeShifts_52 (Or.inl q_536) q_292 rfl q_293 c_M_bitsThatAreOne n_M_bitsThatAreOne hR (by decide) (by decide) rfl (Nat.le_of_ble_eq_true rfl) rfl (Nat.le_of_ble_eq_true rfl) hx (fun R' hR' => m_M_bitsThatAreOne hR' hw) (bs_kL_ok fun v6 h7 hw => ?_) (fun _ _ z => z)
      obtain ⟨⟨fs, hx⟩, hw⟩ := hw
      refine bj_callV (pc := 55) (np := 1) (K' := K_P_appendSet) (argsL := [.long v6]) (st := []) (d1 := 3) (ci := 2) (fs := fs) rfl d_B_writeShifts_55 (Or.inl q_537) q_538 rfl q_539 c_P_appendSet n_P_appendSet hR (by decide) (by decide) rfl (Nat.le_of_ble_eq_true rfl) rfl (Nat.le_of_ble_eq_true rfl) hx (fun R' hR' => m_P_appendSet hR' hw) (bs_kV_ok fun h8 hw => ?_) (fun _ _ z => z)
      exact bj_vret (pc := 58) d_B_writeShifts_58 rfl hw
    · replace hw := hw.2 hc
      refine bj_aload_n (pc := 21) 0 d_B_writeShifts_21 rfl rfl ?_
      obtain ⟨fs, v9, hx, hv, hw⟩ := hw
      refine bj_get (pc := 22) (ci := 0) (k := 4) (fs := fs) (v := .ref v9) d_B_writeShifts_22 rfl (by decide) q_200 hx hv ?_
      refine bj_iconst (pc := 25) (v := 0) d_B_writeShifts_25 (by decide) ?_
      refine bj_iload_n (pc := 26) 1 d_B_writeShifts_26 rfl rfl ?_
      refine bj_aload_n (pc := 27) 0 d_B_writeShifts_27 rfl rfl ?_
      obtain ⟨fs, v10, hx, hv, hw⟩ := hw
      refine bj_get (pc := 28) (ci := 0) (k := 0) (fs := fs) (v := .ref v10) d_B_writeShifts_28 rfl (by decide) q_196 hx hv ?_
      refine bj_iload_n (pc := 31) 1 d_B_writeShifts_31 rfl rfl ?_
      obtain ⟨⟨fs, hx⟩, hw⟩ := hw
      refine bj_callV (pc := 32) (np := 1) (K' := K_M_bitsShifted) (argsL := [.int x1]) (st := [.int x1, .int 0, .ref v9]) (d1 := 2) (ci := 1) (fs := fs) rfl d_B_writeShifts_32 (Or.inl q_520) q_521 rfl q_522 c_M_bitsShifted n_M_bitsShifted hR (by decide) (by decide) rfl (Nat.le_of_ble_eq_true rfl) rfl (Nat.le_of_ble_eq_true rfl) hx (fun R' hR' => m_M_bitsShifted hR' hw) (bs_kL_ok fun v11 h12 hw => ?_) (fun _ _ z => z)
      obtain ⟨⟨fs, hx⟩, hw⟩ := hw
      refine bj_callV (pc := 35) (np := 3) (K' := K_P_appendMove) (argsL := [.int 0, .int x1, .long v11]) (st := []) (d1 := 3) (ci := 2) (fs := fs) rfl d_B_writeShifts_35 (Or.inl q_524) q_525 rfl q_526 c_P_appendMove n_P_appendMove hR (by decide) (by decide) rfl (Nat.le_of_ble_eq_true rfl) rfl (Nat.le_of_ble_eq_true rfl) hx (fun R' hR' => m_P_appendMove hR' hw) (bs_kV_ok fun h13 hw => ?_) (fun _ _ z => z)
      refine bj_iinc (pc := 38) (v := (x1 + 1)) (lo' := [(1, .int (x1 + 1)), (0, .ref x0)]) 1 d_B_writeShifts_38 rfl rfl (by decide) rfl ?_
      refine bj_goto (pc := 41) (tgt := 10) d_B_writeShifts_41 (by decide) ?_
      refine bj_sub [1, 0] (lo' := [(0, .ref x0), (1, .int (x1 + 1))]) rfl ?_
      exact hnx10 _ _ _ hw
theorem m_B_writeShifts {l : Launch} {R : Room} (hR : bs_rm 4 R) {Φ : bs_R → bs_H → Prop} {x0 : Nat} {h : bs_H} (hw : w_B_writeShifts Φ x0 h) : bs_J l K_B_writeShifts R Φ 0 [(0, .ref x0)] [] h := by
  unfold w_B_writeShifts at hw
  refine bj_iconst (pc := 0) (v := 1) d_B_writeShifts_0 (by decide) ?_
  refine bj_aload_n (pc := 1) 0 d_B_writeShifts_1 rfl rfl ?_
  obtain ⟨fs, v1, hx, hv, hw⟩ := hw
  refine bj_get (pc := 2) (ci := 0) (k := 0) (fs := fs) (v := .ref v1) d_B_writeShifts_2 rfl (by decide) q_196 hx hv ?_
  obtain ⟨⟨fs, hx⟩, hw⟩ := hw
  refine bj_callV (pc := 5) (np := 0) (K' := K_M_bits) (argsL := []) (st := [.int 1]) (d1 := 1) (ci := 1) (fs := fs) rfl d_B_writeShifts_5 (Or.inl q_236) q_237 rfl q_238 c_M_bits n_M_bits hR (by decide) (by decide) rfl (Nat.le_of_ble_eq_true rfl) rfl (Nat.le_of_ble_eq_true rfl) hx (fun R' hR' => m_M_bits hR' hw) (bs_kI_ok fun v2 h3 hw => ?_) (fun _ _ z => z)
  refine bj_isub (pc := 8) d_B_writeShifts_8 ?_
  refine bj_istore_n (pc := 9) (lo' := [(1, .int ((1 : Int32) - v2)), (0, .ref x0)]) d_B_writeShifts_9 rfl (by decide) rfl ?_
  refine bj_sub [1, 0] (lo' := [(0, .ref x0), (1, .int ((1 : Int32) - v2))]) rfl ?_
  exact m_B_writeShifts_10 hR 1000 _ _ _ hw
theorem d_M_bitsRotated_0 : decode prog_2_method_16_code 0 = .ok (.aload_n 0, 1) := by decide +kernel
theorem d_M_bitsRotated_1 : decode prog_2_method_16_code 1 = .ok (.iload_n 1, 1) := by decide +kernel
theorem d_M_bitsRotated_2 : decode prog_2_method_16_code 2 = .ok (.invokevirtual 40, 3) := by decide +kernel
theorem d_M_bitsRotated_5 : decode prog_2_method_16_code 5 = .ok (.aload_n 0, 1) := by decide +kernel
theorem d_M_bitsRotated_6 : decode prog_2_method_16_code 6 = .ok (.iload_n 1, 1) := by decide +kernel
theorem d_M_bitsRotated_7 : decode prog_2_method_16_code 7 = .ok (.aload_n 0, 1) := by decide +kernel
theorem d_M_bitsRotated_8 : decode prog_2_method_16_code 8 = .ok (.getfield 15, 3) := by decide +kernel
theorem d_M_bitsRotated_11 : decode prog_2_method_16_code 11 = .ok (.isub, 1) := by decide +kernel
theorem d_M_bitsRotated_12 : decode prog_2_method_16_code 12 = .ok (.invokevirtual 40, 3) := by decide +kernel
theorem d_M_bitsRotated_15 : decode prog_2_method_16_code 15 = .ok (.lor, 1) := by decide +kernel
theorem d_M_bitsRotated_16 : decode prog_2_method_16_code 16 = .ok (.lreturn, 1) := by decide +kernel
def w_M_bitsRotated (Φ : bs_R → bs_H → Prop) (x0 : Nat) (x1 : Int32) (h : bs_H) : Prop :=
  bs_on h x0 1 (w_M_bitsShifted (bs_kL Φ fun v1 h2 => (bs_fI h2 x0 1 1 (fun v3 => bs_on h2 x0 1 (w_M_bitsShifted (bs_kL Φ fun v4 h5 => (Φ (.ok (some (.long (v1 ||| v4)))) h5)) x0 (x1 - v3) h2)))) x0 x1 h)
theorem m_M_bitsRotated {l : Launch} {R : Room} (hR : bs_rm 3 R) {Φ : bs_R → bs_H → Prop} {x0 : Nat} {x1 : Int32} {h : bs_H} (hw : w_M_bitsRotated Φ x0 x1 h) : bs_J l K_M_bitsRotated R Φ 0 [(0, .ref x0), (1, .int x1)] [] h := by
  unfold w_M_bitsRotated at hw
  refine bj_aload_n (pc := 0) 0 d_M_bitsRotated_0 rfl rfl ?_
  refine bj_iload_n (pc := 1) 1 d_M_bitsRotated_1 rfl rfl ?_
  obtain ⟨⟨fs, hx⟩, hw⟩ := hw
  refine bj_callV (pc := 2) (np := 1) (K' := K_M_bitsShifted) (argsL := [.int x1]) (st := []) (d1 := 2) (ci := 1) (fs := fs) rfl d_M_bitsRotated_2 (Or.inl q_549) q_521 rfl q_522 c_M_bitsShifted n_M_bitsShifted hR (by decide) (by decide) rfl (Nat.le_of_ble_eq_true rfl) rfl (Nat.le_of_ble_eq_true rfl) hx (fun R' hR' => m_M_bitsShifted hR' hw) (bs_kL_ok fun v1 h2 hw => ?_) (fun _ _ z => z)
  refine bj_aload_n (pc := 5) 0 d_M_bitsRotated_5 rfl rfl ?_
  refine bj_iload_n (pc := 6) 1 d_M_bitsRotated_6 rfl rfl ?_
  refine bj_aload_n (pc := 7) 0 d_M_bitsRotated_7 rfl rfl ?_
  obtain ⟨fs, v3, hx, hv, hw⟩ := hw
  refine bj_get (pc := 8) (ci := 1) (k := 1) (fs := fs) (v := .int v3) d_M_bitsRotated_8 rfl (by decide) q_79 hx hv ?_
  refine bj_isub (pc := 11) d_M_bitsRotated_11 ?_
  obtain ⟨⟨fs, hx⟩, hw⟩ := hw
  refine bj_callV (pc := 12) (np := 1) (K' := K_M_bitsShifted) (argsL := [.int (x1 - v3)]) (st := [.long v1]) (d1 := 2) (ci := 1) (fs := fs) rfl d_M_bitsRotated_12 (Or.inl q_549) q_521 rfl q_522 c_M_bitsShifted n_M_bitsShifted hR (by decide) (by decide) rfl (Nat.le_of_ble_eq_true rfl) rfl (Nat.le_of_ble_eq_true rfl) hx (fun R' hR' => m_M_bitsShifted hR' hw) (bs_kL_ok fun v4 h5 hw => ?_) (fun _ _ z => z)
  refine bj_lor (pc := 15) d_M_bitsRotated_15 ?_
  exact bj_lret (pc := 16) d_M_bitsRotated_16 rfl hw
theorem d_B_writeRotations_0 : decode prog_1_method_23_code 0 = .ok (.iconst 0, 1) := by decide +kernel
theorem d_B_writeRotations_1 : decode prog_1_method_23_code 1 = .ok (.istore_n 1, 1) := by decide +kernel
theorem d_B_writeRotations_2 : decode prog_1_method_23_code 2 = .ok (.iload_n 1, 1) := by decide +kernel
theorem d_B_writeRotations_3 : decode prog_1_method_23_code 3 = .ok (.aload_n 0, 1) := by decide +kernel
theorem d_B_writeRotations_4 : decode prog_1_method_23_code 4 = .ok (.getfield 12, 3) := by decide +kernel
theorem d_B_writeRotations_7 : decode prog_1_method_23_code 7 = .ok (.invokevirtual 91, 3) := by decide +kernel
theorem d_B_writeRotations_10 : decode prog_1_method_23_code 10 = .ok (.if_icmp .ge 26, 3) := by decide +kernel
theorem d_B_writeRotations_13 : decode prog_1_method_23_code 13 = .ok (.aload_n 0, 1) := by decide +kernel
theorem d_B_writeRotations_14 : decode prog_1_method_23_code 14 = .ok (.getfield 30, 3) := by decide +kernel
theorem d_B_writeRotations_17 : decode prog_1_method_23_code 17 = .ok (.iconst 1, 1) := by decide +kernel
theorem d_B_writeRotations_18 : decode prog_1_method_23_code 18 = .ok (.iload_n 1, 1) := by decide +kernel
theorem d_B_writeRotations_19 : decode prog_1_method_23_code 19 = .ok (.aload_n 0, 1) := by decide +kernel
theorem d_B_writeRotations_20 : decode prog_1_method_23_code 20 = .ok (.getfield 12, 3) := by decide +kernel
theorem d_B_writeRotations_23 : decode prog_1_method_23_code 23 = .ok (.iload_n 1, 1) := by decide +kernel
theorem d_B_writeRotations_24 : decode prog_1_method_23_code 24 = .ok (.invokevirtual 198, 3) := by decide +kernel
theorem d_B_writeRotations_27 : decode prog_1_method_23_code 27 = .ok (.invokevirtual 187, 3) := by decide +kernel
theorem d_B_writeRotations_30 : decode prog_1_method_23_code 30 = .ok (.iinc 1 1, 3) := by decide +kernel
theorem d_B_writeRotations_33 : decode prog_1_method_23_code 33 = .ok (.goto (-31), 3) := by decide +kernel
theorem d_B_writeRotations_36 : decode prog_1_method_23_code 36 = .ok (.aload_n 0, 1) := by decide +kernel
theorem d_B_writeRotations_37 : decode prog_1_method_23_code 37 = .ok (.getfield 30, 3) := by decide +kernel
theorem d_B_writeRotations_40 : decode prog_1_method_23_code 40 = .ok (.aload_n 0, 1) := by decide +kernel
theorem d_B_writeRotations_41 : decode prog_1_method_23_code 41 = .ok (.getfield 12, 3) := by decide +kernel
theorem d_B_writeRotations_44 : decode prog_1_method_23_code 44 = .ok (.invokevirtual 190, 3) := by decide +kernel
theorem d_B_writeRotations_47 : decode prog_1_method_23_code 47 = .ok (.invokevirtual 194, 3) := by decide +kernel
theorem d_B_writeRotations_50 : decode prog_1_method_23_code 50 = .ok (.return_, 1) := by decide +kernel
def w_B_writeRotations_2_s (Φ : bs_R → bs_H → Prop) (nx2 : Nat → Int32 → bs_H → Prop) (x0 : Nat) (x1 : Int32) (h : bs_H) : Prop :=
  bs_fA h x0 0 0 (fun v1 => bs_on h v1 1 (w_M_bits (bs_kI Φ fun v2 h3 => (bs_if (v2 ≤ x1) (bs_fA h3 x0 0 4 (fun v4 => bs_fA h3 x0 0 0 (fun v5 => bs_on h3 v5 1 (w_M_bitsThatAreOne (bs_kL Φ fun v6 h7 => (bs_on h7 v4 2 (w_P_appendSet (bs_kV Φ fun h8 => (Φ (.ok none) h8)) v4 v6 h7))) v5 h3)))) (bs_fA h3 x0 0 4 (fun v9 => bs_fA h3 x0 0 0 (fun v10 => bs_on h3 v10 1 (w_M_bitsRotated (bs_kL Φ fun v11 h12 => (bs_on h12 v9 2 (w_P_appendMove (bs_kV Φ fun h13 => (nx2 x0 (x1 + 1) h13)) v9 1 x1 v11 h12))) v10 x1 h3)))))) v1 h))
def w_B_writeRotations_2 (Φ : bs_R → bs_H → Prop) : Nat → Nat → Int32 → bs_H → Prop
  | 0 => fun _ _ _ => False
  | n + 1 => fun x0 x1 h => w_B_writeRotations_2_s Φ (w_B_writeRotations_2 Φ n) x0 x1 h
def w_B_writeRotations (Φ : bs_R → bs_H → Prop) (x0 : Nat) (h : bs_H) : Prop :=
  w_B_writeRotations_2 Φ 1000 x0 0 h
theorem m_B_writeRotations_2 {l : Launch} {R : Room} {Φ : bs_R → bs_H → Prop} (hR : bs_rm 4 R) : ∀ (n : Nat) (x0 : Nat) (x1 : Int32) (h : bs_H), w_B_writeRotations_2 Φ n x0 x1 h → bs_J l K_B_writeRotations R Φ 2 [(0, .ref x0), (1, .int x1)] [] h := by
  intro n
  induction n with
  | zero => intro x0 x1 h hw; exact hw.elim
  | succ n ih =>
    have hnx2 := ih
    intro x0 x1 h hw
    replace hw : w_B_writeRotations_2_s Φ (w_B_writeRotations_2 Φ n) x0 x1 h := hw
    unfold w_B_writeRotations_2_s at hw
    refine bj_iload_n (pc := 2) 1 d_B_writeRotations_2 rfl rfl ?_
    refine bj_aload_n (pc := 3) 0 d_B_writeRotations_3 rfl rfl ?_
    obtain ⟨fs, v1, hx, hv, hw⟩ := hw
    refine bj_get (pc := 4) (ci := 0) (k := 0) (fs := fs) (v := .ref v1) d_B_writeRotations_4 rfl (by decide) q_196 hx hv ?_
    obtain ⟨⟨fs, hx⟩, hw⟩ := hw
    refine bj_callV (pc := 7) (np := 0) (K' := K_M_bits) (argsL := []) (st := [.int x1]) (d1 := 1) (ci := 1) (fs := fs) rfl d_B_writeRotations_7 (Or.inl q_236) q_237 rfl q_238 c_M_bits n_M_bits hR (by decide) (by decide) rfl (Nat.le_of_ble_eq_true rfl) rfl (Nat.le_of_ble_eq_true rfl) hx (fun R' hR' => m_M_bits hR' hw) (bs_kI_ok fun v2 h3 hw => ?_) (fun _ _ z => z)
    refine bj_icmp_ge (pc := 10) (tgt := 36) d_B_writeRotations_10 (by decide) (fun hc => ?_) (fun hc => ?_)
    · replace hw := hw.1 hc
      refine bj_aload_n (pc := 36) 0 d_B_writeRotations_36 rfl rfl ?_
      obtain ⟨fs, v4, hx, hv, hw⟩ := hw
      refine bj_get (pc := 37) (ci := 0) (k := 4) (fs := fs) (v := .ref v4) d_B_writeRotations_37 rfl (by decide) q_200 hx hv ?_
      refine bj_aload_n (pc := 40) 0 d_B_writeRotations_40 rfl rfl ?_
      obtain ⟨fs, v5, hx, hv, hw⟩ := hw
      refine bj_get (pc := 41) (ci := 0) (k := 0) (fs := fs) (v := .ref v5) d_B_writeRotations_41 rfl (by decide) q_196 hx hv ?_
      obtain ⟨⟨fs, hx⟩, hw⟩ := hw
      refine bj_callV (pc := 44) (np := 0) (K' := K_M_bitsThatAreOne) (argsL := []) (st := [.ref v4]) (d1 := 1) (ci := 1) (fs := fs) rfl d_B_writeRotations_44 (Or.inl q_536) q_292 rfl q_293 c_M_bitsThatAreOne n_M_bitsThatAreOne hR (by decide) (by decide) rfl (Nat.le_of_ble_eq_true rfl) rfl (Nat.le_of_ble_eq_true rfl) hx (fun R' hR' => m_M_bitsThatAreOne hR' hw) (bs_kL_ok fun v6 h7 hw => ?_) (fun _ _ z => z)
      obtain ⟨⟨fs, hx⟩, hw⟩ := hw
      refine bj_callV (pc := 47) (np := 1) (K' := K_P_appendSet) (argsL := [.long v6]) (st := []) (d1 := 3) (ci := 2) (fs := fs) rfl d_B_writeRotations_47 (Or.inl q_537) q_538 rfl q_539 c_P_appendSet n_P_appendSet hR (by decide) (by decide) rfl (Nat.le_of_ble_eq_true rfl) rfl (Nat.le_of_ble_eq_true rfl) hx (fun R' hR' => m_P_appendSet hR' hw) (bs_kV_ok fun h8 hw => ?_) (fun _ _ z => z)
      exact bj_vret (pc := 50) d_B_writeRotations_50 rfl hw
    · replace hw := hw.2 hc
      refine bj_aload_n (pc := 13) 0 d_B_writeRotations_13 rfl rfl ?_
      obtain ⟨fs, v9, hx, hv, hw⟩ := hw
      refine bj_get (pc := 14) (ci := 0) (k := 4) (fs := fs) (v := .ref v9) d_B_writeRotations_14 rfl (by decide) q_200 hx hv ?_
      refine bj_iconst (pc := 17) (v := 1) d_B_writeRotations_17 (by decide) ?_
      refine bj_iload_n (pc := 18) 1 d_B_writeRotations_18 rfl rfl ?_
      refine bj_aload_n (pc := 19) 0 d_B_writeRotations_19 rfl rfl ?_
      obtain ⟨fs, v10, hx, hv, hw⟩ := hw
      refine bj_get (pc := 20) (ci := 0) (k := 0) (fs := fs) (v := .ref v10) d_B_writeRotations_20 rfl (by decide) q_196 hx hv ?_
      refine bj_iload_n (pc := 23) 1 d_B_writeRotations_23 rfl rfl ?_
      obtain ⟨⟨fs, hx⟩, hw⟩ := hw
      refine bj_callV (pc := 24) (np := 1) (K' := K_M_bitsRotated) (argsL := [.int x1]) (st := [.int x1, .int 1, .ref v9]) (d1 := 3) (ci := 1) (fs := fs) rfl d_B_writeRotations_24 (Or.inl q_545) q_546 rfl q_547 c_M_bitsRotated n_M_bitsRotated hR (by decide) (by decide) rfl (Nat.le_of_ble_eq_true rfl) rfl (Nat.le_of_ble_eq_true rfl) hx (fun R' hR' => m_M_bitsRotated hR' hw) (bs_kL_ok fun v11 h12 hw => ?_) (fun _ _ z => z)
      obtain ⟨⟨fs, hx⟩, hw⟩ := hw
      refine bj_callV (pc := 27) (np := 3) (K' := K_P_appendMove) (argsL := [.int 1, .int x1, .long v11]) (st := []) (d1 := 3) (ci := 2) (fs := fs) rfl d_B_writeRotations_27 (Or.inl q_524) q_525 rfl q_526 c_P_appendMove n_P_appendMove hR (by decide) (by decide) rfl (Nat.le_of_ble_eq_true rfl) rfl (Nat.le_of_ble_eq_true rfl) hx (fun R' hR' => m_P_appendMove hR' hw) (bs_kV_ok fun h13 hw => ?_) (fun _ _ z => z)
      refine bj_iinc (pc := 30) (v := (x1 + 1)) (lo' := [(1, .int (x1 + 1)), (0, .ref x0)]) 1 d_B_writeRotations_30 rfl rfl (by decide) rfl ?_
      refine bj_goto (pc := 33) (tgt := 2) d_B_writeRotations_33 (by decide) ?_
      refine bj_sub [1, 0] (lo' := [(0, .ref x0), (1, .int (x1 + 1))]) rfl ?_
      exact hnx2 _ _ _ hw
theorem m_B_writeRotations {l : Launch} {R : Room} (hR : bs_rm 4 R) {Φ : bs_R → bs_H → Prop} {x0 : Nat} {h : bs_H} (hw : w_B_writeRotations Φ x0 h) : bs_J l K_B_writeRotations R Φ 0 [(0, .ref x0)] [] h := by
  unfold w_B_writeRotations at hw
  refine bj_iconst (pc := 0) (v := 0) d_B_writeRotations_0 (by decide) ?_
  refine bj_istore_n (pc := 1) (lo' := [(1, .int 0), (0, .ref x0)]) d_B_writeRotations_1 rfl (by decide) rfl ?_
  refine bj_sub [1, 0] (lo' := [(0, .ref x0), (1, .int 0)]) rfl ?_
  exact m_B_writeRotations_2 hR 1000 _ _ _ hw
theorem d_X_followWays_0 : decode prog_5_method_4_code 0 = .ok (.iload_n 1, 1) := by decide +kernel
theorem d_X_followWays_1 : decode prog_5_method_4_code 1 = .ok (.istore_n 3, 1) := by decide +kernel
theorem d_X_followWays_2 : decode prog_5_method_4_code 2 = .ok (.iconst 0, 1) := by decide +kernel
theorem d_X_followWays_3 : decode prog_5_method_4_code 3 = .ok (.istore 4, 2) := by decide +kernel
theorem d_X_followWays_5 : decode prog_5_method_4_code 5 = .ok (.iload 4, 2) := by decide +kernel
theorem d_X_followWays_7 : decode prog_5_method_4_code 7 = .ok (.aload_n 0, 1) := by decide +kernel
theorem d_X_followWays_8 : decode prog_5_method_4_code 8 = .ok (.getfield 22, 3) := by decide +kernel
theorem d_X_followWays_11 : decode prog_5_method_4_code 11 = .ok (.if_icmp .ge 87, 3) := by decide +kernel
theorem d_X_followWays_14 : decode prog_5_method_4_code 14 = .ok (.aload_n 0, 1) := by decide +kernel
theorem d_X_followWays_15 : decode prog_5_method_4_code 15 = .ok (.getfield 63, 3) := by decide +kernel
theorem d_X_followWays_18 : decode prog_5_method_4_code 18 = .ok (.iload_n 3, 1) := by decide +kernel
theorem d_X_followWays_19 : decode prog_5_method_4_code 19 = .ok (.invokestatic 70, 3) := by decide +kernel
theorem d_X_followWays_22 : decode prog_5_method_4_code 22 = .ok (.ifCond .ne 76, 3) := by decide +kernel
theorem d_X_followWays_25 : decode prog_5_method_4_code 25 = .ok (.aload_n 0, 1) := by decide +kernel
theorem d_X_followWays_26 : decode prog_5_method_4_code 26 = .ok (.getfield 9, 3) := by decide +kernel
theorem d_X_followWays_29 : decode prog_5_method_4_code 29 = .ok (.iload_n 3, 1) := by decide +kernel
theorem d_X_followWays_30 : decode prog_5_method_4_code 30 = .ok (.iaload, 1) := by decide +kernel
theorem d_X_followWays_31 : decode prog_5_method_4_code 31 = .ok (.iload_n 2, 1) := by decide +kernel
theorem d_X_followWays_32 : decode prog_5_method_4_code 32 = .ok (.ixor, 1) := by decide +kernel
theorem d_X_followWays_33 : decode prog_5_method_4_code 33 = .ok (.istore 5, 2) := by decide +kernel
theorem d_X_followWays_35 : decode prog_5_method_4_code 35 = .ok (.aload_n 0, 1) := by decide +kernel
theorem d_X_followWays_36 : decode prog_5_method_4_code 36 = .ok (.getfield 15, 3) := by decide +kernel
theorem d_X_followWays_39 : decode prog_5_method_4_code 39 = .ok (.iload 5, 2) := by decide +kernel
theorem d_X_followWays_41 : decode prog_5_method_4_code 41 = .ok (.iaload, 1) := by decide +kernel
theorem d_X_followWays_42 : decode prog_5_method_4_code 42 = .ok (.istore 6, 2) := by decide +kernel
theorem d_X_followWays_44 : decode prog_5_method_4_code 44 = .ok (.aload_n 0, 1) := by decide +kernel
theorem d_X_followWays_45 : decode prog_5_method_4_code 45 = .ok (.dup, 1) := by decide +kernel
theorem d_X_followWays_46 : decode prog_5_method_4_code 46 = .ok (.getfield 39, 3) := by decide +kernel
theorem d_X_followWays_49 : decode prog_5_method_4_code 49 = .ok (.lconst 1, 1) := by decide +kernel
theorem d_X_followWays_50 : decode prog_5_method_4_code 50 = .ok (.iload 5, 2) := by decide +kernel
theorem d_X_followWays_52 : decode prog_5_method_4_code 52 = .ok (.lshl, 1) := by decide +kernel
theorem d_X_followWays_53 : decode prog_5_method_4_code 53 = .ok (.lor, 1) := by decide +kernel
theorem d_X_followWays_54 : decode prog_5_method_4_code 54 = .ok (.putfield 39, 3) := by decide +kernel
theorem d_X_followWays_57 : decode prog_5_method_4_code 57 = .ok (.aload_n 0, 1) := by decide +kernel
theorem d_X_followWays_58 : decode prog_5_method_4_code 58 = .ok (.dup, 1) := by decide +kernel
theorem d_X_followWays_59 : decode prog_5_method_4_code 59 = .ok (.getfield 53, 3) := by decide +kernel
theorem d_X_followWays_62 : decode prog_5_method_4_code 62 = .ok (.lconst 1, 1) := by decide +kernel
theorem d_X_followWays_63 : decode prog_5_method_4_code 63 = .ok (.iload 6, 2) := by decide +kernel
theorem d_X_followWays_65 : decode prog_5_method_4_code 65 = .ok (.lshl, 1) := by decide +kernel
theorem d_X_followWays_66 : decode prog_5_method_4_code 66 = .ok (.lor, 1) := by decide +kernel
theorem d_X_followWays_67 : decode prog_5_method_4_code 67 = .ok (.putfield 53, 3) := by decide +kernel
theorem d_X_followWays_70 : decode prog_5_method_4_code 70 = .ok (.aload_n 0, 1) := by decide +kernel
theorem d_X_followWays_71 : decode prog_5_method_4_code 71 = .ok (.dup, 1) := by decide +kernel
theorem d_X_followWays_72 : decode prog_5_method_4_code 72 = .ok (.getfield 63, 3) := by decide +kernel
theorem d_X_followWays_75 : decode prog_5_method_4_code 75 = .ok (.lconst 1, 1) := by decide +kernel
theorem d_X_followWays_76 : decode prog_5_method_4_code 76 = .ok (.iload_n 3, 1) := by decide +kernel
theorem d_X_followWays_77 : decode prog_5_method_4_code 77 = .ok (.lshl, 1) := by decide +kernel
theorem d_X_followWays_78 : decode prog_5_method_4_code 78 = .ok (.lconst 1, 1) := by decide +kernel
theorem d_X_followWays_79 : decode prog_5_method_4_code 79 = .ok (.iload 6, 2) := by decide +kernel
theorem d_X_followWays_81 : decode prog_5_method_4_code 81 = .ok (.lshl, 1) := by decide +kernel
theorem d_X_followWays_82 : decode prog_5_method_4_code 82 = .ok (.lor, 1) := by decide +kernel
theorem d_X_followWays_83 : decode prog_5_method_4_code 83 = .ok (.lor, 1) := by decide +kernel
theorem d_X_followWays_84 : decode prog_5_method_4_code 84 = .ok (.putfield 63, 3) := by decide +kernel
theorem d_X_followWays_87 : decode prog_5_method_4_code 87 = .ok (.iload 6, 2) := by decide +kernel
theorem d_X_followWays_89 : decode prog_5_method_4_code 89 = .ok (.iload_n 2, 1) := by decide +kernel
theorem d_X_followWays_90 : decode prog_5_method_4_code 90 = .ok (.ixor, 1) := by decide +kernel
theorem d_X_followWays_91 : decode prog_5_method_4_code 91 = .ok (.istore_n 3, 1) := by decide +kernel
theorem d_X_followWays_92 : decode prog_5_method_4_code 92 = .ok (.iinc 4 1, 3) := by decide +kernel
theorem d_X_followWays_95 : decode prog_5_method_4_code 95 = .ok (.goto (-90), 3) := by decide +kernel
theorem d_X_followWays_98 : decode prog_5_method_4_code 98 = .ok (.return_, 1) := by decide +kernel
def w_X_followWays_98 (Φ : bs_R → bs_H → Prop) (h : bs_H) : Prop :=
  Φ (.ok none) h
def w_X_followWays_5_s (Φ : bs_R → bs_H → Prop) (nx5 : Nat → Int32 → Int32 → Int32 → bs_H → Prop) (x0 : Nat) (x2 : Int32) (x3 : Int32) (x4 : Int32) (h : bs_H) : Prop :=
  bs_fI h x0 5 3 (fun v1 => bs_if (v1 ≤ x4) (w_X_followWays_98 Φ h) (bs_fL h x0 5 4 (fun v2 => w_B_holds (bs_kI Φ fun v3 h4 => (bs_if (v3 = 0) (bs_fA h4 x0 5 0 (fun v5 => bs_lI h4 v5 x3 (fun v6 => bs_fA h4 x0 5 1 (fun v7 => bs_lI h4 v7 (v6 ^^^ x2) (fun v8 => bs_fL h4 x0 5 5 (fun v9 => bs_p h4 x0 5 5 (.long (v9 ||| (bs_shl 1 (v6 ^^^ x2)))) (fun h10 => bs_fL h10 x0 5 6 (fun v11 => bs_p h10 x0 5 6 (.long (v11 ||| (bs_shl 1 v8))) (fun h12 => bs_fL h12 x0 5 4 (fun v13 => bs_p h12 x0 5 4 (.long (v13 ||| ((bs_shl 1 x3) ||| (bs_shl 1 v8)))) (fun h14 => nx5 x0 x2 (v8 ^^^ x2) (x4 + 1) h14))))))))))) (w_X_followWays_98 Φ h4))) v2 x3 h)))
def w_X_followWays_5 (Φ : bs_R → bs_H → Prop) : Nat → Nat → Int32 → Int32 → Int32 → bs_H → Prop
  | 0 => fun _ _ _ _ _ => False
  | n + 1 => fun x0 x2 x3 x4 h => w_X_followWays_5_s Φ (w_X_followWays_5 Φ n) x0 x2 x3 x4 h
def w_X_followWays (Φ : bs_R → bs_H → Prop) (x0 : Nat) (x1 : Int32) (x2 : Int32) (h : bs_H) : Prop :=
  w_X_followWays_5 Φ 1000 x0 x2 x1 0 h
theorem m_X_followWays_98 {l : Launch} {R : Room} {Φ : bs_R → bs_H → Prop} (hR : bs_rm 2 R) {h : bs_H} (hw : w_X_followWays_98 Φ h) : bs_J l K_X_followWays R Φ 98 [] [] h := by
  unfold w_X_followWays_98 at hw
  exact bj_vret (pc := 98) d_X_followWays_98 rfl hw
theorem m_X_followWays_5 {l : Launch} {R : Room} {Φ : bs_R → bs_H → Prop} (hR : bs_rm 2 R) : ∀ (n : Nat) (x0 : Nat) (x2 : Int32) (x3 : Int32) (x4 : Int32) (h : bs_H), w_X_followWays_5 Φ n x0 x2 x3 x4 h → bs_J l K_X_followWays R Φ 5 [(0, .ref x0), (2, .int x2), (3, .int x3), (4, .int x4)] [] h := by
  intro n
  induction n with
  | zero => intro x0 x2 x3 x4 h hw; exact hw.elim
  | succ n ih =>
    have hnx5 := ih
    intro x0 x2 x3 x4 h hw
    replace hw : w_X_followWays_5_s Φ (w_X_followWays_5 Φ n) x0 x2 x3 x4 h := hw
    unfold w_X_followWays_5_s at hw
    refine bj_iload (pc := 5) 3 d_X_followWays_5 rfl ?_
    refine bj_aload_n (pc := 7) 0 d_X_followWays_7 rfl rfl ?_
    obtain ⟨fs, v1, hx, hv, hw⟩ := hw
    refine bj_get (pc := 8) (ci := 5) (k := 3) (fs := fs) (v := .int v1) d_X_followWays_8 rfl (by decide) q_157 hx hv ?_
    refine bj_icmp_ge (pc := 11) (tgt := 98) d_X_followWays_11 (by decide) (fun hc => ?_) (fun hc => ?_)
    · replace hw := hw.1 hc
      refine bj_sub [] (lo' := []) rfl ?_
      exact m_X_followWays_98 hR hw
    · replace hw := hw.2 hc
      refine bj_aload_n (pc := 14) 0 d_X_followWays_14 rfl rfl ?_
      obtain ⟨fs, v2, hx, hv, hw⟩ := hw
      refine bj_get (pc := 15) (ci := 5) (k := 4) (fs := fs) (v := .long v2) d_X_followWays_15 rfl (by decide) q_158 hx hv ?_
      refine bj_iload_n (pc := 18) 2 d_X_followWays_18 rfl rfl ?_
      refine bj_callS (pc := 19) (np := 2) (K' := K_B_holds) (argsL := [.long v2, .int x3]) (st := []) (d1 := 1) rfl d_X_followWays_19 (Or.inr ⟨_, q_564⟩) q_277 q_46 c_B_holds n_B_holds hR (by decide) (by decide) rfl (Nat.le_of_ble_eq_true rfl) rfl (Nat.le_of_ble_eq_true rfl) (fun R' hR' => m_B_holds hR' hw) (bs_kI_ok fun v3 h4 hw => ?_) (fun _ _ z => z)
      refine bj_if_ne (pc := 22) (tgt := 98) d_X_followWays_22 (by decide) (fun hc => ?_) (fun hc => ?_)
      · replace hw := hw.2 hc
        refine bj_sub [] (lo' := []) rfl ?_
        exact m_X_followWays_98 hR hw
      · replace hw := hw.1 hc
        refine bj_aload_n (pc := 25) 0 d_X_followWays_25 rfl rfl ?_
        obtain ⟨fs, v5, hx, hv, hw⟩ := hw
        refine bj_get (pc := 26) (ci := 5) (k := 0) (fs := fs) (v := .ref v5) d_X_followWays_26 rfl (by decide) q_154 hx hv ?_
        refine bj_iload_n (pc := 29) 2 d_X_followWays_29 rfl rfl ?_
        obtain ⟨n, f, v6, hx, hin, hv, hw⟩ := hw
        refine bj_iald (pc := 30) (n := n) (f := f) d_X_followWays_30 hx hin hv ?_
        refine bj_iload_n (pc := 31) 1 d_X_followWays_31 rfl rfl ?_
        refine bj_ixor (pc := 32) d_X_followWays_32 ?_
        refine bj_istore (pc := 33) (lo' := [(5, .int (v6 ^^^ x2)), (0, .ref x0), (2, .int x2), (3, .int x3), (4, .int x4)]) d_X_followWays_33 (by decide) rfl ?_
        refine bj_aload_n (pc := 35) 1 d_X_followWays_35 rfl rfl ?_
        obtain ⟨fs, v7, hx, hv, hw⟩ := hw
        refine bj_get (pc := 36) (ci := 5) (k := 1) (fs := fs) (v := .ref v7) d_X_followWays_36 rfl (by decide) q_155 hx hv ?_
        refine bj_iload (pc := 39) 0 d_X_followWays_39 rfl ?_
        obtain ⟨n, f, v8, hx, hin, hv, hw⟩ := hw
        refine bj_iald (pc := 41) (n := n) (f := f) d_X_followWays_41 hx hin hv ?_
        refine bj_istore (pc := 42) (lo' := [(6, .int v8), (5, .int (v6 ^^^ x2)), (0, .ref x0), (2, .int x2), (3, .int x3), (4, .int x4)]) d_X_followWays_42 (by decide) rfl ?_
        refine bj_aload_n (pc := 44) 2 d_X_followWays_44 rfl rfl ?_
        refine bj_dup (pc := 45) d_X_followWays_45 rfl ?_
        obtain ⟨fs, v9, hx, hv, hw⟩ := hw
        refine bj_get (pc := 46) (ci := 5) (k := 5) (fs := fs) (v := .long v9) d_X_followWays_46 rfl (by decide) q_159 hx hv ?_
        refine bj_lconst (pc := 49) (v := 1) d_X_followWays_49 (by decide) ?_
        refine bj_iload (pc := 50) 1 d_X_followWays_50 rfl ?_
        refine bj_lshl (pc := 52) d_X_followWays_52 ?_
        refine bj_lor (pc := 53) d_X_followWays_53 ?_
        obtain ⟨fs, hx, hlen, hw⟩ := hw
        refine bj_put (pc := 54) (ci := 5) (k := 5) (fs := fs) (v := (.long (v9 ||| (bs_shl 1 (v6 ^^^ x2))))) (ty := .long) d_X_followWays_54 rfl (by decide) q_159 rfl (by decide +kernel) rfl rfl hx hlen ?_
        refine bj_aload_n (pc := 57) 2 d_X_followWays_57 rfl rfl ?_
        refine bj_dup (pc := 58) d_X_followWays_58 rfl ?_
        obtain ⟨fs, v11, hx, hv, hw⟩ := hw
        refine bj_get (pc := 59) (ci := 5) (k := 6) (fs := fs) (v := .long v11) d_X_followWays_59 rfl (by decide) q_160 hx hv ?_
        refine bj_lconst (pc := 62) (v := 1) d_X_followWays_62 (by decide) ?_
        refine bj_iload (pc := 63) 0 d_X_followWays_63 rfl ?_
        refine bj_lshl (pc := 65) d_X_followWays_65 ?_
        refine bj_lor (pc := 66) d_X_followWays_66 ?_
        obtain ⟨fs, hx, hlen, hw⟩ := hw
        refine bj_put (pc := 67) (ci := 5) (k := 6) (fs := fs) (v := (.long (v11 ||| (bs_shl 1 v8)))) (ty := .long) d_X_followWays_67 rfl (by decide) q_160 rfl (by decide +kernel) rfl rfl hx hlen ?_
        refine bj_aload_n (pc := 70) 2 d_X_followWays_70 rfl rfl ?_
        refine bj_dup (pc := 71) d_X_followWays_71 rfl ?_
        obtain ⟨fs, v13, hx, hv, hw⟩ := hw
        refine bj_get (pc := 72) (ci := 5) (k := 4) (fs := fs) (v := .long v13) d_X_followWays_72 rfl (by decide) q_158 hx hv ?_
        refine bj_lconst (pc := 75) (v := 1) d_X_followWays_75 (by decide) ?_
        refine bj_iload_n (pc := 76) 4 d_X_followWays_76 rfl rfl ?_
        refine bj_lshl (pc := 77) d_X_followWays_77 ?_
        refine bj_lconst (pc := 78) (v := 1) d_X_followWays_78 (by decide) ?_
        refine bj_iload (pc := 79) 0 d_X_followWays_79 rfl ?_
        refine bj_lshl (pc := 81) d_X_followWays_81 ?_
        refine bj_lor (pc := 82) d_X_followWays_82 ?_
        refine bj_lor (pc := 83) d_X_followWays_83 ?_
        obtain ⟨fs, hx, hlen, hw⟩ := hw
        refine bj_put (pc := 84) (ci := 5) (k := 4) (fs := fs) (v := (.long (v13 ||| ((bs_shl 1 x3) ||| (bs_shl 1 v8))))) (ty := .long) d_X_followWays_84 rfl (by decide) q_158 rfl (by decide +kernel) rfl rfl hx hlen ?_
        refine bj_iload (pc := 87) 0 d_X_followWays_87 rfl ?_
        refine bj_iload_n (pc := 89) 3 d_X_followWays_89 rfl rfl ?_
        refine bj_ixor (pc := 90) d_X_followWays_90 ?_
        refine bj_istore_n (pc := 91) (lo' := [(3, .int (v8 ^^^ x2)), (6, .int v8), (5, .int (v6 ^^^ x2)), (0, .ref x0), (2, .int x2), (4, .int x4)]) d_X_followWays_91 rfl (by decide) rfl ?_
        refine bj_iinc (pc := 92) (v := (x4 + 1)) (lo' := [(4, .int (x4 + 1)), (3, .int (v8 ^^^ x2)), (6, .int v8), (5, .int (v6 ^^^ x2)), (0, .ref x0), (2, .int x2)]) 5 d_X_followWays_92 rfl rfl (by decide) rfl ?_
        refine bj_goto (pc := 95) (tgt := 5) d_X_followWays_95 (by decide) ?_
        refine bj_sub [4, 5, 1, 0] (lo' := [(0, .ref x0), (2, .int x2), (3, .int (v8 ^^^ x2)), (4, .int (x4 + 1))]) rfl ?_
        exact hnx5 _ _ _ _ _ hw
theorem m_X_followWays {l : Launch} {R : Room} (hR : bs_rm 2 R) {Φ : bs_R → bs_H → Prop} {x0 : Nat} {x1 : Int32} {x2 : Int32} {h : bs_H} (hw : w_X_followWays Φ x0 x1 x2 h) : bs_J l K_X_followWays R Φ 0 [(0, .ref x0), (1, .int x1), (2, .int x2)] [] h := by
  unfold w_X_followWays at hw
  refine bj_iload_n (pc := 0) 1 d_X_followWays_0 rfl rfl ?_
  refine bj_istore_n (pc := 1) (lo' := [(3, .int x1), (0, .ref x0), (1, .int x1), (2, .int x2)]) d_X_followWays_1 rfl (by decide) rfl ?_
  refine bj_iconst (pc := 2) (v := 0) d_X_followWays_2 (by decide) ?_
  refine bj_istore (pc := 3) (lo' := [(4, .int 0), (3, .int x1), (0, .ref x0), (1, .int x1), (2, .int x2)]) d_X_followWays_3 (by decide) rfl ?_
  refine bj_sub [2, 4, 1, 0] (lo' := [(0, .ref x0), (2, .int x2), (3, .int x1), (4, .int 0)]) rfl ?_
  exact m_X_followWays_5 hR 1000 _ _ _ _ _ hw
theorem d_X_decideWays_0 : decode prog_5_method_3_code 0 = .ok (.aload_n 0, 1) := by decide +kernel
theorem d_X_decideWays_1 : decode prog_5_method_3_code 1 = .ok (.lconst 0, 1) := by decide +kernel
theorem d_X_decideWays_2 : decode prog_5_method_3_code 2 = .ok (.putfield 63, 3) := by decide +kernel
theorem d_X_decideWays_5 : decode prog_5_method_3_code 5 = .ok (.aload_n 0, 1) := by decide +kernel
theorem d_X_decideWays_6 : decode prog_5_method_3_code 6 = .ok (.lconst 0, 1) := by decide +kernel
theorem d_X_decideWays_7 : decode prog_5_method_3_code 7 = .ok (.putfield 39, 3) := by decide +kernel
theorem d_X_decideWays_10 : decode prog_5_method_3_code 10 = .ok (.aload_n 0, 1) := by decide +kernel
theorem d_X_decideWays_11 : decode prog_5_method_3_code 11 = .ok (.lconst 0, 1) := by decide +kernel
theorem d_X_decideWays_12 : decode prog_5_method_3_code 12 = .ok (.putfield 53, 3) := by decide +kernel
theorem d_X_decideWays_15 : decode prog_5_method_3_code 15 = .ok (.iconst 0, 1) := by decide +kernel
theorem d_X_decideWays_16 : decode prog_5_method_3_code 16 = .ok (.istore_n 2, 1) := by decide +kernel
theorem d_X_decideWays_17 : decode prog_5_method_3_code 17 = .ok (.iload_n 2, 1) := by decide +kernel
theorem d_X_decideWays_18 : decode prog_5_method_3_code 18 = .ok (.aload_n 0, 1) := by decide +kernel
theorem d_X_decideWays_19 : decode prog_5_method_3_code 19 = .ok (.getfield 22, 3) := by decide +kernel
theorem d_X_decideWays_22 : decode prog_5_method_3_code 22 = .ok (.if_icmp .ge 21, 3) := by decide +kernel
theorem d_X_decideWays_25 : decode prog_5_method_3_code 25 = .ok (.aload_n 0, 1) := by decide +kernel
theorem d_X_decideWays_26 : decode prog_5_method_3_code 26 = .ok (.getfield 15, 3) := by decide +kernel
theorem d_X_decideWays_29 : decode prog_5_method_3_code 29 = .ok (.aload_n 0, 1) := by decide +kernel
theorem d_X_decideWays_30 : decode prog_5_method_3_code 30 = .ok (.getfield 9, 3) := by decide +kernel
theorem d_X_decideWays_33 : decode prog_5_method_3_code 33 = .ok (.iload_n 2, 1) := by decide +kernel
theorem d_X_decideWays_34 : decode prog_5_method_3_code 34 = .ok (.iaload, 1) := by decide +kernel
theorem d_X_decideWays_35 : decode prog_5_method_3_code 35 = .ok (.iload_n 2, 1) := by decide +kernel
theorem d_X_decideWays_36 : decode prog_5_method_3_code 36 = .ok (.iastore, 1) := by decide +kernel
theorem d_X_decideWays_37 : decode prog_5_method_3_code 37 = .ok (.iinc 2 1, 3) := by decide +kernel
theorem d_X_decideWays_40 : decode prog_5_method_3_code 40 = .ok (.goto (-23), 3) := by decide +kernel
theorem d_X_decideWays_43 : decode prog_5_method_3_code 43 = .ok (.iconst 0, 1) := by decide +kernel
theorem d_X_decideWays_44 : decode prog_5_method_3_code 44 = .ok (.istore_n 2, 1) := by decide +kernel
theorem d_X_decideWays_45 : decode prog_5_method_3_code 45 = .ok (.iload_n 2, 1) := by decide +kernel
theorem d_X_decideWays_46 : decode prog_5_method_3_code 46 = .ok (.aload_n 0, 1) := by decide +kernel
theorem d_X_decideWays_47 : decode prog_5_method_3_code 47 = .ok (.getfield 22, 3) := by decide +kernel
theorem d_X_decideWays_50 : decode prog_5_method_3_code 50 = .ok (.if_icmp .ge 21, 3) := by decide +kernel
theorem d_X_decideWays_53 : decode prog_5_method_3_code 53 = .ok (.iload_n 2, 1) := by decide +kernel
theorem d_X_decideWays_54 : decode prog_5_method_3_code 54 = .ok (.iload_n 1, 1) := by decide +kernel
theorem d_X_decideWays_55 : decode prog_5_method_3_code 55 = .ok (.iand, 1) := by decide +kernel
theorem d_X_decideWays_56 : decode prog_5_method_3_code 56 = .ok (.ifCond .ne 9, 3) := by decide +kernel
theorem d_X_decideWays_59 : decode prog_5_method_3_code 59 = .ok (.aload_n 0, 1) := by decide +kernel
theorem d_X_decideWays_60 : decode prog_5_method_3_code 60 = .ok (.iload_n 2, 1) := by decide +kernel
theorem d_X_decideWays_61 : decode prog_5_method_3_code 61 = .ok (.iload_n 1, 1) := by decide +kernel
theorem d_X_decideWays_62 : decode prog_5_method_3_code 62 = .ok (.invokevirtual 66, 3) := by decide +kernel
theorem d_X_decideWays_65 : decode prog_5_method_3_code 65 = .ok (.iinc 2 1, 3) := by decide +kernel
theorem d_X_decideWays_68 : decode prog_5_method_3_code 68 = .ok (.goto (-23), 3) := by decide +kernel
theorem d_X_decideWays_71 : decode prog_5_method_3_code 71 = .ok (.return_, 1) := by decide +kernel
def w_X_decideWays_65 (Φ : bs_R → bs_H → Prop) (nx45 : Nat → Int32 → Int32 → bs_H → Prop) (x0 : Nat) (x1 : Int32) (x2 : Int32) (h : bs_H) : Prop :=
  nx45 x0 x1 (x2 + 1) h
def w_X_decideWays_45_s (Φ : bs_R → bs_H → Prop) (nx45 : Nat → Int32 → Int32 → bs_H → Prop) (x0 : Nat) (x1 : Int32) (x2 : Int32) (h : bs_H) : Prop :=
  bs_fI h x0 5 3 (fun v1 => bs_if (v1 ≤ x2) (Φ (.ok none) h) (bs_if ((x2 &&& x1) = 0) (bs_on h x0 5 (w_X_followWays (bs_kV Φ fun h2 => (w_X_decideWays_65 Φ nx45 x0 x1 x2 h2)) x0 x2 x1 h)) (w_X_decideWays_65 Φ nx45 x0 x1 x2 h)))
def w_X_decideWays_45 (Φ : bs_R → bs_H → Prop) : Nat → Nat → Int32 → Int32 → bs_H → Prop
  | 0 => fun _ _ _ _ => False
  | n + 1 => fun x0 x1 x2 h => w_X_decideWays_45_s Φ (w_X_decideWays_45 Φ n) x0 x1 x2 h
def w_X_decideWays_17_s (Φ : bs_R → bs_H → Prop) (nx17 : Nat → Int32 → Int32 → bs_H → Prop) (x0 : Nat) (x1 : Int32) (x2 : Int32) (h : bs_H) : Prop :=
  bs_fI h x0 5 3 (fun v1 => bs_if (v1 ≤ x2) (w_X_decideWays_45 Φ 1000 x0 x1 0 h) (bs_fA h x0 5 1 (fun v2 => bs_fA h x0 5 0 (fun v3 => bs_lI h v3 x2 (fun v4 => bs_sI h v2 v4 x2 (fun h5 => nx17 x0 x1 (x2 + 1) h5))))))
def w_X_decideWays_17 (Φ : bs_R → bs_H → Prop) : Nat → Nat → Int32 → Int32 → bs_H → Prop
  | 0 => fun _ _ _ _ => False
  | n + 1 => fun x0 x1 x2 h => w_X_decideWays_17_s Φ (w_X_decideWays_17 Φ n) x0 x1 x2 h
def w_X_decideWays (Φ : bs_R → bs_H → Prop) (x0 : Nat) (x1 : Int32) (h : bs_H) : Prop :=
  bs_p h x0 5 4 (.long 0) (fun h1 => bs_p h1 x0 5 5 (.long 0) (fun h2 => bs_p h2 x0 5 6 (.long 0) (fun h3 => w_X_decideWays_17 Φ 1000 x0 x1 0 h3)))
theorem m_X_decideWays_65 {l : Launch} {R : Room} {Φ : bs_R → bs_H → Prop} (hR : bs_rm 3 R) {nx45 : Nat → Int32 → Int32 → bs_H → Prop} (hnx45 : ∀ (x0 : Nat) (x1 : Int32) (x2 : Int32) (h : bs_H), nx45 x0 x1 x2 h → bs_J l K_X_decideWays R Φ 45 [(0, .ref x0), (1, .int x1), (2, .int x2)] [] h) {x0 : Nat} {x1 : Int32} {x2 : Int32} {h : bs_H} (hw : w_X_decideWays_65 Φ nx45 x0 x1 x2 h) : bs_J l K_X_decideWays R Φ 65 [(0, .ref x0), (1, .int x1), (2, .int x2)] [] h := by
  unfold w_X_decideWays_65 at hw
  refine bj_iinc (pc := 65) (v := (x2 + 1)) (lo' := [(2, .int (x2 + 1)), (0, .ref x0), (1, .int x1)]) 2 d_X_decideWays_65 rfl rfl (by decide) rfl ?_
  refine bj_goto (pc := 68) (tgt := 45) d_X_decideWays_68 (by decide) ?_
  refine bj_sub [1, 2, 0] (lo' := [(0, .ref x0), (1, .int x1), (2, .int (x2 + 1))]) rfl ?_
  exact hnx45 _ _ _ _ hw
theorem m_X_decideWays_45 {l : Launch} {R : Room} {Φ : bs_R → bs_H → Prop} (hR : bs_rm 3 R) : ∀ (n : Nat) (x0 : Nat) (x1 : Int32) (x2 : Int32) (h : bs_H), w_X_decideWays_45 Φ n x0 x1 x2 h → bs_J l K_X_decideWays R Φ 45 [(0, .ref x0), (1, .int x1), (2, .int x2)] [] h := by
  intro n
  induction n with
  | zero => intro x0 x1 x2 h hw; exact hw.elim
  | succ n ih =>
    have hnx45 := ih
    intro x0 x1 x2 h hw
    replace hw : w_X_decideWays_45_s Φ (w_X_decideWays_45 Φ n) x0 x1 x2 h := hw
    unfold w_X_decideWays_45_s at hw
    refine bj_iload_n (pc := 45) 2 d_X_decideWays_45 rfl rfl ?_
    refine bj_aload_n (pc := 46) 0 d_X_decideWays_46 rfl rfl ?_
    obtain ⟨fs, v1, hx, hv, hw⟩ := hw
    refine bj_get (pc := 47) (ci := 5) (k := 3) (fs := fs) (v := .int v1) d_X_decideWays_47 rfl (by decide) q_157 hx hv ?_
    refine bj_icmp_ge (pc := 50) (tgt := 71) d_X_decideWays_50 (by decide) (fun hc => ?_) (fun hc => ?_)
    · replace hw := hw.1 hc
      exact bj_vret (pc := 71) d_X_decideWays_71 rfl hw
    · replace hw := hw.2 hc
      refine bj_iload_n (pc := 53) 2 d_X_decideWays_53 rfl rfl ?_
      refine bj_iload_n (pc := 54) 1 d_X_decideWays_54 rfl rfl ?_
      refine bj_iand (pc := 55) d_X_decideWays_55 ?_
      refine bj_if_ne (pc := 56) (tgt := 65) d_X_decideWays_56 (by decide) (fun hc => ?_) (fun hc => ?_)
      · replace hw := hw.2 hc
        exact m_X_decideWays_65 hR hnx45 hw
      · replace hw := hw.1 hc
        refine bj_aload_n (pc := 59) 0 d_X_decideWays_59 rfl rfl ?_
        refine bj_iload_n (pc := 60) 2 d_X_decideWays_60 rfl rfl ?_
        refine bj_iload_n (pc := 61) 1 d_X_decideWays_61 rfl rfl ?_
        obtain ⟨⟨fs, hx⟩, hw⟩ := hw
        refine bj_callV (pc := 62) (np := 2) (K' := K_X_followWays) (argsL := [.int x2, .int x1]) (st := []) (d1 := 2) (ci := 5) (fs := fs) rfl d_X_decideWays_62 (Or.inl q_560) q_562 rfl q_17 c_X_followWays n_X_followWays hR (by decide) (by decide) rfl (Nat.le_of_ble_eq_true rfl) rfl (Nat.le_of_ble_eq_true rfl) hx (fun R' hR' => m_X_followWays hR' hw) (bs_kV_ok fun h2 hw => ?_) (fun _ _ z => z)
        exact m_X_decideWays_65 hR hnx45 hw
theorem m_X_decideWays_17 {l : Launch} {R : Room} {Φ : bs_R → bs_H → Prop} (hR : bs_rm 3 R) : ∀ (n : Nat) (x0 : Nat) (x1 : Int32) (x2 : Int32) (h : bs_H), w_X_decideWays_17 Φ n x0 x1 x2 h → bs_J l K_X_decideWays R Φ 17 [(0, .ref x0), (1, .int x1), (2, .int x2)] [] h := by
  intro n
  induction n with
  | zero => intro x0 x1 x2 h hw; exact hw.elim
  | succ n ih =>
    have hnx17 := ih
    intro x0 x1 x2 h hw
    replace hw : w_X_decideWays_17_s Φ (w_X_decideWays_17 Φ n) x0 x1 x2 h := hw
    unfold w_X_decideWays_17_s at hw
    refine bj_iload_n (pc := 17) 2 d_X_decideWays_17 rfl rfl ?_
    refine bj_aload_n (pc := 18) 0 d_X_decideWays_18 rfl rfl ?_
    obtain ⟨fs, v1, hx, hv, hw⟩ := hw
    refine bj_get (pc := 19) (ci := 5) (k := 3) (fs := fs) (v := .int v1) d_X_decideWays_19 rfl (by decide) q_157 hx hv ?_
    refine bj_icmp_ge (pc := 22) (tgt := 43) d_X_decideWays_22 (by decide) (fun hc => ?_) (fun hc => ?_)
    · replace hw := hw.1 hc
      refine bj_iconst (pc := 43) (v := 0) d_X_decideWays_43 (by decide) ?_
      refine bj_istore_n (pc := 44) (lo' := [(2, .int 0), (0, .ref x0), (1, .int x1)]) d_X_decideWays_44 rfl (by decide) rfl ?_
      refine bj_sub [1, 2, 0] (lo' := [(0, .ref x0), (1, .int x1), (2, .int 0)]) rfl ?_
      exact m_X_decideWays_45 hR 1000 _ _ _ _ hw
    · replace hw := hw.2 hc
      refine bj_aload_n (pc := 25) 0 d_X_decideWays_25 rfl rfl ?_
      obtain ⟨fs, v2, hx, hv, hw⟩ := hw
      refine bj_get (pc := 26) (ci := 5) (k := 1) (fs := fs) (v := .ref v2) d_X_decideWays_26 rfl (by decide) q_155 hx hv ?_
      refine bj_aload_n (pc := 29) 0 d_X_decideWays_29 rfl rfl ?_
      obtain ⟨fs, v3, hx, hv, hw⟩ := hw
      refine bj_get (pc := 30) (ci := 5) (k := 0) (fs := fs) (v := .ref v3) d_X_decideWays_30 rfl (by decide) q_154 hx hv ?_
      refine bj_iload_n (pc := 33) 2 d_X_decideWays_33 rfl rfl ?_
      obtain ⟨n, f, v4, hx, hin, hv, hw⟩ := hw
      refine bj_iald (pc := 34) (n := n) (f := f) d_X_decideWays_34 hx hin hv ?_
      refine bj_iload_n (pc := 35) 2 d_X_decideWays_35 rfl rfl ?_
      obtain ⟨n, f, hx, hin, hw⟩ := hw
      refine bj_iast (pc := 36) (n := n) (f := f) d_X_decideWays_36 hx hin ?_
      refine bj_iinc (pc := 37) (v := (x2 + 1)) (lo' := [(2, .int (x2 + 1)), (0, .ref x0), (1, .int x1)]) 2 d_X_decideWays_37 rfl rfl (by decide) rfl ?_
      refine bj_goto (pc := 40) (tgt := 17) d_X_decideWays_40 (by decide) ?_
      refine bj_sub [1, 2, 0] (lo' := [(0, .ref x0), (1, .int x1), (2, .int (x2 + 1))]) rfl ?_
      exact hnx17 _ _ _ _ hw
theorem m_X_decideWays {l : Launch} {R : Room} (hR : bs_rm 3 R) {Φ : bs_R → bs_H → Prop} {x0 : Nat} {x1 : Int32} {h : bs_H} (hw : w_X_decideWays Φ x0 x1 h) : bs_J l K_X_decideWays R Φ 0 [(0, .ref x0), (1, .int x1)] [] h := by
  unfold w_X_decideWays at hw
  refine bj_aload_n (pc := 0) 0 d_X_decideWays_0 rfl rfl ?_
  refine bj_lconst (pc := 1) (v := 0) d_X_decideWays_1 (by decide) ?_
  obtain ⟨fs, hx, hlen, hw⟩ := hw
  refine bj_put (pc := 2) (ci := 5) (k := 4) (fs := fs) (v := (.long 0)) (ty := .long) d_X_decideWays_2 rfl (by decide) q_158 rfl (by decide +kernel) rfl rfl hx hlen ?_
  refine bj_aload_n (pc := 5) 0 d_X_decideWays_5 rfl rfl ?_
  refine bj_lconst (pc := 6) (v := 0) d_X_decideWays_6 (by decide) ?_
  obtain ⟨fs, hx, hlen, hw⟩ := hw
  refine bj_put (pc := 7) (ci := 5) (k := 5) (fs := fs) (v := (.long 0)) (ty := .long) d_X_decideWays_7 rfl (by decide) q_159 rfl (by decide +kernel) rfl rfl hx hlen ?_
  refine bj_aload_n (pc := 10) 0 d_X_decideWays_10 rfl rfl ?_
  refine bj_lconst (pc := 11) (v := 0) d_X_decideWays_11 (by decide) ?_
  obtain ⟨fs, hx, hlen, hw⟩ := hw
  refine bj_put (pc := 12) (ci := 5) (k := 6) (fs := fs) (v := (.long 0)) (ty := .long) d_X_decideWays_12 rfl (by decide) q_160 rfl (by decide +kernel) rfl rfl hx hlen ?_
  refine bj_iconst (pc := 15) (v := 0) d_X_decideWays_15 (by decide) ?_
  refine bj_istore_n (pc := 16) (lo' := [(2, .int 0), (0, .ref x0), (1, .int x1)]) d_X_decideWays_16 rfl (by decide) rfl ?_
  refine bj_sub [1, 2, 0] (lo' := [(0, .ref x0), (1, .int x1), (2, .int 0)]) rfl ?_
  exact m_X_decideWays_17 hR 1000 _ _ _ _ hw
