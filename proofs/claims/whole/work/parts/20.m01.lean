/-! Decode rows, meanings and rows of: M_init, P_init, W_init, S_init, X_init, G_init, M_becomeIdentity, B_init, R_begin, R_init, P_clear, B_width, L_width, R_width, R_thrown, M_hasBit, B_requireBit, M_hasSource, M_setSource, B_target, L_target, R_noBit, R_target, M_sourceOf. Written by program. -/
theorem d_M_init_0 : decode prog_2_method_1_code 0 = .ok (.aload_n 0, 1) := by decide +kernel
theorem d_M_init_1 : decode prog_2_method_1_code 1 = .ok (.invokespecial 3, 3) := by decide +kernel
theorem d_M_init_4 : decode prog_2_method_1_code 4 = .ok (.aload_n 0, 1) := by decide +kernel
theorem d_M_init_5 : decode prog_2_method_1_code 5 = .ok (.bipush 64, 2) := by decide +kernel
theorem d_M_init_7 : decode prog_2_method_1_code 7 = .ok (.newarray .int, 2) := by decide +kernel
theorem d_M_init_9 : decode prog_2_method_1_code 9 = .ok (.putfield 9, 3) := by decide +kernel
theorem d_M_init_12 : decode prog_2_method_1_code 12 = .ok (.aload_n 0, 1) := by decide +kernel
theorem d_M_init_13 : decode prog_2_method_1_code 13 = .ok (.iconst 1, 1) := by decide +kernel
theorem d_M_init_14 : decode prog_2_method_1_code 14 = .ok (.putfield 15, 3) := by decide +kernel
theorem d_M_init_17 : decode prog_2_method_1_code 17 = .ok (.return_, 1) := by decide +kernel
def w_M_init (Φ : bs_R → bs_H → Prop) (x0 : Nat) (h : bs_H) : Prop :=
  bs_nA h 64 (bs_ia 64 fun _ => 0) (fun v1 h2 => bs_p h2 x0 1 0 (.ref v1) (fun h3 => bs_p h3 x0 1 1 (.int 1) (fun h4 => Φ (.ok none) h4)))
theorem m_M_init {l : Launch} {R : Room} (hR : bs_rm 1 R) {Φ : bs_R → bs_H → Prop} {x0 : Nat} {h : bs_H} (hw : w_M_init Φ x0 h) : bs_J l K_M_init R Φ 0 [(0, .ref x0)] [] h := by
  unfold w_M_init at hw
  refine bj_aload_n (pc := 0) 0 d_M_init_0 rfl rfl ?_
  refine bj_objInit (pc := 1) d_M_init_1 q_77 q_70 q_71 hR (Nat.le_of_ble_eq_true rfl) ?_
  refine bj_aload_n (pc := 4) 0 d_M_init_4 rfl rfl ?_
  refine bj_bipush (pc := 5) (v := 64) d_M_init_5 (by decide) ?_
  obtain ⟨v1, ha, h1, h2, hw⟩ := hw
  refine bj_newi (pc := 7) (N := 64) d_M_init_7 q_85 (by decide) (by decide) (by decide) ha h1 h2 ?_
  obtain ⟨fs, hx, hlen, hw⟩ := hw
  refine bj_putF (pc := 9) (ci := 1) (k := 0) (fs := fs) (v := (.ref v1)) (ty := (.array .int)) d_M_init_9 rfl (by decide) q_78 rfl rfl rfl (by decide +kernel) rfl rfl hx hlen ?_
  refine bj_aload_n (pc := 12) 0 d_M_init_12 rfl rfl ?_
  refine bj_iconst (pc := 13) (v := 1) d_M_init_13 (by decide) ?_
  obtain ⟨fs, hx, hlen, hw⟩ := hw
  refine bj_put (pc := 14) (ci := 1) (k := 1) (fs := fs) (v := (.int 1)) (ty := .int) d_M_init_14 rfl (by decide) q_79 rfl (by decide +kernel) rfl rfl hx hlen ?_
  exact bj_vret (pc := 17) d_M_init_17 rfl hw
theorem d_P_init_0 : decode prog_4_method_1_code 0 = .ok (.aload_n 0, 1) := by decide +kernel
theorem d_P_init_1 : decode prog_4_method_1_code 1 = .ok (.invokespecial 3, 3) := by decide +kernel
theorem d_P_init_4 : decode prog_4_method_1_code 4 = .ok (.aload_n 0, 1) := by decide +kernel
theorem d_P_init_5 : decode prog_4_method_1_code 5 = .ok (.sipush 192, 3) := by decide +kernel
theorem d_P_init_8 : decode prog_4_method_1_code 8 = .ok (.newarray .int, 2) := by decide +kernel
theorem d_P_init_10 : decode prog_4_method_1_code 10 = .ok (.putfield 9, 3) := by decide +kernel
theorem d_P_init_13 : decode prog_4_method_1_code 13 = .ok (.aload_n 0, 1) := by decide +kernel
theorem d_P_init_14 : decode prog_4_method_1_code 14 = .ok (.sipush 192, 3) := by decide +kernel
theorem d_P_init_17 : decode prog_4_method_1_code 17 = .ok (.newarray .int, 2) := by decide +kernel
theorem d_P_init_19 : decode prog_4_method_1_code 19 = .ok (.putfield 15, 3) := by decide +kernel
theorem d_P_init_22 : decode prog_4_method_1_code 22 = .ok (.aload_n 0, 1) := by decide +kernel
theorem d_P_init_23 : decode prog_4_method_1_code 23 = .ok (.sipush 192, 3) := by decide +kernel
theorem d_P_init_26 : decode prog_4_method_1_code 26 = .ok (.newarray .long, 2) := by decide +kernel
theorem d_P_init_28 : decode prog_4_method_1_code 28 = .ok (.putfield 18, 3) := by decide +kernel
theorem d_P_init_31 : decode prog_4_method_1_code 31 = .ok (.aload_n 0, 1) := by decide +kernel
theorem d_P_init_32 : decode prog_4_method_1_code 32 = .ok (.iconst 0, 1) := by decide +kernel
theorem d_P_init_33 : decode prog_4_method_1_code 33 = .ok (.putfield 22, 3) := by decide +kernel
theorem d_P_init_36 : decode prog_4_method_1_code 36 = .ok (.return_, 1) := by decide +kernel
def w_P_init (Φ : bs_R → bs_H → Prop) (x0 : Nat) (h : bs_H) : Prop :=
  bs_nA h 192 (bs_ia 192 fun _ => 0) (fun v1 h2 => bs_p h2 x0 2 0 (.ref v1) (fun h3 => bs_nA h3 192 (bs_ia 192 fun _ => 0) (fun v4 h5 => bs_p h5 x0 2 1 (.ref v4) (fun h6 => bs_nA h6 192 (bs_la 192 fun _ => 0) (fun v7 h8 => bs_p h8 x0 2 2 (.ref v7) (fun h9 => bs_p h9 x0 2 3 (.int 0) (fun h10 => Φ (.ok none) h10)))))))
theorem m_P_init {l : Launch} {R : Room} (hR : bs_rm 1 R) {Φ : bs_R → bs_H → Prop} {x0 : Nat} {h : bs_H} (hw : w_P_init Φ x0 h) : bs_J l K_P_init R Φ 0 [(0, .ref x0)] [] h := by
  unfold w_P_init at hw
  refine bj_aload_n (pc := 0) 0 d_P_init_0 rfl rfl ?_
  refine bj_objInit (pc := 1) d_P_init_1 q_92 q_70 q_71 hR (Nat.le_of_ble_eq_true rfl) ?_
  refine bj_aload_n (pc := 4) 0 d_P_init_4 rfl rfl ?_
  refine bj_sipush (pc := 5) (v := 192) d_P_init_5 (by decide) ?_
  obtain ⟨v1, ha, h1, h2, hw⟩ := hw
  refine bj_newi (pc := 8) (N := 192) d_P_init_8 q_85 (by decide) (by decide) (by decide) ha h1 h2 ?_
  obtain ⟨fs, hx, hlen, hw⟩ := hw
  refine bj_putF (pc := 10) (ci := 2) (k := 0) (fs := fs) (v := (.ref v1)) (ty := (.array .int)) d_P_init_10 rfl (by decide) q_93 rfl rfl rfl (by decide +kernel) rfl rfl hx hlen ?_
  refine bj_aload_n (pc := 13) 0 d_P_init_13 rfl rfl ?_
  refine bj_sipush (pc := 14) (v := 192) d_P_init_14 (by decide) ?_
  obtain ⟨v4, ha, h1, h2, hw⟩ := hw
  refine bj_newi (pc := 17) (N := 192) d_P_init_17 q_85 (by decide) (by decide) (by decide) ha h1 h2 ?_
  obtain ⟨fs, hx, hlen, hw⟩ := hw
  refine bj_putF (pc := 19) (ci := 2) (k := 1) (fs := fs) (v := (.ref v4)) (ty := (.array .int)) d_P_init_19 rfl (by decide) q_94 rfl rfl rfl (by decide +kernel) rfl rfl hx hlen ?_
  refine bj_aload_n (pc := 22) 0 d_P_init_22 rfl rfl ?_
  refine bj_sipush (pc := 23) (v := 192) d_P_init_23 (by decide) ?_
  obtain ⟨v7, ha, h1, h2, hw⟩ := hw
  refine bj_newl (pc := 26) (N := 192) d_P_init_26 q_106 (by decide) (by decide) (by decide) ha h1 h2 ?_
  obtain ⟨fs, hx, hlen, hw⟩ := hw
  refine bj_putF (pc := 28) (ci := 2) (k := 2) (fs := fs) (v := (.ref v7)) (ty := (.array .long)) d_P_init_28 rfl (by decide) q_95 rfl rfl rfl (by decide +kernel) rfl rfl hx hlen ?_
  refine bj_aload_n (pc := 31) 0 d_P_init_31 rfl rfl ?_
  refine bj_iconst (pc := 32) (v := 0) d_P_init_32 (by decide) ?_
  obtain ⟨fs, hx, hlen, hw⟩ := hw
  refine bj_put (pc := 33) (ci := 2) (k := 3) (fs := fs) (v := (.int 0)) (ty := .int) d_P_init_33 rfl (by decide) q_96 rfl (by decide +kernel) rfl rfl hx hlen ?_
  exact bj_vret (pc := 36) d_P_init_36 rfl hw
theorem d_W_init_0 : decode prog_7_method_1_code 0 = .ok (.aload_n 0, 1) := by decide +kernel
theorem d_W_init_1 : decode prog_7_method_1_code 1 = .ok (.invokespecial 3, 3) := by decide +kernel
theorem d_W_init_4 : decode prog_7_method_1_code 4 = .ok (.aload_n 0, 1) := by decide +kernel
theorem d_W_init_5 : decode prog_7_method_1_code 5 = .ok (.iconst 1, 1) := by decide +kernel
theorem d_W_init_6 : decode prog_7_method_1_code 6 = .ok (.putfield 9, 3) := by decide +kernel
theorem d_W_init_9 : decode prog_7_method_1_code 9 = .ok (.return_, 1) := by decide +kernel
def w_W_init (Φ : bs_R → bs_H → Prop) (x0 : Nat) (h : bs_H) : Prop :=
  bs_p h x0 3 0 (.int 1) (fun h1 => Φ (.ok none) h1)
theorem m_W_init {l : Launch} {R : Room} (hR : bs_rm 1 R) {Φ : bs_R → bs_H → Prop} {x0 : Nat} {h : bs_H} (hw : w_W_init Φ x0 h) : bs_J l K_W_init R Φ 0 [(0, .ref x0)] [] h := by
  unfold w_W_init at hw
  refine bj_aload_n (pc := 0) 0 d_W_init_0 rfl rfl ?_
  refine bj_objInit (pc := 1) d_W_init_1 q_112 q_70 q_71 hR (Nat.le_of_ble_eq_true rfl) ?_
  refine bj_aload_n (pc := 4) 0 d_W_init_4 rfl rfl ?_
  refine bj_iconst (pc := 5) (v := 1) d_W_init_5 (by decide) ?_
  obtain ⟨fs, hx, hlen, hw⟩ := hw
  refine bj_put (pc := 6) (ci := 3) (k := 0) (fs := fs) (v := (.int 1)) (ty := .int) d_W_init_6 rfl (by decide) q_113 rfl (by decide +kernel) rfl rfl hx hlen ?_
  exact bj_vret (pc := 9) d_W_init_9 rfl hw
theorem d_S_init_0 : decode prog_6_method_1_code 0 = .ok (.aload_n 0, 1) := by decide +kernel
theorem d_S_init_1 : decode prog_6_method_1_code 1 = .ok (.invokespecial 3, 3) := by decide +kernel
theorem d_S_init_4 : decode prog_6_method_1_code 4 = .ok (.aload_n 0, 1) := by decide +kernel
theorem d_S_init_5 : decode prog_6_method_1_code 5 = .ok (.bipush 64, 2) := by decide +kernel
theorem d_S_init_7 : decode prog_6_method_1_code 7 = .ok (.newarray .long, 2) := by decide +kernel
theorem d_S_init_9 : decode prog_6_method_1_code 9 = .ok (.putfield 9, 3) := by decide +kernel
theorem d_S_init_12 : decode prog_6_method_1_code 12 = .ok (.aload_n 0, 1) := by decide +kernel
theorem d_S_init_13 : decode prog_6_method_1_code 13 = .ok (.bipush 64, 2) := by decide +kernel
theorem d_S_init_15 : decode prog_6_method_1_code 15 = .ok (.newarray .long, 2) := by decide +kernel
theorem d_S_init_17 : decode prog_6_method_1_code 17 = .ok (.putfield 15, 3) := by decide +kernel
theorem d_S_init_20 : decode prog_6_method_1_code 20 = .ok (.aload_n 0, 1) := by decide +kernel
theorem d_S_init_21 : decode prog_6_method_1_code 21 = .ok (.bipush 64, 2) := by decide +kernel
theorem d_S_init_23 : decode prog_6_method_1_code 23 = .ok (.newarray .long, 2) := by decide +kernel
theorem d_S_init_25 : decode prog_6_method_1_code 25 = .ok (.putfield 18, 3) := by decide +kernel
theorem d_S_init_28 : decode prog_6_method_1_code 28 = .ok (.aload_n 0, 1) := by decide +kernel
theorem d_S_init_29 : decode prog_6_method_1_code 29 = .ok (.lconst 0, 1) := by decide +kernel
theorem d_S_init_30 : decode prog_6_method_1_code 30 = .ok (.putfield 21, 3) := by decide +kernel
theorem d_S_init_33 : decode prog_6_method_1_code 33 = .ok (.aload_n 0, 1) := by decide +kernel
theorem d_S_init_34 : decode prog_6_method_1_code 34 = .ok (.iconst 1, 1) := by decide +kernel
theorem d_S_init_35 : decode prog_6_method_1_code 35 = .ok (.putfield 25, 3) := by decide +kernel
theorem d_S_init_38 : decode prog_6_method_1_code 38 = .ok (.return_, 1) := by decide +kernel
def w_S_init (Φ : bs_R → bs_H → Prop) (x0 : Nat) (h : bs_H) : Prop :=
  bs_nA h 64 (bs_la 64 fun _ => 0) (fun v1 h2 => bs_p h2 x0 4 0 (.ref v1) (fun h3 => bs_nA h3 64 (bs_la 64 fun _ => 0) (fun v4 h5 => bs_p h5 x0 4 1 (.ref v4) (fun h6 => bs_nA h6 64 (bs_la 64 fun _ => 0) (fun v7 h8 => bs_p h8 x0 4 2 (.ref v7) (fun h9 => bs_p h9 x0 4 3 (.long 0) (fun h10 => bs_p h10 x0 4 4 (.int 1) (fun h11 => Φ (.ok none) h11))))))))
theorem m_S_init {l : Launch} {R : Room} (hR : bs_rm 1 R) {Φ : bs_R → bs_H → Prop} {x0 : Nat} {h : bs_H} (hw : w_S_init Φ x0 h) : bs_J l K_S_init R Φ 0 [(0, .ref x0)] [] h := by
  unfold w_S_init at hw
  refine bj_aload_n (pc := 0) 0 d_S_init_0 rfl rfl ?_
  refine bj_objInit (pc := 1) d_S_init_1 q_131 q_70 q_71 hR (Nat.le_of_ble_eq_true rfl) ?_
  refine bj_aload_n (pc := 4) 0 d_S_init_4 rfl rfl ?_
  refine bj_bipush (pc := 5) (v := 64) d_S_init_5 (by decide) ?_
  obtain ⟨v1, ha, h1, h2, hw⟩ := hw
  refine bj_newl (pc := 7) (N := 64) d_S_init_7 q_106 (by decide) (by decide) (by decide) ha h1 h2 ?_
  obtain ⟨fs, hx, hlen, hw⟩ := hw
  refine bj_putF (pc := 9) (ci := 4) (k := 0) (fs := fs) (v := (.ref v1)) (ty := (.array .long)) d_S_init_9 rfl (by decide) q_132 rfl rfl rfl (by decide +kernel) rfl rfl hx hlen ?_
  refine bj_aload_n (pc := 12) 0 d_S_init_12 rfl rfl ?_
  refine bj_bipush (pc := 13) (v := 64) d_S_init_13 (by decide) ?_
  obtain ⟨v4, ha, h1, h2, hw⟩ := hw
  refine bj_newl (pc := 15) (N := 64) d_S_init_15 q_106 (by decide) (by decide) (by decide) ha h1 h2 ?_
  obtain ⟨fs, hx, hlen, hw⟩ := hw
  refine bj_putF (pc := 17) (ci := 4) (k := 1) (fs := fs) (v := (.ref v4)) (ty := (.array .long)) d_S_init_17 rfl (by decide) q_133 rfl rfl rfl (by decide +kernel) rfl rfl hx hlen ?_
  refine bj_aload_n (pc := 20) 0 d_S_init_20 rfl rfl ?_
  refine bj_bipush (pc := 21) (v := 64) d_S_init_21 (by decide) ?_
  obtain ⟨v7, ha, h1, h2, hw⟩ := hw
  refine bj_newl (pc := 23) (N := 64) d_S_init_23 q_106 (by decide) (by decide) (by decide) ha h1 h2 ?_
  obtain ⟨fs, hx, hlen, hw⟩ := hw
  refine bj_putF (pc := 25) (ci := 4) (k := 2) (fs := fs) (v := (.ref v7)) (ty := (.array .long)) d_S_init_25 rfl (by decide) q_134 rfl rfl rfl (by decide +kernel) rfl rfl hx hlen ?_
  refine bj_aload_n (pc := 28) 0 d_S_init_28 rfl rfl ?_
  refine bj_lconst (pc := 29) (v := 0) d_S_init_29 (by decide) ?_
  obtain ⟨fs, hx, hlen, hw⟩ := hw
  refine bj_put (pc := 30) (ci := 4) (k := 3) (fs := fs) (v := (.long 0)) (ty := .long) d_S_init_30 rfl (by decide) q_135 rfl (by decide +kernel) rfl rfl hx hlen ?_
  refine bj_aload_n (pc := 33) 0 d_S_init_33 rfl rfl ?_
  refine bj_iconst (pc := 34) (v := 1) d_S_init_34 (by decide) ?_
  obtain ⟨fs, hx, hlen, hw⟩ := hw
  refine bj_put (pc := 35) (ci := 4) (k := 4) (fs := fs) (v := (.int 1)) (ty := .int) d_S_init_35 rfl (by decide) q_136 rfl (by decide +kernel) rfl rfl hx hlen ?_
  exact bj_vret (pc := 38) d_S_init_38 rfl hw
theorem d_X_init_0 : decode prog_5_method_1_code 0 = .ok (.aload_n 0, 1) := by decide +kernel
theorem d_X_init_1 : decode prog_5_method_1_code 1 = .ok (.invokespecial 3, 3) := by decide +kernel
theorem d_X_init_4 : decode prog_5_method_1_code 4 = .ok (.aload_n 0, 1) := by decide +kernel
theorem d_X_init_5 : decode prog_5_method_1_code 5 = .ok (.bipush 64, 2) := by decide +kernel
theorem d_X_init_7 : decode prog_5_method_1_code 7 = .ok (.newarray .int, 2) := by decide +kernel
theorem d_X_init_9 : decode prog_5_method_1_code 9 = .ok (.putfield 9, 3) := by decide +kernel
theorem d_X_init_12 : decode prog_5_method_1_code 12 = .ok (.aload_n 0, 1) := by decide +kernel
theorem d_X_init_13 : decode prog_5_method_1_code 13 = .ok (.bipush 64, 2) := by decide +kernel
theorem d_X_init_15 : decode prog_5_method_1_code 15 = .ok (.newarray .int, 2) := by decide +kernel
theorem d_X_init_17 : decode prog_5_method_1_code 17 = .ok (.putfield 15, 3) := by decide +kernel
theorem d_X_init_20 : decode prog_5_method_1_code 20 = .ok (.aload_n 0, 1) := by decide +kernel
theorem d_X_init_21 : decode prog_5_method_1_code 21 = .ok (.bipush 6, 2) := by decide +kernel
theorem d_X_init_23 : decode prog_5_method_1_code 23 = .ok (.newarray .long, 2) := by decide +kernel
theorem d_X_init_25 : decode prog_5_method_1_code 25 = .ok (.putfield 18, 3) := by decide +kernel
theorem d_X_init_28 : decode prog_5_method_1_code 28 = .ok (.aload_n 0, 1) := by decide +kernel
theorem d_X_init_29 : decode prog_5_method_1_code 29 = .ok (.iconst 1, 1) := by decide +kernel
theorem d_X_init_30 : decode prog_5_method_1_code 30 = .ok (.putfield 22, 3) := by decide +kernel
theorem d_X_init_33 : decode prog_5_method_1_code 33 = .ok (.return_, 1) := by decide +kernel
def w_X_init (Φ : bs_R → bs_H → Prop) (x0 : Nat) (h : bs_H) : Prop :=
  bs_nA h 64 (bs_ia 64 fun _ => 0) (fun v1 h2 => bs_p h2 x0 5 0 (.ref v1) (fun h3 => bs_nA h3 64 (bs_ia 64 fun _ => 0) (fun v4 h5 => bs_p h5 x0 5 1 (.ref v4) (fun h6 => bs_nA h6 6 (bs_la 6 fun _ => 0) (fun v7 h8 => bs_p h8 x0 5 2 (.ref v7) (fun h9 => bs_p h9 x0 5 3 (.int 1) (fun h10 => Φ (.ok none) h10)))))))
theorem m_X_init {l : Launch} {R : Room} (hR : bs_rm 1 R) {Φ : bs_R → bs_H → Prop} {x0 : Nat} {h : bs_H} (hw : w_X_init Φ x0 h) : bs_J l K_X_init R Φ 0 [(0, .ref x0)] [] h := by
  unfold w_X_init at hw
  refine bj_aload_n (pc := 0) 0 d_X_init_0 rfl rfl ?_
  refine bj_objInit (pc := 1) d_X_init_1 q_153 q_70 q_71 hR (Nat.le_of_ble_eq_true rfl) ?_
  refine bj_aload_n (pc := 4) 0 d_X_init_4 rfl rfl ?_
  refine bj_bipush (pc := 5) (v := 64) d_X_init_5 (by decide) ?_
  obtain ⟨v1, ha, h1, h2, hw⟩ := hw
  refine bj_newi (pc := 7) (N := 64) d_X_init_7 q_85 (by decide) (by decide) (by decide) ha h1 h2 ?_
  obtain ⟨fs, hx, hlen, hw⟩ := hw
  refine bj_putF (pc := 9) (ci := 5) (k := 0) (fs := fs) (v := (.ref v1)) (ty := (.array .int)) d_X_init_9 rfl (by decide) q_154 rfl rfl rfl (by decide +kernel) rfl rfl hx hlen ?_
  refine bj_aload_n (pc := 12) 0 d_X_init_12 rfl rfl ?_
  refine bj_bipush (pc := 13) (v := 64) d_X_init_13 (by decide) ?_
  obtain ⟨v4, ha, h1, h2, hw⟩ := hw
  refine bj_newi (pc := 15) (N := 64) d_X_init_15 q_85 (by decide) (by decide) (by decide) ha h1 h2 ?_
  obtain ⟨fs, hx, hlen, hw⟩ := hw
  refine bj_putF (pc := 17) (ci := 5) (k := 1) (fs := fs) (v := (.ref v4)) (ty := (.array .int)) d_X_init_17 rfl (by decide) q_155 rfl rfl rfl (by decide +kernel) rfl rfl hx hlen ?_
  refine bj_aload_n (pc := 20) 0 d_X_init_20 rfl rfl ?_
  refine bj_bipush (pc := 21) (v := 6) d_X_init_21 (by decide) ?_
  obtain ⟨v7, ha, h1, h2, hw⟩ := hw
  refine bj_newl (pc := 23) (N := 6) d_X_init_23 q_106 (by decide) (by decide) (by decide) ha h1 h2 ?_
  obtain ⟨fs, hx, hlen, hw⟩ := hw
  refine bj_putF (pc := 25) (ci := 5) (k := 2) (fs := fs) (v := (.ref v7)) (ty := (.array .long)) d_X_init_25 rfl (by decide) q_156 rfl rfl rfl (by decide +kernel) rfl rfl hx hlen ?_
  refine bj_aload_n (pc := 28) 0 d_X_init_28 rfl rfl ?_
  refine bj_iconst (pc := 29) (v := 1) d_X_init_29 (by decide) ?_
  obtain ⟨fs, hx, hlen, hw⟩ := hw
  refine bj_put (pc := 30) (ci := 5) (k := 3) (fs := fs) (v := (.int 1)) (ty := .int) d_X_init_30 rfl (by decide) q_157 rfl (by decide +kernel) rfl rfl hx hlen ?_
  exact bj_vret (pc := 33) d_X_init_33 rfl hw
theorem d_G_init_0 : decode prog_3_method_1_code 0 = .ok (.aload_n 0, 1) := by decide +kernel
theorem d_G_init_1 : decode prog_3_method_1_code 1 = .ok (.invokespecial 3, 3) := by decide +kernel
theorem d_G_init_4 : decode prog_3_method_1_code 4 = .ok (.aload_n 0, 1) := by decide +kernel
theorem d_G_init_5 : decode prog_3_method_1_code 5 = .ok (.bipush 64, 2) := by decide +kernel
theorem d_G_init_7 : decode prog_3_method_1_code 7 = .ok (.newarray .long, 2) := by decide +kernel
theorem d_G_init_9 : decode prog_3_method_1_code 9 = .ok (.putfield 9, 3) := by decide +kernel
theorem d_G_init_12 : decode prog_3_method_1_code 12 = .ok (.aload_n 0, 1) := by decide +kernel
theorem d_G_init_13 : decode prog_3_method_1_code 13 = .ok (.bipush 64, 2) := by decide +kernel
theorem d_G_init_15 : decode prog_3_method_1_code 15 = .ok (.newarray .long, 2) := by decide +kernel
theorem d_G_init_17 : decode prog_3_method_1_code 17 = .ok (.putfield 15, 3) := by decide +kernel
theorem d_G_init_20 : decode prog_3_method_1_code 20 = .ok (.aload_n 0, 1) := by decide +kernel
theorem d_G_init_21 : decode prog_3_method_1_code 21 = .ok (.iconst 0, 1) := by decide +kernel
theorem d_G_init_22 : decode prog_3_method_1_code 22 = .ok (.putfield 18, 3) := by decide +kernel
theorem d_G_init_25 : decode prog_3_method_1_code 25 = .ok (.return_, 1) := by decide +kernel
def w_G_init (Φ : bs_R → bs_H → Prop) (x0 : Nat) (h : bs_H) : Prop :=
  bs_nA h 64 (bs_la 64 fun _ => 0) (fun v1 h2 => bs_p h2 x0 6 0 (.ref v1) (fun h3 => bs_nA h3 64 (bs_la 64 fun _ => 0) (fun v4 h5 => bs_p h5 x0 6 1 (.ref v4) (fun h6 => bs_p h6 x0 6 2 (.int 0) (fun h7 => Φ (.ok none) h7)))))
theorem m_G_init {l : Launch} {R : Room} (hR : bs_rm 1 R) {Φ : bs_R → bs_H → Prop} {x0 : Nat} {h : bs_H} (hw : w_G_init Φ x0 h) : bs_J l K_G_init R Φ 0 [(0, .ref x0)] [] h := by
  unfold w_G_init at hw
  refine bj_aload_n (pc := 0) 0 d_G_init_0 rfl rfl ?_
  refine bj_objInit (pc := 1) d_G_init_1 q_181 q_70 q_71 hR (Nat.le_of_ble_eq_true rfl) ?_
  refine bj_aload_n (pc := 4) 0 d_G_init_4 rfl rfl ?_
  refine bj_bipush (pc := 5) (v := 64) d_G_init_5 (by decide) ?_
  obtain ⟨v1, ha, h1, h2, hw⟩ := hw
  refine bj_newl (pc := 7) (N := 64) d_G_init_7 q_106 (by decide) (by decide) (by decide) ha h1 h2 ?_
  obtain ⟨fs, hx, hlen, hw⟩ := hw
  refine bj_putF (pc := 9) (ci := 6) (k := 0) (fs := fs) (v := (.ref v1)) (ty := (.array .long)) d_G_init_9 rfl (by decide) q_182 rfl rfl rfl (by decide +kernel) rfl rfl hx hlen ?_
  refine bj_aload_n (pc := 12) 0 d_G_init_12 rfl rfl ?_
  refine bj_bipush (pc := 13) (v := 64) d_G_init_13 (by decide) ?_
  obtain ⟨v4, ha, h1, h2, hw⟩ := hw
  refine bj_newl (pc := 15) (N := 64) d_G_init_15 q_106 (by decide) (by decide) (by decide) ha h1 h2 ?_
  obtain ⟨fs, hx, hlen, hw⟩ := hw
  refine bj_putF (pc := 17) (ci := 6) (k := 1) (fs := fs) (v := (.ref v4)) (ty := (.array .long)) d_G_init_17 rfl (by decide) q_183 rfl rfl rfl (by decide +kernel) rfl rfl hx hlen ?_
  refine bj_aload_n (pc := 20) 0 d_G_init_20 rfl rfl ?_
  refine bj_iconst (pc := 21) (v := 0) d_G_init_21 (by decide) ?_
  obtain ⟨fs, hx, hlen, hw⟩ := hw
  refine bj_put (pc := 22) (ci := 6) (k := 2) (fs := fs) (v := (.int 0)) (ty := .int) d_G_init_22 rfl (by decide) q_184 rfl (by decide +kernel) rfl rfl hx hlen ?_
  exact bj_vret (pc := 25) d_G_init_25 rfl hw
theorem d_M_becomeIdentity_0 : decode prog_2_method_7_code 0 = .ok (.aload_n 0, 1) := by decide +kernel
theorem d_M_becomeIdentity_1 : decode prog_2_method_7_code 1 = .ok (.iload_n 1, 1) := by decide +kernel
theorem d_M_becomeIdentity_2 : decode prog_2_method_7_code 2 = .ok (.putfield 15, 3) := by decide +kernel
theorem d_M_becomeIdentity_5 : decode prog_2_method_7_code 5 = .ok (.iconst 0, 1) := by decide +kernel
theorem d_M_becomeIdentity_6 : decode prog_2_method_7_code 6 = .ok (.istore_n 2, 1) := by decide +kernel
theorem d_M_becomeIdentity_7 : decode prog_2_method_7_code 7 = .ok (.iload_n 2, 1) := by decide +kernel
theorem d_M_becomeIdentity_8 : decode prog_2_method_7_code 8 = .ok (.iload_n 1, 1) := by decide +kernel
theorem d_M_becomeIdentity_9 : decode prog_2_method_7_code 9 = .ok (.if_icmp .ge 16, 3) := by decide +kernel
theorem d_M_becomeIdentity_12 : decode prog_2_method_7_code 12 = .ok (.aload_n 0, 1) := by decide +kernel
theorem d_M_becomeIdentity_13 : decode prog_2_method_7_code 13 = .ok (.getfield 9, 3) := by decide +kernel
theorem d_M_becomeIdentity_16 : decode prog_2_method_7_code 16 = .ok (.iload_n 2, 1) := by decide +kernel
theorem d_M_becomeIdentity_17 : decode prog_2_method_7_code 17 = .ok (.iload_n 2, 1) := by decide +kernel
theorem d_M_becomeIdentity_18 : decode prog_2_method_7_code 18 = .ok (.iastore, 1) := by decide +kernel
theorem d_M_becomeIdentity_19 : decode prog_2_method_7_code 19 = .ok (.iinc 2 1, 3) := by decide +kernel
theorem d_M_becomeIdentity_22 : decode prog_2_method_7_code 22 = .ok (.goto (-15), 3) := by decide +kernel
theorem d_M_becomeIdentity_25 : decode prog_2_method_7_code 25 = .ok (.return_, 1) := by decide +kernel
def w_M_becomeIdentity_7_s (Φ : bs_R → bs_H → Prop) (nx7 : Nat → Int32 → Int32 → bs_H → Prop) (x0 : Nat) (x1 : Int32) (x2 : Int32) (h : bs_H) : Prop :=
  bs_if (x1 ≤ x2) (Φ (.ok none) h) (bs_fA h x0 1 0 (fun v1 => bs_sI h v1 x2 x2 (fun h2 => nx7 x0 x1 (x2 + 1) h2)))
def w_M_becomeIdentity_7 (Φ : bs_R → bs_H → Prop) : Nat → Nat → Int32 → Int32 → bs_H → Prop
  | 0 => fun _ _ _ _ => False
  | n + 1 => fun x0 x1 x2 h => w_M_becomeIdentity_7_s Φ (w_M_becomeIdentity_7 Φ n) x0 x1 x2 h
def w_M_becomeIdentity (Φ : bs_R → bs_H → Prop) (x0 : Nat) (x1 : Int32) (h : bs_H) : Prop :=
  bs_p h x0 1 1 (.int x1) (fun h1 => w_M_becomeIdentity_7 Φ 1000 x0 x1 0 h1)
theorem m_M_becomeIdentity_7 {l : Launch} {R : Room} {Φ : bs_R → bs_H → Prop} (hR : bs_rm 1 R) : ∀ (n : Nat) (x0 : Nat) (x1 : Int32) (x2 : Int32) (h : bs_H), w_M_becomeIdentity_7 Φ n x0 x1 x2 h → bs_J l K_M_becomeIdentity R Φ 7 [(0, .ref x0), (1, .int x1), (2, .int x2)] [] h := by
  intro n
  induction n with
  | zero => intro x0 x1 x2 h hw; exact hw.elim
  | succ n ih =>
    have hnx7 := ih
    intro x0 x1 x2 h hw
    replace hw : w_M_becomeIdentity_7_s Φ (w_M_becomeIdentity_7 Φ n) x0 x1 x2 h := hw
    unfold w_M_becomeIdentity_7_s at hw
    refine bj_iload_n (pc := 7) 2 d_M_becomeIdentity_7 rfl rfl ?_
    refine bj_iload_n (pc := 8) 1 d_M_becomeIdentity_8 rfl rfl ?_
    refine bj_icmp_ge (pc := 9) (tgt := 25) d_M_becomeIdentity_9 (by decide) (fun hc => ?_) (fun hc => ?_)
    · replace hw := hw.1 hc
      exact bj_vret (pc := 25) d_M_becomeIdentity_25 rfl hw
    · replace hw := hw.2 hc
      refine bj_aload_n (pc := 12) 0 d_M_becomeIdentity_12 rfl rfl ?_
      obtain ⟨fs, v1, hx, hv, hw⟩ := hw
      refine bj_get (pc := 13) (ci := 1) (k := 0) (fs := fs) (v := .ref v1) d_M_becomeIdentity_13 rfl (by decide) q_78 hx hv ?_
      refine bj_iload_n (pc := 16) 2 d_M_becomeIdentity_16 rfl rfl ?_
      refine bj_iload_n (pc := 17) 2 d_M_becomeIdentity_17 rfl rfl ?_
      obtain ⟨n, f, hx, hin, hw⟩ := hw
      refine bj_iast (pc := 18) (n := n) (f := f) d_M_becomeIdentity_18 hx hin ?_
      refine bj_iinc (pc := 19) (v := (x2 + 1)) (lo' := [(2, .int (x2 + 1)), (0, .ref x0), (1, .int x1)]) 2 d_M_becomeIdentity_19 rfl rfl (by decide) rfl ?_
      refine bj_goto (pc := 22) (tgt := 7) d_M_becomeIdentity_22 (by decide) ?_
      refine bj_sub [1, 2, 0] (lo' := [(0, .ref x0), (1, .int x1), (2, .int (x2 + 1))]) rfl ?_
      exact hnx7 _ _ _ _ hw
theorem m_M_becomeIdentity {l : Launch} {R : Room} (hR : bs_rm 1 R) {Φ : bs_R → bs_H → Prop} {x0 : Nat} {x1 : Int32} {h : bs_H} (hw : w_M_becomeIdentity Φ x0 x1 h) : bs_J l K_M_becomeIdentity R Φ 0 [(0, .ref x0), (1, .int x1)] [] h := by
  unfold w_M_becomeIdentity at hw
  refine bj_aload_n (pc := 0) 0 d_M_becomeIdentity_0 rfl rfl ?_
  refine bj_iload_n (pc := 1) 1 d_M_becomeIdentity_1 rfl rfl ?_
  obtain ⟨fs, hx, hlen, hw⟩ := hw
  refine bj_put (pc := 2) (ci := 1) (k := 1) (fs := fs) (v := (.int x1)) (ty := .int) d_M_becomeIdentity_2 rfl (by decide) q_79 rfl (by decide +kernel) rfl rfl hx hlen ?_
  refine bj_iconst (pc := 5) (v := 0) d_M_becomeIdentity_5 (by decide) ?_
  refine bj_istore_n (pc := 6) (lo' := [(2, .int 0), (0, .ref x0), (1, .int x1)]) d_M_becomeIdentity_6 rfl (by decide) rfl ?_
  refine bj_sub [1, 2, 0] (lo' := [(0, .ref x0), (1, .int x1), (2, .int 0)]) rfl ?_
  exact m_M_becomeIdentity_7 hR 1000 _ _ _ _ hw
theorem d_B_init_0 : decode prog_1_method_1_code 0 = .ok (.aload_n 0, 1) := by decide +kernel
theorem d_B_init_1 : decode prog_1_method_1_code 1 = .ok (.invokespecial 3, 3) := by decide +kernel
theorem d_B_init_4 : decode prog_1_method_1_code 4 = .ok (.aload_n 0, 1) := by decide +kernel
theorem d_B_init_5 : decode prog_1_method_1_code 5 = .ok (.new 9, 3) := by decide +kernel
theorem d_B_init_8 : decode prog_1_method_1_code 8 = .ok (.dup, 1) := by decide +kernel
theorem d_B_init_9 : decode prog_1_method_1_code 9 = .ok (.invokespecial 11, 3) := by decide +kernel
theorem d_B_init_12 : decode prog_1_method_1_code 12 = .ok (.putfield 12, 3) := by decide +kernel
theorem d_B_init_15 : decode prog_1_method_1_code 15 = .ok (.aload_n 0, 1) := by decide +kernel
theorem d_B_init_16 : decode prog_1_method_1_code 16 = .ok (.new 9, 3) := by decide +kernel
theorem d_B_init_19 : decode prog_1_method_1_code 19 = .ok (.dup, 1) := by decide +kernel
theorem d_B_init_20 : decode prog_1_method_1_code 20 = .ok (.invokespecial 11, 3) := by decide +kernel
theorem d_B_init_23 : decode prog_1_method_1_code 23 = .ok (.putfield 16, 3) := by decide +kernel
theorem d_B_init_26 : decode prog_1_method_1_code 26 = .ok (.aload_n 0, 1) := by decide +kernel
theorem d_B_init_27 : decode prog_1_method_1_code 27 = .ok (.bipush 8, 2) := by decide +kernel
theorem d_B_init_29 : decode prog_1_method_1_code 29 = .ok (.anewarray 9, 3) := by decide +kernel
theorem d_B_init_32 : decode prog_1_method_1_code 32 = .ok (.putfield 19, 3) := by decide +kernel
theorem d_B_init_35 : decode prog_1_method_1_code 35 = .ok (.iconst 0, 1) := by decide +kernel
theorem d_B_init_36 : decode prog_1_method_1_code 36 = .ok (.istore_n 1, 1) := by decide +kernel
theorem d_B_init_37 : decode prog_1_method_1_code 37 = .ok (.iload_n 1, 1) := by decide +kernel
theorem d_B_init_38 : decode prog_1_method_1_code 38 = .ok (.bipush 8, 2) := by decide +kernel
theorem d_B_init_40 : decode prog_1_method_1_code 40 = .ok (.if_icmp .ge 22, 3) := by decide +kernel
theorem d_B_init_43 : decode prog_1_method_1_code 43 = .ok (.aload_n 0, 1) := by decide +kernel
theorem d_B_init_44 : decode prog_1_method_1_code 44 = .ok (.getfield 19, 3) := by decide +kernel
theorem d_B_init_47 : decode prog_1_method_1_code 47 = .ok (.iload_n 1, 1) := by decide +kernel
theorem d_B_init_48 : decode prog_1_method_1_code 48 = .ok (.new 9, 3) := by decide +kernel
theorem d_B_init_51 : decode prog_1_method_1_code 51 = .ok (.dup, 1) := by decide +kernel
theorem d_B_init_52 : decode prog_1_method_1_code 52 = .ok (.invokespecial 11, 3) := by decide +kernel
theorem d_B_init_55 : decode prog_1_method_1_code 55 = .ok (.aastore, 1) := by decide +kernel
theorem d_B_init_56 : decode prog_1_method_1_code 56 = .ok (.iinc 1 1, 3) := by decide +kernel
theorem d_B_init_59 : decode prog_1_method_1_code 59 = .ok (.goto (-22), 3) := by decide +kernel
theorem d_B_init_62 : decode prog_1_method_1_code 62 = .ok (.aload_n 0, 1) := by decide +kernel
theorem d_B_init_63 : decode prog_1_method_1_code 63 = .ok (.iconst 0, 1) := by decide +kernel
theorem d_B_init_64 : decode prog_1_method_1_code 64 = .ok (.putfield 23, 3) := by decide +kernel
theorem d_B_init_67 : decode prog_1_method_1_code 67 = .ok (.aload_n 0, 1) := by decide +kernel
theorem d_B_init_68 : decode prog_1_method_1_code 68 = .ok (.new 27, 3) := by decide +kernel
theorem d_B_init_71 : decode prog_1_method_1_code 71 = .ok (.dup, 1) := by decide +kernel
theorem d_B_init_72 : decode prog_1_method_1_code 72 = .ok (.invokespecial 29, 3) := by decide +kernel
theorem d_B_init_75 : decode prog_1_method_1_code 75 = .ok (.putfield 30, 3) := by decide +kernel
theorem d_B_init_78 : decode prog_1_method_1_code 78 = .ok (.aload_n 0, 1) := by decide +kernel
theorem d_B_init_79 : decode prog_1_method_1_code 79 = .ok (.new 34, 3) := by decide +kernel
theorem d_B_init_82 : decode prog_1_method_1_code 82 = .ok (.dup, 1) := by decide +kernel
theorem d_B_init_83 : decode prog_1_method_1_code 83 = .ok (.invokespecial 36, 3) := by decide +kernel
theorem d_B_init_86 : decode prog_1_method_1_code 86 = .ok (.putfield 37, 3) := by decide +kernel
theorem d_B_init_89 : decode prog_1_method_1_code 89 = .ok (.aload_n 0, 1) := by decide +kernel
theorem d_B_init_90 : decode prog_1_method_1_code 90 = .ok (.new 41, 3) := by decide +kernel
theorem d_B_init_93 : decode prog_1_method_1_code 93 = .ok (.dup, 1) := by decide +kernel
theorem d_B_init_94 : decode prog_1_method_1_code 94 = .ok (.invokespecial 43, 3) := by decide +kernel
theorem d_B_init_97 : decode prog_1_method_1_code 97 = .ok (.putfield 44, 3) := by decide +kernel
theorem d_B_init_100 : decode prog_1_method_1_code 100 = .ok (.aload_n 0, 1) := by decide +kernel
theorem d_B_init_101 : decode prog_1_method_1_code 101 = .ok (.new 48, 3) := by decide +kernel
theorem d_B_init_104 : decode prog_1_method_1_code 104 = .ok (.dup, 1) := by decide +kernel
theorem d_B_init_105 : decode prog_1_method_1_code 105 = .ok (.invokespecial 50, 3) := by decide +kernel
theorem d_B_init_108 : decode prog_1_method_1_code 108 = .ok (.putfield 51, 3) := by decide +kernel
theorem d_B_init_111 : decode prog_1_method_1_code 111 = .ok (.aload_n 0, 1) := by decide +kernel
theorem d_B_init_112 : decode prog_1_method_1_code 112 = .ok (.new 55, 3) := by decide +kernel
theorem d_B_init_115 : decode prog_1_method_1_code 115 = .ok (.dup, 1) := by decide +kernel
theorem d_B_init_116 : decode prog_1_method_1_code 116 = .ok (.invokespecial 57, 3) := by decide +kernel
theorem d_B_init_119 : decode prog_1_method_1_code 119 = .ok (.putfield 58, 3) := by decide +kernel
theorem d_B_init_122 : decode prog_1_method_1_code 122 = .ok (.aload_n 0, 1) := by decide +kernel
theorem d_B_init_123 : decode prog_1_method_1_code 123 = .ok (.getfield 12, 3) := by decide +kernel
theorem d_B_init_126 : decode prog_1_method_1_code 126 = .ok (.bipush 8, 2) := by decide +kernel
theorem d_B_init_128 : decode prog_1_method_1_code 128 = .ok (.invokevirtual 62, 3) := by decide +kernel
theorem d_B_init_131 : decode prog_1_method_1_code 131 = .ok (.return_, 1) := by decide +kernel
def w_B_init_37_s (Φ : bs_R → bs_H → Prop) (nx37 : Nat → Int32 → bs_H → Prop) (x0 : Nat) (x1 : Int32) (h : bs_H) : Prop :=
  bs_if ((8 : Int32) ≤ x1) (bs_p h x0 0 3 (.int 0) (fun h1 => bs_nO h1 2 4 z_P (fun v2 h3 => w_P_init (bs_kV Φ fun h4 => (bs_p h4 x0 0 4 (.ref v2) (fun h5 => bs_nO h5 3 4 z_W (fun v6 h7 => w_W_init (bs_kV Φ fun h8 => (bs_p h8 x0 0 5 (.ref v6) (fun h9 => bs_nO h9 4 5 z_S (fun v10 h11 => w_S_init (bs_kV Φ fun h12 => (bs_p h12 x0 0 6 (.ref v10) (fun h13 => bs_nO h13 5 7 z_X (fun v14 h15 => w_X_init (bs_kV Φ fun h16 => (bs_p h16 x0 0 7 (.ref v14) (fun h17 => bs_nO h17 6 3 z_G (fun v18 h19 => w_G_init (bs_kV Φ fun h20 => (bs_p h20 x0 0 8 (.ref v18) (fun h21 => bs_fA h21 x0 0 0 (fun v22 => bs_on h21 v22 1 (w_M_becomeIdentity (bs_kV Φ fun h23 => (Φ (.ok none) h23)) v22 8 h21))))) v18 h19)))) v14 h15)))) v10 h11)))) v6 h7)))) v2 h3))) (bs_fA h x0 0 2 (fun v24 => bs_nO h 1 2 z_M (fun v25 h26 => w_M_init (bs_kV Φ fun h27 => (bs_sA h27 v24 x1 v25 (fun h28 => nx37 x0 (x1 + 1) h28))) v25 h26)))
def w_B_init_37 (Φ : bs_R → bs_H → Prop) : Nat → Nat → Int32 → bs_H → Prop
  | 0 => fun _ _ _ => False
  | n + 1 => fun x0 x1 h => w_B_init_37_s Φ (w_B_init_37 Φ n) x0 x1 h
def w_B_init (Φ : bs_R → bs_H → Prop) (x0 : Nat) (h : bs_H) : Prop :=
  bs_nO h 1 2 z_M (fun v1 h2 => w_M_init (bs_kV Φ fun h3 => (bs_p h3 x0 0 0 (.ref v1) (fun h4 => bs_nO h4 1 2 z_M (fun v5 h6 => w_M_init (bs_kV Φ fun h7 => (bs_p h7 x0 0 1 (.ref v5) (fun h8 => bs_nA h8 8 (bs_ra 8 fun _ => none) (fun v9 h10 => bs_p h10 x0 0 2 (.ref v9) (fun h11 => w_B_init_37 Φ 1000 x0 0 h11))))) v5 h6)))) v1 h2)
theorem m_B_init_37 {l : Launch} {R : Room} {Φ : bs_R → bs_H → Prop} (hR : bs_rm 2 R) : ∀ (n : Nat) (x0 : Nat) (x1 : Int32) (h : bs_H), w_B_init_37 Φ n x0 x1 h → bs_J l K_B_init R Φ 37 [(0, .ref x0), (1, .int x1)] [] h := by
  intro n
  induction n with
  | zero => intro x0 x1 h hw; exact hw.elim
  | succ n ih =>
    have hnx37 := ih
    intro x0 x1 h hw
    replace hw : w_B_init_37_s Φ (w_B_init_37 Φ n) x0 x1 h := hw
    unfold w_B_init_37_s at hw
    refine bj_iload_n (pc := 37) 1 d_B_init_37 rfl rfl ?_
    refine bj_bipush (pc := 38) (v := 8) d_B_init_38 (by decide) ?_
    refine bj_icmp_ge (pc := 40) (tgt := 62) d_B_init_40 (by decide) (fun hc => ?_) (fun hc => ?_)
    · replace hw := hw.1 hc
      refine bj_aload_n (pc := 62) 0 d_B_init_62 rfl rfl ?_
      refine bj_iconst (pc := 63) (v := 0) d_B_init_63 (by decide) ?_
      obtain ⟨fs, hx, hlen, hw⟩ := hw
      refine bj_put (pc := 64) (ci := 0) (k := 3) (fs := fs) (v := (.int 0)) (ty := .int) d_B_init_64 rfl (by decide) q_199 rfl (by decide +kernel) rfl rfl hx hlen ?_
      refine bj_aload_n (pc := 67) 0 d_B_init_67 rfl rfl ?_
      obtain ⟨v2, ha, h1, h2, hw⟩ := hw
      refine bj_new (pc := 68) (ci := 2) (fs := z_P) d_B_init_68 rfl q_87 q_88 q_48 t_P tt_P zz_P ha h1 h2 ?_
      refine bj_dup (pc := 71) d_B_init_71 rfl ?_
      refine bj_callI (pc := 72) (np := 0) (K' := K_P_init) (argsL := []) (st := [.ref v2, .ref x0]) (d1 := 1) rfl d_B_init_72 (Or.inl q_89) q_90 rfl q_91 rfl rfl rfl n_P_init hR (by decide) (by decide) rfl (Nat.le_of_ble_eq_true rfl) rfl (Nat.le_of_ble_eq_true rfl) (fun R' hR' => m_P_init hR' hw) (bs_kV_ok fun h4 hw => ?_) (fun _ _ z => z)
      obtain ⟨fs, hx, hlen, hw⟩ := hw
      refine bj_putF (pc := 75) (ci := 0) (k := 4) (fs := fs) (v := (.ref v2)) (ty := (.object "BitShuffler$Program")) d_B_init_75 rfl (by decide) q_200 rfl rfl rfl (by decide +kernel) rfl rfl hx hlen ?_
      refine bj_aload_n (pc := 78) 0 d_B_init_78 rfl rfl ?_
      obtain ⟨v6, ha, h1, h2, hw⟩ := hw
      refine bj_new (pc := 79) (ci := 3) (fs := z_W) d_B_init_79 rfl q_107 q_108 q_49 t_W tt_W zz_W ha h1 h2 ?_
      refine bj_dup (pc := 82) d_B_init_82 rfl ?_
      refine bj_callI (pc := 83) (np := 0) (K' := K_W_init) (argsL := []) (st := [.ref v6, .ref x0]) (d1 := 1) rfl d_B_init_83 (Or.inl q_109) q_110 rfl q_111 rfl rfl rfl n_W_init hR (by decide) (by decide) rfl (Nat.le_of_ble_eq_true rfl) rfl (Nat.le_of_ble_eq_true rfl) (fun R' hR' => m_W_init hR' hw) (bs_kV_ok fun h8 hw => ?_) (fun _ _ z => z)
      obtain ⟨fs, hx, hlen, hw⟩ := hw
      refine bj_putF (pc := 86) (ci := 0) (k := 5) (fs := fs) (v := (.ref v6)) (ty := (.object "BitShuffler$WordMachine")) d_B_init_86 rfl (by decide) q_201 rfl rfl rfl (by decide +kernel) rfl rfl hx hlen ?_
      refine bj_aload_n (pc := 89) 0 d_B_init_89 rfl rfl ?_
      obtain ⟨v10, ha, h1, h2, hw⟩ := hw
      refine bj_new (pc := 90) (ci := 4) (fs := z_S) d_B_init_90 rfl q_126 q_127 q_50 t_S tt_S zz_S ha h1 h2 ?_
      refine bj_dup (pc := 93) d_B_init_93 rfl ?_
      refine bj_callI (pc := 94) (np := 0) (K' := K_S_init) (argsL := []) (st := [.ref v10, .ref x0]) (d1 := 1) rfl d_B_init_94 (Or.inl q_128) q_129 rfl q_130 rfl rfl rfl n_S_init hR (by decide) (by decide) rfl (Nat.le_of_ble_eq_true rfl) rfl (Nat.le_of_ble_eq_true rfl) (fun R' hR' => m_S_init hR' hw) (bs_kV_ok fun h12 hw => ?_) (fun _ _ z => z)
      obtain ⟨fs, hx, hlen, hw⟩ := hw
      refine bj_putF (pc := 97) (ci := 0) (k := 6) (fs := fs) (v := (.ref v10)) (ty := (.object "BitShuffler$Symbols")) d_B_init_97 rfl (by decide) q_202 rfl rfl rfl (by decide +kernel) rfl rfl hx hlen ?_
      refine bj_aload_n (pc := 100) 0 d_B_init_100 rfl rfl ?_
      obtain ⟨v14, ha, h1, h2, hw⟩ := hw
      refine bj_new (pc := 101) (ci := 5) (fs := z_X) d_B_init_101 rfl q_148 q_149 q_51 t_X tt_X zz_X ha h1 h2 ?_
      refine bj_dup (pc := 104) d_B_init_104 rfl ?_
      refine bj_callI (pc := 105) (np := 0) (K' := K_X_init) (argsL := []) (st := [.ref v14, .ref x0]) (d1 := 1) rfl d_B_init_105 (Or.inl q_150) q_151 rfl q_152 rfl rfl rfl n_X_init hR (by decide) (by decide) rfl (Nat.le_of_ble_eq_true rfl) rfl (Nat.le_of_ble_eq_true rfl) (fun R' hR' => m_X_init hR' hw) (bs_kV_ok fun h16 hw => ?_) (fun _ _ z => z)
      obtain ⟨fs, hx, hlen, hw⟩ := hw
      refine bj_putF (pc := 108) (ci := 0) (k := 7) (fs := fs) (v := (.ref v14)) (ty := (.object "BitShuffler$SwapPlan")) d_B_init_108 rfl (by decide) q_203 rfl rfl rfl (by decide +kernel) rfl rfl hx hlen ?_
      refine bj_aload_n (pc := 111) 0 d_B_init_111 rfl rfl ?_
      obtain ⟨v18, ha, h1, h2, hw⟩ := hw
      refine bj_new (pc := 112) (ci := 6) (fs := z_G) d_B_init_112 rfl q_176 q_177 q_52 t_G tt_G zz_G ha h1 h2 ?_
      refine bj_dup (pc := 115) d_B_init_115 rfl ?_
      refine bj_callI (pc := 116) (np := 0) (K' := K_G_init) (argsL := []) (st := [.ref v18, .ref x0]) (d1 := 1) rfl d_B_init_116 (Or.inl q_178) q_179 rfl q_180 rfl rfl rfl n_G_init hR (by decide) (by decide) rfl (Nat.le_of_ble_eq_true rfl) rfl (Nat.le_of_ble_eq_true rfl) (fun R' hR' => m_G_init hR' hw) (bs_kV_ok fun h20 hw => ?_) (fun _ _ z => z)
      obtain ⟨fs, hx, hlen, hw⟩ := hw
      refine bj_putF (pc := 119) (ci := 0) (k := 8) (fs := fs) (v := (.ref v18)) (ty := (.object "BitShuffler$GatherPlan")) d_B_init_119 rfl (by decide) q_204 rfl rfl rfl (by decide +kernel) rfl rfl hx hlen ?_
      refine bj_aload_n (pc := 122) 0 d_B_init_122 rfl rfl ?_
      obtain ⟨fs, v22, hx, hv, hw⟩ := hw
      refine bj_get (pc := 123) (ci := 0) (k := 0) (fs := fs) (v := .ref v22) d_B_init_123 rfl (by decide) q_196 hx hv ?_
      refine bj_bipush (pc := 126) (v := 8) d_B_init_126 (by decide) ?_
      obtain ⟨⟨fs, hx⟩, hw⟩ := hw
      refine bj_callV (pc := 128) (np := 1) (K' := K_M_becomeIdentity) (argsL := [.int 8]) (st := []) (d1 := 1) (ci := 1) (fs := fs) rfl d_B_init_128 (Or.inl q_192) q_193 rfl q_194 c_M_becomeIdentity n_M_becomeIdentity hR (by decide) (by decide) rfl (Nat.le_of_ble_eq_true rfl) rfl (Nat.le_of_ble_eq_true rfl) hx (fun R' hR' => m_M_becomeIdentity hR' hw) (bs_kV_ok fun h23 hw => ?_) (fun _ _ z => z)
      exact bj_vret (pc := 131) d_B_init_131 rfl hw
    · replace hw := hw.2 hc
      refine bj_aload_n (pc := 43) 0 d_B_init_43 rfl rfl ?_
      obtain ⟨fs, v24, hx, hv, hw⟩ := hw
      refine bj_get (pc := 44) (ci := 0) (k := 2) (fs := fs) (v := .ref v24) d_B_init_44 rfl (by decide) q_198 hx hv ?_
      refine bj_iload_n (pc := 47) 1 d_B_init_47 rfl rfl ?_
      obtain ⟨v25, ha, h1, h2, hw⟩ := hw
      refine bj_new (pc := 48) (ci := 1) (fs := z_M) d_B_init_48 rfl q_72 q_73 q_47 t_M tt_M zz_M ha h1 h2 ?_
      refine bj_dup (pc := 51) d_B_init_51 rfl ?_
      refine bj_callI (pc := 52) (np := 0) (K' := K_M_init) (argsL := []) (st := [.ref v25, .int x1, .ref v24]) (d1 := 1) rfl d_B_init_52 (Or.inl q_74) q_75 rfl q_76 rfl rfl rfl n_M_init hR (by decide) (by decide) rfl (Nat.le_of_ble_eq_true rfl) rfl (Nat.le_of_ble_eq_true rfl) (fun R' hR' => m_M_init hR' hw) (bs_kV_ok fun h27 hw => ?_) (fun _ _ z => z)
      obtain ⟨n, f, vs, hx, hin, hb, hw⟩ := hw
      refine bj_aast (pc := 55) (n := n) (f := f) (ci := 1) (vs := vs) d_B_init_55 hx hin hb rfl rfl ?_
      refine bj_iinc (pc := 56) (v := (x1 + 1)) (lo' := [(1, .int (x1 + 1)), (0, .ref x0)]) 1 d_B_init_56 rfl rfl (by decide) rfl ?_
      refine bj_goto (pc := 59) (tgt := 37) d_B_init_59 (by decide) ?_
      refine bj_sub [1, 0] (lo' := [(0, .ref x0), (1, .int (x1 + 1))]) rfl ?_
      exact hnx37 _ _ _ hw
theorem m_B_init {l : Launch} {R : Room} (hR : bs_rm 2 R) {Φ : bs_R → bs_H → Prop} {x0 : Nat} {h : bs_H} (hw : w_B_init Φ x0 h) : bs_J l K_B_init R Φ 0 [(0, .ref x0)] [] h := by
  unfold w_B_init at hw
  refine bj_aload_n (pc := 0) 0 d_B_init_0 rfl rfl ?_
  refine bj_objInit (pc := 1) d_B_init_1 q_69 q_70 q_71 hR (Nat.le_of_ble_eq_true rfl) ?_
  refine bj_aload_n (pc := 4) 0 d_B_init_4 rfl rfl ?_
  obtain ⟨v1, ha, h1, h2, hw⟩ := hw
  refine bj_new (pc := 5) (ci := 1) (fs := z_M) d_B_init_5 rfl q_72 q_73 q_47 t_M tt_M zz_M ha h1 h2 ?_
  refine bj_dup (pc := 8) d_B_init_8 rfl ?_
  refine bj_callI (pc := 9) (np := 0) (K' := K_M_init) (argsL := []) (st := [.ref v1, .ref x0]) (d1 := 1) rfl d_B_init_9 (Or.inl q_74) q_75 rfl q_76 rfl rfl rfl n_M_init hR (by decide) (by decide) rfl (Nat.le_of_ble_eq_true rfl) rfl (Nat.le_of_ble_eq_true rfl) (fun R' hR' => m_M_init hR' hw) (bs_kV_ok fun h3 hw => ?_) (fun _ _ z => z)
  obtain ⟨fs, hx, hlen, hw⟩ := hw
  refine bj_putF (pc := 12) (ci := 0) (k := 0) (fs := fs) (v := (.ref v1)) (ty := (.object "BitShuffler$BitMap")) d_B_init_12 rfl (by decide) q_196 rfl rfl rfl (by decide +kernel) rfl rfl hx hlen ?_
  refine bj_aload_n (pc := 15) 0 d_B_init_15 rfl rfl ?_
  obtain ⟨v5, ha, h1, h2, hw⟩ := hw
  refine bj_new (pc := 16) (ci := 1) (fs := z_M) d_B_init_16 rfl q_72 q_73 q_47 t_M tt_M zz_M ha h1 h2 ?_
  refine bj_dup (pc := 19) d_B_init_19 rfl ?_
  refine bj_callI (pc := 20) (np := 0) (K' := K_M_init) (argsL := []) (st := [.ref v5, .ref x0]) (d1 := 1) rfl d_B_init_20 (Or.inl q_74) q_75 rfl q_76 rfl rfl rfl n_M_init hR (by decide) (by decide) rfl (Nat.le_of_ble_eq_true rfl) rfl (Nat.le_of_ble_eq_true rfl) (fun R' hR' => m_M_init hR' hw) (bs_kV_ok fun h7 hw => ?_) (fun _ _ z => z)
  obtain ⟨fs, hx, hlen, hw⟩ := hw
  refine bj_putF (pc := 23) (ci := 0) (k := 1) (fs := fs) (v := (.ref v5)) (ty := (.object "BitShuffler$BitMap")) d_B_init_23 rfl (by decide) q_197 rfl rfl rfl (by decide +kernel) rfl rfl hx hlen ?_
  refine bj_aload_n (pc := 26) 0 d_B_init_26 rfl rfl ?_
  refine bj_bipush (pc := 27) (v := 8) d_B_init_27 (by decide) ?_
  obtain ⟨v9, ha, h1, h2, hw⟩ := hw
  refine bj_anew (pc := 29) (N := 8) d_B_init_29 q_72 q_86 (by decide) (by decide) (by decide) ha h1 h2 ?_
  obtain ⟨fs, hx, hlen, hw⟩ := hw
  refine bj_putF (pc := 32) (ci := 0) (k := 2) (fs := fs) (v := (.ref v9)) (ty := (.array (.object "BitShuffler$BitMap"))) d_B_init_32 rfl (by decide) q_198 rfl rfl rfl (by decide +kernel) rfl rfl hx hlen ?_
  refine bj_iconst (pc := 35) (v := 0) d_B_init_35 (by decide) ?_
  refine bj_istore_n (pc := 36) (lo' := [(1, .int 0), (0, .ref x0)]) d_B_init_36 rfl (by decide) rfl ?_
  refine bj_sub [1, 0] (lo' := [(0, .ref x0), (1, .int 0)]) rfl ?_
  exact m_B_init_37 hR 1000 _ _ _ hw
theorem d_R_begin_0 : decode prog_9_method_3_code 0 = .ok (.aload_n 0, 1) := by decide +kernel
theorem d_R_begin_1 : decode prog_9_method_3_code 1 = .ok (.iload_n 1, 1) := by decide +kernel
theorem d_R_begin_2 : decode prog_9_method_3_code 2 = .ok (.putfield 89, 3) := by decide +kernel
theorem d_R_begin_5 : decode prog_9_method_3_code 5 = .ok (.aload_n 0, 1) := by decide +kernel
theorem d_R_begin_6 : decode prog_9_method_3_code 6 = .ok (.iconst 0, 1) := by decide +kernel
theorem d_R_begin_7 : decode prog_9_method_3_code 7 = .ok (.putfield 92, 3) := by decide +kernel
theorem d_R_begin_10 : decode prog_9_method_3_code 10 = .ok (.iconst 0, 1) := by decide +kernel
theorem d_R_begin_11 : decode prog_9_method_3_code 11 = .ok (.istore_n 2, 1) := by decide +kernel
theorem d_R_begin_12 : decode prog_9_method_3_code 12 = .ok (.iload_n 2, 1) := by decide +kernel
theorem d_R_begin_13 : decode prog_9_method_3_code 13 = .ok (.bipush 64, 2) := by decide +kernel
theorem d_R_begin_15 : decode prog_9_method_3_code 15 = .ok (.if_icmp .ge 16, 3) := by decide +kernel
theorem d_R_begin_18 : decode prog_9_method_3_code 18 = .ok (.aload_n 0, 1) := by decide +kernel
theorem d_R_begin_19 : decode prog_9_method_3_code 19 = .ok (.getfield 7, 3) := by decide +kernel
theorem d_R_begin_22 : decode prog_9_method_3_code 22 = .ok (.iload_n 2, 1) := by decide +kernel
theorem d_R_begin_23 : decode prog_9_method_3_code 23 = .ok (.iload_n 2, 1) := by decide +kernel
theorem d_R_begin_24 : decode prog_9_method_3_code 24 = .ok (.iastore, 1) := by decide +kernel
theorem d_R_begin_25 : decode prog_9_method_3_code 25 = .ok (.iinc 2 1, 3) := by decide +kernel
theorem d_R_begin_28 : decode prog_9_method_3_code 28 = .ok (.goto (-16), 3) := by decide +kernel
theorem d_R_begin_31 : decode prog_9_method_3_code 31 = .ok (.return_, 1) := by decide +kernel
def w_R_begin_12_s (Φ : bs_R → bs_H → Prop) (nx12 : Nat → Int32 → bs_H → Prop) (x0 : Nat) (x2 : Int32) (h : bs_H) : Prop :=
  bs_if ((64 : Int32) ≤ x2) (Φ (.ok none) h) (bs_fA h x0 7 2 (fun v1 => bs_sI h v1 x2 x2 (fun h2 => nx12 x0 (x2 + 1) h2)))
def w_R_begin_12 (Φ : bs_R → bs_H → Prop) : Nat → Nat → Int32 → bs_H → Prop
  | 0 => fun _ _ _ => False
  | n + 1 => fun x0 x2 h => w_R_begin_12_s Φ (w_R_begin_12 Φ n) x0 x2 h
def w_R_begin (Φ : bs_R → bs_H → Prop) (x0 : Nat) (x1 : Int32) (h : bs_H) : Prop :=
  bs_p h x0 7 1 (.int x1) (fun h1 => bs_p h1 x0 7 3 (.int 0) (fun h2 => w_R_begin_12 Φ 1000 x0 0 h2))
theorem m_R_begin_12 {l : Launch} {R : Room} {Φ : bs_R → bs_H → Prop} (hR : bs_rm 1 R) : ∀ (n : Nat) (x0 : Nat) (x2 : Int32) (h : bs_H), w_R_begin_12 Φ n x0 x2 h → bs_J l K_R_begin R Φ 12 [(0, .ref x0), (2, .int x2)] [] h := by
  intro n
  induction n with
  | zero => intro x0 x2 h hw; exact hw.elim
  | succ n ih =>
    have hnx12 := ih
    intro x0 x2 h hw
    replace hw : w_R_begin_12_s Φ (w_R_begin_12 Φ n) x0 x2 h := hw
    unfold w_R_begin_12_s at hw
    refine bj_iload_n (pc := 12) 1 d_R_begin_12 rfl rfl ?_
    refine bj_bipush (pc := 13) (v := 64) d_R_begin_13 (by decide) ?_
    refine bj_icmp_ge (pc := 15) (tgt := 31) d_R_begin_15 (by decide) (fun hc => ?_) (fun hc => ?_)
    · replace hw := hw.1 hc
      exact bj_vret (pc := 31) d_R_begin_31 rfl hw
    · replace hw := hw.2 hc
      refine bj_aload_n (pc := 18) 0 d_R_begin_18 rfl rfl ?_
      obtain ⟨fs, v1, hx, hv, hw⟩ := hw
      refine bj_get (pc := 19) (ci := 7) (k := 2) (fs := fs) (v := .ref v1) d_R_begin_19 rfl (by decide) q_750 hx hv ?_
      refine bj_iload_n (pc := 22) 1 d_R_begin_22 rfl rfl ?_
      refine bj_iload_n (pc := 23) 1 d_R_begin_23 rfl rfl ?_
      obtain ⟨n, f, hx, hin, hw⟩ := hw
      refine bj_iast (pc := 24) (n := n) (f := f) d_R_begin_24 hx hin ?_
      refine bj_iinc (pc := 25) (v := (x2 + 1)) (lo' := [(2, .int (x2 + 1)), (0, .ref x0)]) 1 d_R_begin_25 rfl rfl (by decide) rfl ?_
      refine bj_goto (pc := 28) (tgt := 12) d_R_begin_28 (by decide) ?_
      refine bj_sub [1, 0] (lo' := [(0, .ref x0), (2, .int (x2 + 1))]) rfl ?_
      exact hnx12 _ _ _ hw
theorem m_R_begin {l : Launch} {R : Room} (hR : bs_rm 1 R) {Φ : bs_R → bs_H → Prop} {x0 : Nat} {x1 : Int32} {h : bs_H} (hw : w_R_begin Φ x0 x1 h) : bs_J l K_R_begin R Φ 0 [(0, .ref x0), (1, .int x1)] [] h := by
  unfold w_R_begin at hw
  refine bj_aload_n (pc := 0) 0 d_R_begin_0 rfl rfl ?_
  refine bj_iload_n (pc := 1) 1 d_R_begin_1 rfl rfl ?_
  obtain ⟨fs, hx, hlen, hw⟩ := hw
  refine bj_put (pc := 2) (ci := 7) (k := 1) (fs := fs) (v := (.int x1)) (ty := .int) d_R_begin_2 rfl (by decide) q_749 rfl (by decide +kernel) rfl rfl hx hlen ?_
  refine bj_aload_n (pc := 5) 0 d_R_begin_5 rfl rfl ?_
  refine bj_iconst (pc := 6) (v := 0) d_R_begin_6 (by decide) ?_
  obtain ⟨fs, hx, hlen, hw⟩ := hw
  refine bj_put (pc := 7) (ci := 7) (k := 3) (fs := fs) (v := (.int 0)) (ty := .int) d_R_begin_7 rfl (by decide) q_751 rfl (by decide +kernel) rfl rfl hx hlen ?_
  refine bj_iconst (pc := 10) (v := 0) d_R_begin_10 (by decide) ?_
  refine bj_istore_n (pc := 11) (lo' := [(2, .int 0), (0, .ref x0), (1, .int x1)]) d_R_begin_11 rfl (by decide) rfl ?_
  refine bj_sub [1, 0] (lo' := [(0, .ref x0), (2, .int 0)]) rfl ?_
  exact m_R_begin_12 hR 1000 _ _ _ hw
theorem d_R_init_0 : decode prog_9_method_1_code 0 = .ok (.aload_n 0, 1) := by decide +kernel
theorem d_R_init_1 : decode prog_9_method_1_code 1 = .ok (.invokespecial 1, 3) := by decide +kernel
theorem d_R_init_4 : decode prog_9_method_1_code 4 = .ok (.aload_n 0, 1) := by decide +kernel
theorem d_R_init_5 : decode prog_9_method_1_code 5 = .ok (.bipush 64, 2) := by decide +kernel
theorem d_R_init_7 : decode prog_9_method_1_code 7 = .ok (.newarray .int, 2) := by decide +kernel
theorem d_R_init_9 : decode prog_9_method_1_code 9 = .ok (.putfield 7, 3) := by decide +kernel
theorem d_R_init_12 : decode prog_9_method_1_code 12 = .ok (.aload_n 0, 1) := by decide +kernel
theorem d_R_init_13 : decode prog_9_method_1_code 13 = .ok (.sipush 400, 3) := by decide +kernel
theorem d_R_init_16 : decode prog_9_method_1_code 16 = .ok (.newarray .int, 2) := by decide +kernel
theorem d_R_init_18 : decode prog_9_method_1_code 18 = .ok (.putfield 13, 3) := by decide +kernel
theorem d_R_init_21 : decode prog_9_method_1_code 21 = .ok (.aload_n 0, 1) := by decide +kernel
theorem d_R_init_22 : decode prog_9_method_1_code 22 = .ok (.sipush 400, 3) := by decide +kernel
theorem d_R_init_25 : decode prog_9_method_1_code 25 = .ok (.newarray .int, 2) := by decide +kernel
theorem d_R_init_27 : decode prog_9_method_1_code 27 = .ok (.putfield 16, 3) := by decide +kernel
theorem d_R_init_30 : decode prog_9_method_1_code 30 = .ok (.aload_n 0, 1) := by decide +kernel
theorem d_R_init_31 : decode prog_9_method_1_code 31 = .ok (.sipush 400, 3) := by decide +kernel
theorem d_R_init_34 : decode prog_9_method_1_code 34 = .ok (.newarray .long, 2) := by decide +kernel
theorem d_R_init_36 : decode prog_9_method_1_code 36 = .ok (.putfield 19, 3) := by decide +kernel
theorem d_R_init_39 : decode prog_9_method_1_code 39 = .ok (.aload_n 0, 1) := by decide +kernel
theorem d_R_init_40 : decode prog_9_method_1_code 40 = .ok (.bipush 8, 2) := by decide +kernel
theorem d_R_init_42 : decode prog_9_method_1_code 42 = .ok (.newarray .int, 2) := by decide +kernel
theorem d_R_init_44 : decode prog_9_method_1_code 44 = .ok (.putfield 23, 3) := by decide +kernel
theorem d_R_init_47 : decode prog_9_method_1_code 47 = .ok (.aload_n 0, 1) := by decide +kernel
theorem d_R_init_48 : decode prog_9_method_1_code 48 = .ok (.sipush 512, 3) := by decide +kernel
theorem d_R_init_51 : decode prog_9_method_1_code 51 = .ok (.newarray .int, 2) := by decide +kernel
theorem d_R_init_53 : decode prog_9_method_1_code 53 = .ok (.putfield 26, 3) := by decide +kernel
theorem d_R_init_56 : decode prog_9_method_1_code 56 = .ok (.aload_n 0, 1) := by decide +kernel
theorem d_R_init_57 : decode prog_9_method_1_code 57 = .ok (.bipush 64, 2) := by decide +kernel
theorem d_R_init_59 : decode prog_9_method_1_code 59 = .ok (.newarray .long, 2) := by decide +kernel
theorem d_R_init_61 : decode prog_9_method_1_code 61 = .ok (.putfield 29, 3) := by decide +kernel
theorem d_R_init_64 : decode prog_9_method_1_code 64 = .ok (.aload_n 0, 1) := by decide +kernel
theorem d_R_init_65 : decode prog_9_method_1_code 65 = .ok (.bipush 64, 2) := by decide +kernel
theorem d_R_init_67 : decode prog_9_method_1_code 67 = .ok (.newarray .long, 2) := by decide +kernel
theorem d_R_init_69 : decode prog_9_method_1_code 69 = .ok (.putfield 32, 3) := by decide +kernel
theorem d_R_init_72 : decode prog_9_method_1_code 72 = .ok (.aload_n 0, 1) := by decide +kernel
theorem d_R_init_73 : decode prog_9_method_1_code 73 = .ok (.bipush 64, 2) := by decide +kernel
theorem d_R_init_75 : decode prog_9_method_1_code 75 = .ok (.newarray .long, 2) := by decide +kernel
theorem d_R_init_77 : decode prog_9_method_1_code 77 = .ok (.putfield 35, 3) := by decide +kernel
theorem d_R_init_80 : decode prog_9_method_1_code 80 = .ok (.aload_n 0, 1) := by decide +kernel
theorem d_R_init_81 : decode prog_9_method_1_code 81 = .ok (.bipush 64, 2) := by decide +kernel
theorem d_R_init_83 : decode prog_9_method_1_code 83 = .ok (.newarray .boolean, 2) := by decide +kernel
theorem d_R_init_85 : decode prog_9_method_1_code 85 = .ok (.putfield 38, 3) := by decide +kernel
theorem d_R_init_88 : decode prog_9_method_1_code 88 = .ok (.aload_n 0, 1) := by decide +kernel
theorem d_R_init_89 : decode prog_9_method_1_code 89 = .ok (.bipush 64, 2) := by decide +kernel
theorem d_R_init_91 : decode prog_9_method_1_code 91 = .ok (.newarray .long, 2) := by decide +kernel
theorem d_R_init_93 : decode prog_9_method_1_code 93 = .ok (.putfield 42, 3) := by decide +kernel
theorem d_R_init_96 : decode prog_9_method_1_code 96 = .ok (.aload_n 0, 1) := by decide +kernel
theorem d_R_init_97 : decode prog_9_method_1_code 97 = .ok (.bipush 64, 2) := by decide +kernel
theorem d_R_init_99 : decode prog_9_method_1_code 99 = .ok (.newarray .int, 2) := by decide +kernel
theorem d_R_init_101 : decode prog_9_method_1_code 101 = .ok (.putfield 45, 3) := by decide +kernel
theorem d_R_init_104 : decode prog_9_method_1_code 104 = .ok (.aload_n 0, 1) := by decide +kernel
theorem d_R_init_105 : decode prog_9_method_1_code 105 = .ok (.bipush 64, 2) := by decide +kernel
theorem d_R_init_107 : decode prog_9_method_1_code 107 = .ok (.newarray .int, 2) := by decide +kernel
theorem d_R_init_109 : decode prog_9_method_1_code 109 = .ok (.putfield 48, 3) := by decide +kernel
theorem d_R_init_112 : decode prog_9_method_1_code 112 = .ok (.aload_n 0, 1) := by decide +kernel
theorem d_R_init_113 : decode prog_9_method_1_code 113 = .ok (.bipush 64, 2) := by decide +kernel
theorem d_R_init_115 : decode prog_9_method_1_code 115 = .ok (.newarray .int, 2) := by decide +kernel
theorem d_R_init_117 : decode prog_9_method_1_code 117 = .ok (.putfield 51, 3) := by decide +kernel
theorem d_R_init_120 : decode prog_9_method_1_code 120 = .ok (.aload_n 0, 1) := by decide +kernel
theorem d_R_init_121 : decode prog_9_method_1_code 121 = .ok (.bipush 64, 2) := by decide +kernel
theorem d_R_init_123 : decode prog_9_method_1_code 123 = .ok (.newarray .int, 2) := by decide +kernel
theorem d_R_init_125 : decode prog_9_method_1_code 125 = .ok (.putfield 54, 3) := by decide +kernel
theorem d_R_init_128 : decode prog_9_method_1_code 128 = .ok (.aload_n 0, 1) := by decide +kernel
theorem d_R_init_129 : decode prog_9_method_1_code 129 = .ok (.bipush 7, 2) := by decide +kernel
theorem d_R_init_131 : decode prog_9_method_1_code 131 = .ok (.newarray .long, 2) := by decide +kernel
theorem d_R_init_133 : decode prog_9_method_1_code 133 = .ok (.putfield 57, 3) := by decide +kernel
theorem d_R_init_136 : decode prog_9_method_1_code 136 = .ok (.aload_n 0, 1) := by decide +kernel
theorem d_R_init_137 : decode prog_9_method_1_code 137 = .ok (.bipush 7, 2) := by decide +kernel
theorem d_R_init_139 : decode prog_9_method_1_code 139 = .ok (.newarray .long, 2) := by decide +kernel
theorem d_R_init_141 : decode prog_9_method_1_code 141 = .ok (.putfield 60, 3) := by decide +kernel
theorem d_R_init_144 : decode prog_9_method_1_code 144 = .ok (.aload_n 0, 1) := by decide +kernel
theorem d_R_init_145 : decode prog_9_method_1_code 145 = .ok (.bipush 64, 2) := by decide +kernel
theorem d_R_init_147 : decode prog_9_method_1_code 147 = .ok (.newarray .int, 2) := by decide +kernel
theorem d_R_init_149 : decode prog_9_method_1_code 149 = .ok (.putfield 63, 3) := by decide +kernel
theorem d_R_init_152 : decode prog_9_method_1_code 152 = .ok (.aload_n 0, 1) := by decide +kernel
theorem d_R_init_153 : decode prog_9_method_1_code 153 = .ok (.bipush 64, 2) := by decide +kernel
theorem d_R_init_155 : decode prog_9_method_1_code 155 = .ok (.newarray .long, 2) := by decide +kernel
theorem d_R_init_157 : decode prog_9_method_1_code 157 = .ok (.putfield 66, 3) := by decide +kernel
theorem d_R_init_160 : decode prog_9_method_1_code 160 = .ok (.aload_n 0, 1) := by decide +kernel
theorem d_R_init_161 : decode prog_9_method_1_code 161 = .ok (.bipush 64, 2) := by decide +kernel
theorem d_R_init_163 : decode prog_9_method_1_code 163 = .ok (.newarray .long, 2) := by decide +kernel
theorem d_R_init_165 : decode prog_9_method_1_code 165 = .ok (.putfield 69, 3) := by decide +kernel
theorem d_R_init_168 : decode prog_9_method_1_code 168 = .ok (.aload_n 0, 1) := by decide +kernel
theorem d_R_init_169 : decode prog_9_method_1_code 169 = .ok (.sipush 256, 3) := by decide +kernel
theorem d_R_init_172 : decode prog_9_method_1_code 172 = .ok (.newarray .int, 2) := by decide +kernel
theorem d_R_init_174 : decode prog_9_method_1_code 174 = .ok (.putfield 72, 3) := by decide +kernel
theorem d_R_init_177 : decode prog_9_method_1_code 177 = .ok (.aload_n 0, 1) := by decide +kernel
theorem d_R_init_178 : decode prog_9_method_1_code 178 = .ok (.iconst 4, 1) := by decide +kernel
theorem d_R_init_179 : decode prog_9_method_1_code 179 = .ok (.newarray .int, 2) := by decide +kernel
theorem d_R_init_181 : decode prog_9_method_1_code 181 = .ok (.putfield 75, 3) := by decide +kernel
theorem d_R_init_184 : decode prog_9_method_1_code 184 = .ok (.aload_n 0, 1) := by decide +kernel
theorem d_R_init_185 : decode prog_9_method_1_code 185 = .ok (.bipush 64, 2) := by decide +kernel
theorem d_R_init_187 : decode prog_9_method_1_code 187 = .ok (.newarray .int, 2) := by decide +kernel
theorem d_R_init_189 : decode prog_9_method_1_code 189 = .ok (.putfield 78, 3) := by decide +kernel
theorem d_R_init_192 : decode prog_9_method_1_code 192 = .ok (.aload_n 0, 1) := by decide +kernel
theorem d_R_init_193 : decode prog_9_method_1_code 193 = .ok (.bipush 8, 2) := by decide +kernel
theorem d_R_init_195 : decode prog_9_method_1_code 195 = .ok (.invokevirtual 81, 3) := by decide +kernel
theorem d_R_init_198 : decode prog_9_method_1_code 198 = .ok (.return_, 1) := by decide +kernel
def w_R_init (Φ : bs_R → bs_H → Prop) (x0 : Nat) (h : bs_H) : Prop :=
  bs_nA h 64 (bs_ia 64 fun _ => 0) (fun v1 h2 => bs_p h2 x0 7 2 (.ref v1) (fun h3 => bs_nA h3 400 (bs_ia 400 fun _ => 0) (fun v4 h5 => bs_p h5 x0 7 4 (.ref v4) (fun h6 => bs_nA h6 400 (bs_ia 400 fun _ => 0) (fun v7 h8 => bs_p h8 x0 7 5 (.ref v7) (fun h9 => bs_nA h9 400 (bs_la 400 fun _ => 0) (fun v10 h11 => bs_p h11 x0 7 6 (.ref v10) (fun h12 => bs_nA h12 8 (bs_ia 8 fun _ => 0) (fun v13 h14 => bs_p h14 x0 7 8 (.ref v13) (fun h15 => bs_nA h15 512 (bs_ia 512 fun _ => 0) (fun v16 h17 => bs_p h17 x0 7 9 (.ref v16) (fun h18 => bs_nA h18 64 (bs_la 64 fun _ => 0) (fun v19 h20 => bs_p h20 x0 7 10 (.ref v19) (fun h21 => bs_nA h21 64 (bs_la 64 fun _ => 0) (fun v22 h23 => bs_p h23 x0 7 11 (.ref v22) (fun h24 => bs_nA h24 64 (bs_la 64 fun _ => 0) (fun v25 h26 => bs_p h26 x0 7 12 (.ref v25) (fun h27 => bs_nA h27 64 (bs_za 64 fun _ => 0) (fun v28 h29 => bs_p h29 x0 7 13 (.ref v28) (fun h30 => bs_nA h30 64 (bs_la 64 fun _ => 0) (fun v31 h32 => bs_p h32 x0 7 14 (.ref v31) (fun h33 => bs_nA h33 64 (bs_ia 64 fun _ => 0) (fun v34 h35 => bs_p h35 x0 7 15 (.ref v34) (fun h36 => bs_nA h36 64 (bs_ia 64 fun _ => 0) (fun v37 h38 => bs_p h38 x0 7 16 (.ref v37) (fun h39 => bs_nA h39 64 (bs_ia 64 fun _ => 0) (fun v40 h41 => bs_p h41 x0 7 17 (.ref v40) (fun h42 => bs_nA h42 64 (bs_ia 64 fun _ => 0) (fun v43 h44 => bs_p h44 x0 7 18 (.ref v43) (fun h45 => bs_nA h45 7 (bs_la 7 fun _ => 0) (fun v46 h47 => bs_p h47 x0 7 19 (.ref v46) (fun h48 => bs_nA h48 7 (bs_la 7 fun _ => 0) (fun v49 h50 => bs_p h50 x0 7 20 (.ref v49) (fun h51 => bs_nA h51 64 (bs_ia 64 fun _ => 0) (fun v52 h53 => bs_p h53 x0 7 21 (.ref v52) (fun h54 => bs_nA h54 64 (bs_la 64 fun _ => 0) (fun v55 h56 => bs_p h56 x0 7 22 (.ref v55) (fun h57 => bs_nA h57 64 (bs_la 64 fun _ => 0) (fun v58 h59 => bs_p h59 x0 7 23 (.ref v58) (fun h60 => bs_nA h60 256 (bs_ia 256 fun _ => 0) (fun v61 h62 => bs_p h62 x0 7 24 (.ref v61) (fun h63 => bs_nA h63 4 (bs_ia 4 fun _ => 0) (fun v64 h65 => bs_p h65 x0 7 25 (.ref v64) (fun h66 => bs_nA h66 64 (bs_ia 64 fun _ => 0) (fun v67 h68 => bs_p h68 x0 7 26 (.ref v67) (fun h69 => bs_on h69 x0 7 (w_R_begin (bs_kV Φ fun h70 => (Φ (.ok none) h70)) x0 8 h69)))))))))))))))))))))))))))))))))))))))))))))))
theorem m_R_init {l : Launch} {R : Room} (hR : bs_rm 2 R) {Φ : bs_R → bs_H → Prop} {x0 : Nat} {h : bs_H} (hw : w_R_init Φ x0 h) : bs_J l K_R_init R Φ 0 [(0, .ref x0)] [] h := by
  unfold w_R_init at hw
  refine bj_aload_n (pc := 0) 0 d_R_init_0 rfl rfl ?_
  refine bj_objInit (pc := 1) d_R_init_1 q_743 q_70 q_71 hR (Nat.le_of_ble_eq_true rfl) ?_
  refine bj_aload_n (pc := 4) 0 d_R_init_4 rfl rfl ?_
  refine bj_bipush (pc := 5) (v := 64) d_R_init_5 (by decide) ?_
  obtain ⟨v1, ha, h1, h2, hw⟩ := hw
  refine bj_newi (pc := 7) (N := 64) d_R_init_7 q_85 (by decide) (by decide) (by decide) ha h1 h2 ?_
  obtain ⟨fs, hx, hlen, hw⟩ := hw
  refine bj_put (pc := 9) (ci := 7) (k := 2) (fs := fs) (v := (.ref v1)) (ty := (.array .int)) d_R_init_9 rfl (by decide) q_750 rfl (by decide +kernel) rfl rfl hx hlen ?_
  refine bj_aload_n (pc := 12) 0 d_R_init_12 rfl rfl ?_
  refine bj_sipush (pc := 13) (v := 400) d_R_init_13 (by decide) ?_
  obtain ⟨v4, ha, h1, h2, hw⟩ := hw
  refine bj_newi (pc := 16) (N := 400) d_R_init_16 q_85 (by decide) (by decide) (by decide) ha h1 h2 ?_
  obtain ⟨fs, hx, hlen, hw⟩ := hw
  refine bj_put (pc := 18) (ci := 7) (k := 4) (fs := fs) (v := (.ref v4)) (ty := (.array .int)) d_R_init_18 rfl (by decide) q_752 rfl (by decide +kernel) rfl rfl hx hlen ?_
  refine bj_aload_n (pc := 21) 0 d_R_init_21 rfl rfl ?_
  refine bj_sipush (pc := 22) (v := 400) d_R_init_22 (by decide) ?_
  obtain ⟨v7, ha, h1, h2, hw⟩ := hw
  refine bj_newi (pc := 25) (N := 400) d_R_init_25 q_85 (by decide) (by decide) (by decide) ha h1 h2 ?_
  obtain ⟨fs, hx, hlen, hw⟩ := hw
  refine bj_put (pc := 27) (ci := 7) (k := 5) (fs := fs) (v := (.ref v7)) (ty := (.array .int)) d_R_init_27 rfl (by decide) q_753 rfl (by decide +kernel) rfl rfl hx hlen ?_
  refine bj_aload_n (pc := 30) 0 d_R_init_30 rfl rfl ?_
  refine bj_sipush (pc := 31) (v := 400) d_R_init_31 (by decide) ?_
  obtain ⟨v10, ha, h1, h2, hw⟩ := hw
  refine bj_newl (pc := 34) (N := 400) d_R_init_34 q_106 (by decide) (by decide) (by decide) ha h1 h2 ?_
  obtain ⟨fs, hx, hlen, hw⟩ := hw
  refine bj_put (pc := 36) (ci := 7) (k := 6) (fs := fs) (v := (.ref v10)) (ty := (.array .long)) d_R_init_36 rfl (by decide) q_754 rfl (by decide +kernel) rfl rfl hx hlen ?_
  refine bj_aload_n (pc := 39) 0 d_R_init_39 rfl rfl ?_
  refine bj_bipush (pc := 40) (v := 8) d_R_init_40 (by decide) ?_
  obtain ⟨v13, ha, h1, h2, hw⟩ := hw
  refine bj_newi (pc := 42) (N := 8) d_R_init_42 q_85 (by decide) (by decide) (by decide) ha h1 h2 ?_
  obtain ⟨fs, hx, hlen, hw⟩ := hw
  refine bj_put (pc := 44) (ci := 7) (k := 8) (fs := fs) (v := (.ref v13)) (ty := (.array .int)) d_R_init_44 rfl (by decide) q_756 rfl (by decide +kernel) rfl rfl hx hlen ?_
  refine bj_aload_n (pc := 47) 0 d_R_init_47 rfl rfl ?_
  refine bj_sipush (pc := 48) (v := 512) d_R_init_48 (by decide) ?_
  obtain ⟨v16, ha, h1, h2, hw⟩ := hw
  refine bj_newi (pc := 51) (N := 512) d_R_init_51 q_85 (by decide) (by decide) (by decide) ha h1 h2 ?_
  obtain ⟨fs, hx, hlen, hw⟩ := hw
  refine bj_put (pc := 53) (ci := 7) (k := 9) (fs := fs) (v := (.ref v16)) (ty := (.array .int)) d_R_init_53 rfl (by decide) q_757 rfl (by decide +kernel) rfl rfl hx hlen ?_
  refine bj_aload_n (pc := 56) 0 d_R_init_56 rfl rfl ?_
  refine bj_bipush (pc := 57) (v := 64) d_R_init_57 (by decide) ?_
  obtain ⟨v19, ha, h1, h2, hw⟩ := hw
  refine bj_newl (pc := 59) (N := 64) d_R_init_59 q_106 (by decide) (by decide) (by decide) ha h1 h2 ?_
  obtain ⟨fs, hx, hlen, hw⟩ := hw
  refine bj_put (pc := 61) (ci := 7) (k := 10) (fs := fs) (v := (.ref v19)) (ty := (.array .long)) d_R_init_61 rfl (by decide) q_758 rfl (by decide +kernel) rfl rfl hx hlen ?_
  refine bj_aload_n (pc := 64) 0 d_R_init_64 rfl rfl ?_
  refine bj_bipush (pc := 65) (v := 64) d_R_init_65 (by decide) ?_
  obtain ⟨v22, ha, h1, h2, hw⟩ := hw
  refine bj_newl (pc := 67) (N := 64) d_R_init_67 q_106 (by decide) (by decide) (by decide) ha h1 h2 ?_
  obtain ⟨fs, hx, hlen, hw⟩ := hw
  refine bj_put (pc := 69) (ci := 7) (k := 11) (fs := fs) (v := (.ref v22)) (ty := (.array .long)) d_R_init_69 rfl (by decide) q_759 rfl (by decide +kernel) rfl rfl hx hlen ?_
  refine bj_aload_n (pc := 72) 0 d_R_init_72 rfl rfl ?_
  refine bj_bipush (pc := 73) (v := 64) d_R_init_73 (by decide) ?_
  obtain ⟨v25, ha, h1, h2, hw⟩ := hw
  refine bj_newl (pc := 75) (N := 64) d_R_init_75 q_106 (by decide) (by decide) (by decide) ha h1 h2 ?_
  obtain ⟨fs, hx, hlen, hw⟩ := hw
  refine bj_put (pc := 77) (ci := 7) (k := 12) (fs := fs) (v := (.ref v25)) (ty := (.array .long)) d_R_init_77 rfl (by decide) q_760 rfl (by decide +kernel) rfl rfl hx hlen ?_
  refine bj_aload_n (pc := 80) 0 d_R_init_80 rfl rfl ?_
  refine bj_bipush (pc := 81) (v := 64) d_R_init_81 (by decide) ?_
  obtain ⟨v28, ha, h1, h2, hw⟩ := hw
  refine bj_newz (pc := 83) (N := 64) d_R_init_83 q_830 (by decide) (by decide) (by decide) ha h1 h2 ?_
  obtain ⟨fs, hx, hlen, hw⟩ := hw
  refine bj_put (pc := 85) (ci := 7) (k := 13) (fs := fs) (v := (.ref v28)) (ty := (.array .boolean)) d_R_init_85 rfl (by decide) q_761 rfl (by decide +kernel) rfl rfl hx hlen ?_
  refine bj_aload_n (pc := 88) 0 d_R_init_88 rfl rfl ?_
  refine bj_bipush (pc := 89) (v := 64) d_R_init_89 (by decide) ?_
  obtain ⟨v31, ha, h1, h2, hw⟩ := hw
  refine bj_newl (pc := 91) (N := 64) d_R_init_91 q_106 (by decide) (by decide) (by decide) ha h1 h2 ?_
  obtain ⟨fs, hx, hlen, hw⟩ := hw
  refine bj_put (pc := 93) (ci := 7) (k := 14) (fs := fs) (v := (.ref v31)) (ty := (.array .long)) d_R_init_93 rfl (by decide) q_762 rfl (by decide +kernel) rfl rfl hx hlen ?_
  refine bj_aload_n (pc := 96) 0 d_R_init_96 rfl rfl ?_
  refine bj_bipush (pc := 97) (v := 64) d_R_init_97 (by decide) ?_
  obtain ⟨v34, ha, h1, h2, hw⟩ := hw
  refine bj_newi (pc := 99) (N := 64) d_R_init_99 q_85 (by decide) (by decide) (by decide) ha h1 h2 ?_
  obtain ⟨fs, hx, hlen, hw⟩ := hw
  refine bj_put (pc := 101) (ci := 7) (k := 15) (fs := fs) (v := (.ref v34)) (ty := (.array .int)) d_R_init_101 rfl (by decide) q_763 rfl (by decide +kernel) rfl rfl hx hlen ?_
  refine bj_aload_n (pc := 104) 0 d_R_init_104 rfl rfl ?_
  refine bj_bipush (pc := 105) (v := 64) d_R_init_105 (by decide) ?_
  obtain ⟨v37, ha, h1, h2, hw⟩ := hw
  refine bj_newi (pc := 107) (N := 64) d_R_init_107 q_85 (by decide) (by decide) (by decide) ha h1 h2 ?_
  obtain ⟨fs, hx, hlen, hw⟩ := hw
  refine bj_put (pc := 109) (ci := 7) (k := 16) (fs := fs) (v := (.ref v37)) (ty := (.array .int)) d_R_init_109 rfl (by decide) q_764 rfl (by decide +kernel) rfl rfl hx hlen ?_
  refine bj_aload_n (pc := 112) 0 d_R_init_112 rfl rfl ?_
  refine bj_bipush (pc := 113) (v := 64) d_R_init_113 (by decide) ?_
  obtain ⟨v40, ha, h1, h2, hw⟩ := hw
  refine bj_newi (pc := 115) (N := 64) d_R_init_115 q_85 (by decide) (by decide) (by decide) ha h1 h2 ?_
  obtain ⟨fs, hx, hlen, hw⟩ := hw
  refine bj_put (pc := 117) (ci := 7) (k := 17) (fs := fs) (v := (.ref v40)) (ty := (.array .int)) d_R_init_117 rfl (by decide) q_765 rfl (by decide +kernel) rfl rfl hx hlen ?_
  refine bj_aload_n (pc := 120) 0 d_R_init_120 rfl rfl ?_
  refine bj_bipush (pc := 121) (v := 64) d_R_init_121 (by decide) ?_
  obtain ⟨v43, ha, h1, h2, hw⟩ := hw
  refine bj_newi (pc := 123) (N := 64) d_R_init_123 q_85 (by decide) (by decide) (by decide) ha h1 h2 ?_
  obtain ⟨fs, hx, hlen, hw⟩ := hw
  refine bj_put (pc := 125) (ci := 7) (k := 18) (fs := fs) (v := (.ref v43)) (ty := (.array .int)) d_R_init_125 rfl (by decide) q_766 rfl (by decide +kernel) rfl rfl hx hlen ?_
  refine bj_aload_n (pc := 128) 0 d_R_init_128 rfl rfl ?_
  refine bj_bipush (pc := 129) (v := 7) d_R_init_129 (by decide) ?_
  obtain ⟨v46, ha, h1, h2, hw⟩ := hw
  refine bj_newl (pc := 131) (N := 7) d_R_init_131 q_106 (by decide) (by decide) (by decide) ha h1 h2 ?_
  obtain ⟨fs, hx, hlen, hw⟩ := hw
  refine bj_put (pc := 133) (ci := 7) (k := 19) (fs := fs) (v := (.ref v46)) (ty := (.array .long)) d_R_init_133 rfl (by decide) q_767 rfl (by decide +kernel) rfl rfl hx hlen ?_
  refine bj_aload_n (pc := 136) 0 d_R_init_136 rfl rfl ?_
  refine bj_bipush (pc := 137) (v := 7) d_R_init_137 (by decide) ?_
  obtain ⟨v49, ha, h1, h2, hw⟩ := hw
  refine bj_newl (pc := 139) (N := 7) d_R_init_139 q_106 (by decide) (by decide) (by decide) ha h1 h2 ?_
  obtain ⟨fs, hx, hlen, hw⟩ := hw
  refine bj_put (pc := 141) (ci := 7) (k := 20) (fs := fs) (v := (.ref v49)) (ty := (.array .long)) d_R_init_141 rfl (by decide) q_768 rfl (by decide +kernel) rfl rfl hx hlen ?_
  refine bj_aload_n (pc := 144) 0 d_R_init_144 rfl rfl ?_
  refine bj_bipush (pc := 145) (v := 64) d_R_init_145 (by decide) ?_
  obtain ⟨v52, ha, h1, h2, hw⟩ := hw
  refine bj_newi (pc := 147) (N := 64) d_R_init_147 q_85 (by decide) (by decide) (by decide) ha h1 h2 ?_
  obtain ⟨fs, hx, hlen, hw⟩ := hw
  refine bj_put (pc := 149) (ci := 7) (k := 21) (fs := fs) (v := (.ref v52)) (ty := (.array .int)) d_R_init_149 rfl (by decide) q_769 rfl (by decide +kernel) rfl rfl hx hlen ?_
  refine bj_aload_n (pc := 152) 0 d_R_init_152 rfl rfl ?_
  refine bj_bipush (pc := 153) (v := 64) d_R_init_153 (by decide) ?_
  obtain ⟨v55, ha, h1, h2, hw⟩ := hw
  refine bj_newl (pc := 155) (N := 64) d_R_init_155 q_106 (by decide) (by decide) (by decide) ha h1 h2 ?_
  obtain ⟨fs, hx, hlen, hw⟩ := hw
  refine bj_put (pc := 157) (ci := 7) (k := 22) (fs := fs) (v := (.ref v55)) (ty := (.array .long)) d_R_init_157 rfl (by decide) q_770 rfl (by decide +kernel) rfl rfl hx hlen ?_
  refine bj_aload_n (pc := 160) 0 d_R_init_160 rfl rfl ?_
  refine bj_bipush (pc := 161) (v := 64) d_R_init_161 (by decide) ?_
  obtain ⟨v58, ha, h1, h2, hw⟩ := hw
  refine bj_newl (pc := 163) (N := 64) d_R_init_163 q_106 (by decide) (by decide) (by decide) ha h1 h2 ?_
  obtain ⟨fs, hx, hlen, hw⟩ := hw
  refine bj_put (pc := 165) (ci := 7) (k := 23) (fs := fs) (v := (.ref v58)) (ty := (.array .long)) d_R_init_165 rfl (by decide) q_771 rfl (by decide +kernel) rfl rfl hx hlen ?_
  refine bj_aload_n (pc := 168) 0 d_R_init_168 rfl rfl ?_
  refine bj_sipush (pc := 169) (v := 256) d_R_init_169 (by decide) ?_
  obtain ⟨v61, ha, h1, h2, hw⟩ := hw
  refine bj_newi (pc := 172) (N := 256) d_R_init_172 q_85 (by decide) (by decide) (by decide) ha h1 h2 ?_
  obtain ⟨fs, hx, hlen, hw⟩ := hw
  refine bj_put (pc := 174) (ci := 7) (k := 24) (fs := fs) (v := (.ref v61)) (ty := (.array .int)) d_R_init_174 rfl (by decide) q_772 rfl (by decide +kernel) rfl rfl hx hlen ?_
  refine bj_aload_n (pc := 177) 0 d_R_init_177 rfl rfl ?_
  refine bj_iconst (pc := 178) (v := 4) d_R_init_178 (by decide) ?_
  obtain ⟨v64, ha, h1, h2, hw⟩ := hw
  refine bj_newi (pc := 179) (N := 4) d_R_init_179 q_85 (by decide) (by decide) (by decide) ha h1 h2 ?_
  obtain ⟨fs, hx, hlen, hw⟩ := hw
  refine bj_put (pc := 181) (ci := 7) (k := 25) (fs := fs) (v := (.ref v64)) (ty := (.array .int)) d_R_init_181 rfl (by decide) q_773 rfl (by decide +kernel) rfl rfl hx hlen ?_
  refine bj_aload_n (pc := 184) 0 d_R_init_184 rfl rfl ?_
  refine bj_bipush (pc := 185) (v := 64) d_R_init_185 (by decide) ?_
  obtain ⟨v67, ha, h1, h2, hw⟩ := hw
  refine bj_newi (pc := 187) (N := 64) d_R_init_187 q_85 (by decide) (by decide) (by decide) ha h1 h2 ?_
  obtain ⟨fs, hx, hlen, hw⟩ := hw
  refine bj_put (pc := 189) (ci := 7) (k := 26) (fs := fs) (v := (.ref v67)) (ty := (.array .int)) d_R_init_189 rfl (by decide) q_774 rfl (by decide +kernel) rfl rfl hx hlen ?_
  refine bj_aload_n (pc := 192) 0 d_R_init_192 rfl rfl ?_
  refine bj_bipush (pc := 193) (v := 8) d_R_init_193 (by decide) ?_
  obtain ⟨⟨fs, hx⟩, hw⟩ := hw
  refine bj_callV (pc := 195) (np := 1) (K' := K_R_begin) (argsL := [.int 8]) (st := []) (d1 := 1) (ci := 7) (fs := fs) rfl d_R_init_195 (Or.inl q_744) q_746 rfl q_23 c_R_begin n_R_begin hR (by decide) (by decide) rfl (Nat.le_of_ble_eq_true rfl) rfl (Nat.le_of_ble_eq_true rfl) hx (fun R' hR' => m_R_begin hR' hw) (bs_kV_ok fun h70 hw => ?_) (fun _ _ z => z)
  exact bj_vret (pc := 198) d_R_init_198 rfl hw
theorem d_P_clear_0 : decode prog_4_method_6_code 0 = .ok (.aload_n 0, 1) := by decide +kernel
theorem d_P_clear_1 : decode prog_4_method_6_code 1 = .ok (.iconst 0, 1) := by decide +kernel
theorem d_P_clear_2 : decode prog_4_method_6_code 2 = .ok (.putfield 22, 3) := by decide +kernel
theorem d_P_clear_5 : decode prog_4_method_6_code 5 = .ok (.return_, 1) := by decide +kernel
def w_P_clear (Φ : bs_R → bs_H → Prop) (x0 : Nat) (h : bs_H) : Prop :=
  bs_p h x0 2 3 (.int 0) (fun h1 => Φ (.ok none) h1)
theorem m_P_clear {l : Launch} {R : Room} (hR : bs_rm 1 R) {Φ : bs_R → bs_H → Prop} {x0 : Nat} {h : bs_H} (hw : w_P_clear Φ x0 h) : bs_J l K_P_clear R Φ 0 [(0, .ref x0)] [] h := by
  unfold w_P_clear at hw
  refine bj_aload_n (pc := 0) 0 d_P_clear_0 rfl rfl ?_
  refine bj_iconst (pc := 1) (v := 0) d_P_clear_1 (by decide) ?_
  obtain ⟨fs, hx, hlen, hw⟩ := hw
  refine bj_put (pc := 2) (ci := 2) (k := 3) (fs := fs) (v := (.int 0)) (ty := .int) d_P_clear_2 rfl (by decide) q_96 rfl (by decide +kernel) rfl rfl hx hlen ?_
  exact bj_vret (pc := 5) d_P_clear_5 rfl hw
theorem d_B_width_0 : decode prog_1_method_2_code 0 = .ok (.iload_n 1, 1) := by decide +kernel
theorem d_B_width_1 : decode prog_1_method_2_code 1 = .ok (.iconst 1, 1) := by decide +kernel
theorem d_B_width_2 : decode prog_1_method_2_code 2 = .ok (.if_icmp .lt 9, 3) := by decide +kernel
theorem d_B_width_5 : decode prog_1_method_2_code 5 = .ok (.iload_n 1, 1) := by decide +kernel
theorem d_B_width_6 : decode prog_1_method_2_code 6 = .ok (.bipush 64, 2) := by decide +kernel
theorem d_B_width_8 : decode prog_1_method_2_code 8 = .ok (.if_icmp .le 11, 3) := by decide +kernel
theorem d_B_width_11 : decode prog_1_method_2_code 11 = .ok (.new 66, 3) := by decide +kernel
theorem d_B_width_14 : decode prog_1_method_2_code 14 = .ok (.dup, 1) := by decide +kernel
theorem d_B_width_15 : decode prog_1_method_2_code 15 = .ok (.invokespecial 68, 3) := by decide +kernel
theorem d_B_width_18 : decode prog_1_method_2_code 18 = .ok (.athrow, 1) := by decide +kernel
theorem d_B_width_19 : decode prog_1_method_2_code 19 = .ok (.aload_n 0, 1) := by decide +kernel
theorem d_B_width_20 : decode prog_1_method_2_code 20 = .ok (.getfield 12, 3) := by decide +kernel
theorem d_B_width_23 : decode prog_1_method_2_code 23 = .ok (.iload_n 1, 1) := by decide +kernel
theorem d_B_width_24 : decode prog_1_method_2_code 24 = .ok (.invokevirtual 62, 3) := by decide +kernel
theorem d_B_width_27 : decode prog_1_method_2_code 27 = .ok (.aload_n 0, 1) := by decide +kernel
theorem d_B_width_28 : decode prog_1_method_2_code 28 = .ok (.getfield 30, 3) := by decide +kernel
theorem d_B_width_31 : decode prog_1_method_2_code 31 = .ok (.invokevirtual 69, 3) := by decide +kernel
theorem d_B_width_34 : decode prog_1_method_2_code 34 = .ok (.return_, 1) := by decide +kernel
def w_B_width_11 (Φ : bs_R → bs_H → Prop) (h : bs_H) : Prop :=
  bs_th h Φ "java/lang/IllegalArgumentException"
def w_B_width (Φ : bs_R → bs_H → Prop) (x0 : Nat) (x1 : Int32) (h : bs_H) : Prop :=
  bs_if (x1 < 1) (w_B_width_11 Φ h) (bs_if (x1 ≤ 64) (bs_fA h x0 0 0 (fun v1 => bs_on h v1 1 (w_M_becomeIdentity (bs_kV Φ fun h2 => (bs_fA h2 x0 0 4 (fun v3 => bs_on h2 v3 2 (w_P_clear (bs_kV Φ fun h4 => (Φ (.ok none) h4)) v3 h2)))) v1 x1 h))) (w_B_width_11 Φ h))
theorem m_B_width_11 {l : Launch} {R : Room} {Φ : bs_R → bs_H → Prop} (hR : bs_rm 2 R) {h : bs_H} (hw : w_B_width_11 Φ h) : bs_J l K_B_width R Φ 11 [] [] h := by
  unfold w_B_width_11 at hw
  obtain ⟨h1, h2, hw⟩ := hw
  exact bj_throw (pc := 11) (names := bs_up2) d_B_width_11 d_B_width_14 d_B_width_15 d_B_width_18 q_381 q_382 q_57 a_B_68 (by decide +kernel) (by decide +kernel) (by decide) rfl hR (Nat.le_of_ble_eq_true rfl) h1 h2 hw
theorem m_B_width {l : Launch} {R : Room} (hR : bs_rm 2 R) {Φ : bs_R → bs_H → Prop} {x0 : Nat} {x1 : Int32} {h : bs_H} (hw : w_B_width Φ x0 x1 h) : bs_J l K_B_width R Φ 0 [(0, .ref x0), (1, .int x1)] [] h := by
  unfold w_B_width at hw
  refine bj_iload_n (pc := 0) 1 d_B_width_0 rfl rfl ?_
  refine bj_iconst (pc := 1) (v := 1) d_B_width_1 (by decide) ?_
  refine bj_icmp_lt (pc := 2) (tgt := 11) d_B_width_2 (by decide) (fun hc => ?_) (fun hc => ?_)
  · replace hw := hw.1 hc
    refine bj_sub [] (lo' := []) rfl ?_
    exact m_B_width_11 hR hw
  · replace hw := hw.2 hc
    refine bj_iload_n (pc := 5) 1 d_B_width_5 rfl rfl ?_
    refine bj_bipush (pc := 6) (v := 64) d_B_width_6 (by decide) ?_
    refine bj_icmp_le (pc := 8) (tgt := 19) d_B_width_8 (by decide) (fun hc => ?_) (fun hc => ?_)
    · replace hw := hw.1 hc
      refine bj_aload_n (pc := 19) 0 d_B_width_19 rfl rfl ?_
      obtain ⟨fs, v1, hx, hv, hw⟩ := hw
      refine bj_get (pc := 20) (ci := 0) (k := 0) (fs := fs) (v := .ref v1) d_B_width_20 rfl (by decide) q_196 hx hv ?_
      refine bj_iload_n (pc := 23) 1 d_B_width_23 rfl rfl ?_
      obtain ⟨⟨fs, hx⟩, hw⟩ := hw
      refine bj_callV (pc := 24) (np := 1) (K' := K_M_becomeIdentity) (argsL := [.int x1]) (st := []) (d1 := 1) (ci := 1) (fs := fs) rfl d_B_width_24 (Or.inl q_192) q_193 rfl q_194 c_M_becomeIdentity n_M_becomeIdentity hR (by decide) (by decide) rfl (Nat.le_of_ble_eq_true rfl) rfl (Nat.le_of_ble_eq_true rfl) hx (fun R' hR' => m_M_becomeIdentity hR' hw) (bs_kV_ok fun h2 hw => ?_) (fun _ _ z => z)
      refine bj_aload_n (pc := 27) 0 d_B_width_27 rfl rfl ?_
      obtain ⟨fs, v3, hx, hv, hw⟩ := hw
      refine bj_get (pc := 28) (ci := 0) (k := 4) (fs := fs) (v := .ref v3) d_B_width_28 rfl (by decide) q_200 hx hv ?_
      obtain ⟨⟨fs, hx⟩, hw⟩ := hw
      refine bj_callV (pc := 31) (np := 0) (K' := K_P_clear) (argsL := []) (st := []) (d1 := 1) (ci := 2) (fs := fs) rfl d_B_width_31 (Or.inl q_445) q_446 rfl q_447 c_P_clear n_P_clear hR (by decide) (by decide) rfl (Nat.le_of_ble_eq_true rfl) rfl (Nat.le_of_ble_eq_true rfl) hx (fun R' hR' => m_P_clear hR' hw) (bs_kV_ok fun h4 hw => ?_) (fun _ _ z => z)
      exact bj_vret (pc := 34) d_B_width_34 rfl hw
    · replace hw := hw.2 hc
      refine bj_sub [] (lo' := []) rfl ?_
      exact m_B_width_11 hR hw
theorem d_L_width_0 : decode method_3_code 0 = .ok (.aload_n 0, 1) := by decide +kernel
theorem d_L_width_1 : decode method_3_code 1 = .ok (.iload_n 1, 1) := by decide +kernel
theorem d_L_width_2 : decode method_3_code 2 = .ok (.invokevirtual 7, 3) := by decide +kernel
theorem d_L_width_5 : decode method_3_code 5 = .ok (.goto 6, 3) := by decide +kernel
theorem d_L_width_8 : decode method_3_code 8 = .ok (.astore_n 2, 1) := by decide +kernel
theorem d_L_width_9 : decode method_3_code 9 = .ok (.iconst 1, 1) := by decide +kernel
theorem d_L_width_10 : decode method_3_code 10 = .ok (.ireturn, 1) := by decide +kernel
theorem d_L_width_11 : decode method_3_code 11 = .ok (.iconst 0, 1) := by decide +kernel
theorem d_L_width_12 : decode method_3_code 12 = .ok (.ireturn, 1) := by decide +kernel
def w_L_width_8 (Φ : bs_R → bs_H → Prop) (s0 : Nat) (h : bs_H) : Prop :=
  Φ (.ok (some (.int 1))) h
def w_L_width (Φ : bs_R → bs_H → Prop) (x0 : Nat) (x1 : Int32) (h : bs_H) : Prop :=
  bs_on h x0 0 (w_B_width (bs_kV (bs_hd fun E2 h3 => (E2 = "java/lang/IllegalArgumentException" ∧ ∀ a, w_L_width_8 Φ a h3)) fun h1 => (Φ (.ok (some (.int 0))) h1)) x0 x1 h)
theorem m_L_width_8 {l : Launch} {R : Room} {Φ : bs_R → bs_H → Prop} (hR : bs_rm 3 R) {s0 : Nat} {h : bs_H} (hw : w_L_width_8 Φ s0 h) : bs_J l K_L_width R Φ 8 [] [.ref s0] h := by
  unfold w_L_width_8 at hw
  refine bj_astore_n (pc := 8) (lo' := [(2, .ref s0)]) d_L_width_8 rfl (by decide) rfl ?_
  refine bj_iconst (pc := 9) (v := 1) d_L_width_9 (by decide) ?_
  exact bj_iret (pc := 10) d_L_width_10 rfl hw
theorem m_L_width {l : Launch} {R : Room} (hR : bs_rm 3 R) {Φ : bs_R → bs_H → Prop} {x0 : Nat} {x1 : Int32} {h : bs_H} (hw : w_L_width Φ x0 x1 h) : bs_J l K_L_width R Φ 0 [(0, .ref x0), (1, .int x1)] [] h := by
  unfold w_L_width at hw
  refine bj_aload_n (pc := 0) 0 d_L_width_0 rfl rfl ?_
  refine bj_iload_n (pc := 1) 1 d_L_width_1 rfl rfl ?_
  obtain ⟨⟨fs, hx⟩, hw⟩ := hw
  refine bj_callVC (pc := 2) (np := 1) (K' := K_B_width) (argsL := [.int x1]) (st := []) (d1 := 2) (ci := 0) (fs := fs) rfl d_L_width_2 (Or.inl q_377) q_378 rfl q_379 c_B_width n_B_width hR (by decide) (by decide) (Nat.le_of_ble_eq_true rfl) rfl (Nat.le_of_ble_eq_true rfl) hx (fun R' hR' => m_B_width hR' hw) (bs_kV_ok fun h1 hw => ?_) ?_
  · refine bj_goto (pc := 5) (tgt := 11) d_L_width_5 (by decide) ?_
    refine bj_iconst (pc := 11) (v := 0) d_L_width_11 (by decide) ?_
    exact bj_iret (pc := 12) d_L_width_12 rfl hw
  · intro E2 h3 hw
    obtain ⟨rfl, hw⟩ := hw
    refine ⟨8, bs_hand1 rfl (by decide) (by decide) q_376 q_383, fun a => ?_⟩
    replace hw := hw a
    refine bj_sub [] (lo' := []) rfl ?_
    exact m_L_width_8 hR hw
theorem d_R_width_0 : decode prog_9_method_4_code 0 = .ok (.aload_n 0, 1) := by decide +kernel
theorem d_R_width_1 : decode prog_9_method_4_code 1 = .ok (.iload_n 1, 1) := by decide +kernel
theorem d_R_width_2 : decode prog_9_method_4_code 2 = .ok (.iconst 1, 1) := by decide +kernel
theorem d_R_width_3 : decode prog_9_method_4_code 3 = .ok (.if_icmp .lt 9, 3) := by decide +kernel
theorem d_R_width_6 : decode prog_9_method_4_code 6 = .ok (.iload_n 1, 1) := by decide +kernel
theorem d_R_width_7 : decode prog_9_method_4_code 7 = .ok (.bipush 64, 2) := by decide +kernel
theorem d_R_width_9 : decode prog_9_method_4_code 9 = .ok (.if_icmp .le 7, 3) := by decide +kernel
theorem d_R_width_12 : decode prog_9_method_4_code 12 = .ok (.iconst 1, 1) := by decide +kernel
theorem d_R_width_13 : decode prog_9_method_4_code 13 = .ok (.goto 4, 3) := by decide +kernel
theorem d_R_width_16 : decode prog_9_method_4_code 16 = .ok (.iconst 0, 1) := by decide +kernel
theorem d_R_width_17 : decode prog_9_method_4_code 17 = .ok (.putfield 85, 3) := by decide +kernel
theorem d_R_width_20 : decode prog_9_method_4_code 20 = .ok (.aload_n 0, 1) := by decide +kernel
theorem d_R_width_21 : decode prog_9_method_4_code 21 = .ok (.getfield 85, 3) := by decide +kernel
theorem d_R_width_24 : decode prog_9_method_4_code 24 = .ok (.ifCond .ne 8, 3) := by decide +kernel
theorem d_R_width_27 : decode prog_9_method_4_code 27 = .ok (.aload_n 0, 1) := by decide +kernel
theorem d_R_width_28 : decode prog_9_method_4_code 28 = .ok (.iload_n 1, 1) := by decide +kernel
theorem d_R_width_29 : decode prog_9_method_4_code 29 = .ok (.invokevirtual 81, 3) := by decide +kernel
theorem d_R_width_32 : decode prog_9_method_4_code 32 = .ok (.return_, 1) := by decide +kernel
def w_R_width_32 (Φ : bs_R → bs_H → Prop) (h : bs_H) : Prop :=
  Φ (.ok none) h
def w_R_width_17 (Φ : bs_R → bs_H → Prop) (x0 : Nat) (x1 : Int32) (s0 : Nat) (s1 : Int32) (h : bs_H) : Prop :=
  bs_p h s0 7 0 (.int s1) (fun h1 => bs_fI h1 x0 7 0 (fun v2 => bs_if (v2 = 0) (bs_on h1 x0 7 (w_R_begin (bs_kV Φ fun h3 => (w_R_width_32 Φ h3)) x0 x1 h1)) (w_R_width_32 Φ h1)))
def w_R_width_12 (Φ : bs_R → bs_H → Prop) (x0 : Nat) (x1 : Int32) (s0 : Nat) (h : bs_H) : Prop :=
  w_R_width_17 Φ x0 x1 s0 1 h
def w_R_width (Φ : bs_R → bs_H → Prop) (x0 : Nat) (x1 : Int32) (h : bs_H) : Prop :=
  bs_if (x1 < 1) (w_R_width_12 Φ x0 x1 x0 h) (bs_if (x1 ≤ 64) (w_R_width_17 Φ x0 x1 x0 0 h) (w_R_width_12 Φ x0 x1 x0 h))
theorem m_R_width_32 {l : Launch} {R : Room} {Φ : bs_R → bs_H → Prop} (hR : bs_rm 2 R) {h : bs_H} (hw : w_R_width_32 Φ h) : bs_J l K_R_width R Φ 32 [] [] h := by
  unfold w_R_width_32 at hw
  exact bj_vret (pc := 32) d_R_width_32 rfl hw
theorem m_R_width_17 {l : Launch} {R : Room} {Φ : bs_R → bs_H → Prop} (hR : bs_rm 2 R) {x0 : Nat} {x1 : Int32} {s0 : Nat} {s1 : Int32} {h : bs_H} (hw : w_R_width_17 Φ x0 x1 s0 s1 h) : bs_J l K_R_width R Φ 17 [(0, .ref x0), (1, .int x1)] [.int s1, .ref s0] h := by
  unfold w_R_width_17 at hw
  obtain ⟨fs, hx, hlen, hw⟩ := hw
  refine bj_put (pc := 17) (ci := 7) (k := 0) (fs := fs) (v := (.int s1)) (ty := .int) d_R_width_17 rfl (by decide) q_748 rfl (by decide +kernel) rfl rfl hx hlen ?_
  refine bj_aload_n (pc := 20) 0 d_R_width_20 rfl rfl ?_
  obtain ⟨fs, v2, hx, hv, hw⟩ := hw
  refine bj_get (pc := 21) (ci := 7) (k := 0) (fs := fs) (v := .int v2) d_R_width_21 rfl (by decide) q_748 hx hv ?_
  refine bj_if_ne (pc := 24) (tgt := 32) d_R_width_24 (by decide) (fun hc => ?_) (fun hc => ?_)
  · replace hw := hw.2 hc
    refine bj_sub [] (lo' := []) rfl ?_
    exact m_R_width_32 hR hw
  · replace hw := hw.1 hc
    refine bj_aload_n (pc := 27) 0 d_R_width_27 rfl rfl ?_
    refine bj_iload_n (pc := 28) 1 d_R_width_28 rfl rfl ?_
    obtain ⟨⟨fs, hx⟩, hw⟩ := hw
    refine bj_callV (pc := 29) (np := 1) (K' := K_R_begin) (argsL := [.int x1]) (st := []) (d1 := 1) (ci := 7) (fs := fs) rfl d_R_width_29 (Or.inl q_744) q_746 rfl q_23 c_R_begin n_R_begin hR (by decide) (by decide) rfl (Nat.le_of_ble_eq_true rfl) rfl (Nat.le_of_ble_eq_true rfl) hx (fun R' hR' => m_R_begin hR' hw) (bs_kV_ok fun h3 hw => ?_) (fun _ _ z => z)
    refine bj_sub [] (lo' := []) rfl ?_
    exact m_R_width_32 hR hw
theorem m_R_width_12 {l : Launch} {R : Room} {Φ : bs_R → bs_H → Prop} (hR : bs_rm 2 R) {x0 : Nat} {x1 : Int32} {s0 : Nat} {h : bs_H} (hw : w_R_width_12 Φ x0 x1 s0 h) : bs_J l K_R_width R Φ 12 [(0, .ref x0), (1, .int x1)] [.ref s0] h := by
  unfold w_R_width_12 at hw
  refine bj_iconst (pc := 12) (v := 1) d_R_width_12 (by decide) ?_
  refine bj_goto (pc := 13) (tgt := 17) d_R_width_13 (by decide) ?_
  exact m_R_width_17 hR hw
theorem m_R_width {l : Launch} {R : Room} (hR : bs_rm 2 R) {Φ : bs_R → bs_H → Prop} {x0 : Nat} {x1 : Int32} {h : bs_H} (hw : w_R_width Φ x0 x1 h) : bs_J l K_R_width R Φ 0 [(0, .ref x0), (1, .int x1)] [] h := by
  unfold w_R_width at hw
  refine bj_aload_n (pc := 0) 0 d_R_width_0 rfl rfl ?_
  refine bj_iload_n (pc := 1) 1 d_R_width_1 rfl rfl ?_
  refine bj_iconst (pc := 2) (v := 1) d_R_width_2 (by decide) ?_
  refine bj_icmp_lt (pc := 3) (tgt := 12) d_R_width_3 (by decide) (fun hc => ?_) (fun hc => ?_)
  · replace hw := hw.1 hc
    exact m_R_width_12 hR hw
  · replace hw := hw.2 hc
    refine bj_iload_n (pc := 6) 1 d_R_width_6 rfl rfl ?_
    refine bj_bipush (pc := 7) (v := 64) d_R_width_7 (by decide) ?_
    refine bj_icmp_le (pc := 9) (tgt := 16) d_R_width_9 (by decide) (fun hc => ?_) (fun hc => ?_)
    · replace hw := hw.1 hc
      refine bj_iconst (pc := 16) (v := 0) d_R_width_16 (by decide) ?_
      exact m_R_width_17 hR hw
    · replace hw := hw.2 hc
      exact m_R_width_12 hR hw
theorem d_R_thrown_0 : decode prog_9_method_2_code 0 = .ok (.aload_n 0, 1) := by decide +kernel
theorem d_R_thrown_1 : decode prog_9_method_2_code 1 = .ok (.getfield 85, 3) := by decide +kernel
theorem d_R_thrown_4 : decode prog_9_method_2_code 4 = .ok (.ireturn, 1) := by decide +kernel
def w_R_thrown (Φ : bs_R → bs_H → Prop) (x0 : Nat) (h : bs_H) : Prop :=
  bs_fI h x0 7 0 (fun v1 => Φ (.ok (some (.int v1))) h)
theorem m_R_thrown {l : Launch} {R : Room} (hR : bs_rm 1 R) {Φ : bs_R → bs_H → Prop} {x0 : Nat} {h : bs_H} (hw : w_R_thrown Φ x0 h) : bs_J l K_R_thrown R Φ 0 [(0, .ref x0)] [] h := by
  unfold w_R_thrown at hw
  refine bj_aload_n (pc := 0) 0 d_R_thrown_0 rfl rfl ?_
  obtain ⟨fs, v1, hx, hv, hw⟩ := hw
  refine bj_get (pc := 1) (ci := 7) (k := 0) (fs := fs) (v := .int v1) d_R_thrown_1 rfl (by decide) q_748 hx hv ?_
  exact bj_iret (pc := 4) d_R_thrown_4 rfl hw
theorem d_M_hasBit_0 : decode prog_2_method_3_code 0 = .ok (.iload_n 1, 1) := by decide +kernel
theorem d_M_hasBit_1 : decode prog_2_method_3_code 1 = .ok (.ifCond .lt 15, 3) := by decide +kernel
theorem d_M_hasBit_4 : decode prog_2_method_3_code 4 = .ok (.iload_n 1, 1) := by decide +kernel
theorem d_M_hasBit_5 : decode prog_2_method_3_code 5 = .ok (.aload_n 0, 1) := by decide +kernel
theorem d_M_hasBit_6 : decode prog_2_method_3_code 6 = .ok (.getfield 15, 3) := by decide +kernel
theorem d_M_hasBit_9 : decode prog_2_method_3_code 9 = .ok (.if_icmp .ge 7, 3) := by decide +kernel
theorem d_M_hasBit_12 : decode prog_2_method_3_code 12 = .ok (.iconst 1, 1) := by decide +kernel
theorem d_M_hasBit_13 : decode prog_2_method_3_code 13 = .ok (.goto 4, 3) := by decide +kernel
theorem d_M_hasBit_16 : decode prog_2_method_3_code 16 = .ok (.iconst 0, 1) := by decide +kernel
theorem d_M_hasBit_17 : decode prog_2_method_3_code 17 = .ok (.ireturn, 1) := by decide +kernel
def w_M_hasBit_17 (Φ : bs_R → bs_H → Prop) (s0 : Int32) (h : bs_H) : Prop :=
  bs_rZ Φ s0 h
def w_M_hasBit_16 (Φ : bs_R → bs_H → Prop) (h : bs_H) : Prop :=
  w_M_hasBit_17 Φ 0 h
def w_M_hasBit (Φ : bs_R → bs_H → Prop) (x0 : Nat) (x1 : Int32) (h : bs_H) : Prop :=
  bs_if (x1 < 0) (w_M_hasBit_16 Φ h) (bs_fI h x0 1 1 (fun v1 => bs_if (v1 ≤ x1) (w_M_hasBit_16 Φ h) (w_M_hasBit_17 Φ 1 h)))
theorem m_M_hasBit_17 {l : Launch} {R : Room} {Φ : bs_R → bs_H → Prop} (hR : bs_rm 1 R) {s0 : Int32} {h : bs_H} (hw : w_M_hasBit_17 Φ s0 h) : bs_J l K_M_hasBit R Φ 17 [] [.int s0] h := by
  unfold w_M_hasBit_17 at hw
  exact bj_zret (pc := 17) d_M_hasBit_17 rfl hw.1 hw.2
theorem m_M_hasBit_16 {l : Launch} {R : Room} {Φ : bs_R → bs_H → Prop} (hR : bs_rm 1 R) {h : bs_H} (hw : w_M_hasBit_16 Φ h) : bs_J l K_M_hasBit R Φ 16 [] [] h := by
  unfold w_M_hasBit_16 at hw
  refine bj_iconst (pc := 16) (v := 0) d_M_hasBit_16 (by decide) ?_
  exact m_M_hasBit_17 hR hw
theorem m_M_hasBit {l : Launch} {R : Room} (hR : bs_rm 1 R) {Φ : bs_R → bs_H → Prop} {x0 : Nat} {x1 : Int32} {h : bs_H} (hw : w_M_hasBit Φ x0 x1 h) : bs_J l K_M_hasBit R Φ 0 [(0, .ref x0), (1, .int x1)] [] h := by
  unfold w_M_hasBit at hw
  refine bj_iload_n (pc := 0) 1 d_M_hasBit_0 rfl rfl ?_
  refine bj_if_lt (pc := 1) (tgt := 16) d_M_hasBit_1 (by decide) (fun hc => ?_) (fun hc => ?_)
  · replace hw := hw.1 hc
    refine bj_sub [] (lo' := []) rfl ?_
    exact m_M_hasBit_16 hR hw
  · replace hw := hw.2 hc
    refine bj_iload_n (pc := 4) 1 d_M_hasBit_4 rfl rfl ?_
    refine bj_aload_n (pc := 5) 0 d_M_hasBit_5 rfl rfl ?_
    obtain ⟨fs, v1, hx, hv, hw⟩ := hw
    refine bj_get (pc := 6) (ci := 1) (k := 1) (fs := fs) (v := .int v1) d_M_hasBit_6 rfl (by decide) q_79 hx hv ?_
    refine bj_icmp_ge (pc := 9) (tgt := 16) d_M_hasBit_9 (by decide) (fun hc => ?_) (fun hc => ?_)
    · replace hw := hw.1 hc
      refine bj_sub [] (lo' := []) rfl ?_
      exact m_M_hasBit_16 hR hw
    · replace hw := hw.2 hc
      refine bj_iconst (pc := 12) (v := 1) d_M_hasBit_12 (by decide) ?_
      refine bj_goto (pc := 13) (tgt := 17) d_M_hasBit_13 (by decide) ?_
      refine bj_sub [] (lo' := []) rfl ?_
      exact m_M_hasBit_17 hR hw
theorem d_B_requireBit_0 : decode prog_1_method_20_code 0 = .ok (.aload_n 0, 1) := by decide +kernel
theorem d_B_requireBit_1 : decode prog_1_method_20_code 1 = .ok (.getfield 12, 3) := by decide +kernel
theorem d_B_requireBit_4 : decode prog_1_method_20_code 4 = .ok (.iload_n 1, 1) := by decide +kernel
theorem d_B_requireBit_5 : decode prog_1_method_20_code 5 = .ok (.invokevirtual 178, 3) := by decide +kernel
theorem d_B_requireBit_8 : decode prog_1_method_20_code 8 = .ok (.ifCond .ne 11, 3) := by decide +kernel
theorem d_B_requireBit_11 : decode prog_1_method_20_code 11 = .ok (.new 66, 3) := by decide +kernel
theorem d_B_requireBit_14 : decode prog_1_method_20_code 14 = .ok (.dup, 1) := by decide +kernel
theorem d_B_requireBit_15 : decode prog_1_method_20_code 15 = .ok (.invokespecial 68, 3) := by decide +kernel
theorem d_B_requireBit_18 : decode prog_1_method_20_code 18 = .ok (.athrow, 1) := by decide +kernel
theorem d_B_requireBit_19 : decode prog_1_method_20_code 19 = .ok (.return_, 1) := by decide +kernel
def w_B_requireBit (Φ : bs_R → bs_H → Prop) (x0 : Nat) (x1 : Int32) (h : bs_H) : Prop :=
  bs_fA h x0 0 0 (fun v1 => bs_on h v1 1 (w_M_hasBit (bs_kI Φ fun v2 h3 => (bs_if (v2 = 0) (bs_th h3 Φ "java/lang/IllegalArgumentException") (Φ (.ok none) h3))) v1 x1 h))
theorem m_B_requireBit {l : Launch} {R : Room} (hR : bs_rm 2 R) {Φ : bs_R → bs_H → Prop} {x0 : Nat} {x1 : Int32} {h : bs_H} (hw : w_B_requireBit Φ x0 x1 h) : bs_J l K_B_requireBit R Φ 0 [(0, .ref x0), (1, .int x1)] [] h := by
  unfold w_B_requireBit at hw
  refine bj_aload_n (pc := 0) 0 d_B_requireBit_0 rfl rfl ?_
  obtain ⟨fs, v1, hx, hv, hw⟩ := hw
  refine bj_get (pc := 1) (ci := 0) (k := 0) (fs := fs) (v := .ref v1) d_B_requireBit_1 rfl (by decide) q_196 hx hv ?_
  refine bj_iload_n (pc := 4) 1 d_B_requireBit_4 rfl rfl ?_
  obtain ⟨⟨fs, hx⟩, hw⟩ := hw
  refine bj_callV (pc := 5) (np := 1) (K' := K_M_hasBit) (argsL := [.int x1]) (st := []) (d1 := 1) (ci := 1) (fs := fs) rfl d_B_requireBit_5 (Or.inl q_460) q_461 rfl q_462 c_M_hasBit n_M_hasBit hR (by decide) (by decide) rfl (Nat.le_of_ble_eq_true rfl) rfl (Nat.le_of_ble_eq_true rfl) hx (fun R' hR' => m_M_hasBit hR' hw) (bs_kI_ok fun v2 h3 hw => ?_) (fun _ _ z => z)
  refine bj_if_ne (pc := 8) (tgt := 19) d_B_requireBit_8 (by decide) (fun hc => ?_) (fun hc => ?_)
  · replace hw := hw.2 hc
    exact bj_vret (pc := 19) d_B_requireBit_19 rfl hw
  · replace hw := hw.1 hc
    obtain ⟨h1, h2, hw⟩ := hw
    exact bj_throw (pc := 11) (names := bs_up2) d_B_requireBit_11 d_B_requireBit_14 d_B_requireBit_15 d_B_requireBit_18 q_381 q_382 q_57 a_B_68 (by decide +kernel) (by decide +kernel) (by decide) rfl hR (Nat.le_of_ble_eq_true rfl) h1 h2 hw
theorem d_M_hasSource_0 : decode prog_2_method_4_code 0 = .ok (.aload_n 0, 1) := by decide +kernel
theorem d_M_hasSource_1 : decode prog_2_method_4_code 1 = .ok (.iload_n 1, 1) := by decide +kernel
theorem d_M_hasSource_2 : decode prog_2_method_4_code 2 = .ok (.invokevirtual 19, 3) := by decide +kernel
theorem d_M_hasSource_5 : decode prog_2_method_4_code 5 = .ok (.ifCond .ne 15, 3) := by decide +kernel
theorem d_M_hasSource_8 : decode prog_2_method_4_code 8 = .ok (.iload_n 1, 1) := by decide +kernel
theorem d_M_hasSource_9 : decode prog_2_method_4_code 9 = .ok (.bipush 64, 2) := by decide +kernel
theorem d_M_hasSource_11 : decode prog_2_method_4_code 11 = .ok (.if_icmp .eq 9, 3) := by decide +kernel
theorem d_M_hasSource_14 : decode prog_2_method_4_code 14 = .ok (.iload_n 1, 1) := by decide +kernel
theorem d_M_hasSource_15 : decode prog_2_method_4_code 15 = .ok (.bipush 65, 2) := by decide +kernel
theorem d_M_hasSource_17 : decode prog_2_method_4_code 17 = .ok (.if_icmp .ne 7, 3) := by decide +kernel
theorem d_M_hasSource_20 : decode prog_2_method_4_code 20 = .ok (.iconst 1, 1) := by decide +kernel
theorem d_M_hasSource_21 : decode prog_2_method_4_code 21 = .ok (.goto 4, 3) := by decide +kernel
theorem d_M_hasSource_24 : decode prog_2_method_4_code 24 = .ok (.iconst 0, 1) := by decide +kernel
theorem d_M_hasSource_25 : decode prog_2_method_4_code 25 = .ok (.ireturn, 1) := by decide +kernel
def w_M_hasSource_25 (Φ : bs_R → bs_H → Prop) (s0 : Int32) (h : bs_H) : Prop :=
  bs_rZ Φ s0 h
def w_M_hasSource_20 (Φ : bs_R → bs_H → Prop) (h : bs_H) : Prop :=
  w_M_hasSource_25 Φ 1 h
def w_M_hasSource (Φ : bs_R → bs_H → Prop) (x0 : Nat) (x1 : Int32) (h : bs_H) : Prop :=
  bs_on h x0 1 (w_M_hasBit (bs_kI Φ fun v1 h2 => (bs_if (v1 = 0) (bs_if (x1 = 64) (w_M_hasSource_20 Φ h2) (bs_if (x1 = 65) (w_M_hasSource_20 Φ h2) (w_M_hasSource_25 Φ 0 h2))) (w_M_hasSource_20 Φ h2))) x0 x1 h)
theorem m_M_hasSource_25 {l : Launch} {R : Room} {Φ : bs_R → bs_H → Prop} (hR : bs_rm 2 R) {s0 : Int32} {h : bs_H} (hw : w_M_hasSource_25 Φ s0 h) : bs_J l K_M_hasSource R Φ 25 [] [.int s0] h := by
  unfold w_M_hasSource_25 at hw
  exact bj_zret (pc := 25) d_M_hasSource_25 rfl hw.1 hw.2
theorem m_M_hasSource_20 {l : Launch} {R : Room} {Φ : bs_R → bs_H → Prop} (hR : bs_rm 2 R) {h : bs_H} (hw : w_M_hasSource_20 Φ h) : bs_J l K_M_hasSource R Φ 20 [] [] h := by
  unfold w_M_hasSource_20 at hw
  refine bj_iconst (pc := 20) (v := 1) d_M_hasSource_20 (by decide) ?_
  refine bj_goto (pc := 21) (tgt := 25) d_M_hasSource_21 (by decide) ?_
  exact m_M_hasSource_25 hR hw
theorem m_M_hasSource {l : Launch} {R : Room} (hR : bs_rm 2 R) {Φ : bs_R → bs_H → Prop} {x0 : Nat} {x1 : Int32} {h : bs_H} (hw : w_M_hasSource Φ x0 x1 h) : bs_J l K_M_hasSource R Φ 0 [(0, .ref x0), (1, .int x1)] [] h := by
  unfold w_M_hasSource at hw
  refine bj_aload_n (pc := 0) 0 d_M_hasSource_0 rfl rfl ?_
  refine bj_iload_n (pc := 1) 1 d_M_hasSource_1 rfl rfl ?_
  obtain ⟨⟨fs, hx⟩, hw⟩ := hw
  refine bj_callV (pc := 2) (np := 1) (K' := K_M_hasBit) (argsL := [.int x1]) (st := []) (d1 := 1) (ci := 1) (fs := fs) rfl d_M_hasSource_2 (Or.inl q_468) q_461 rfl q_462 c_M_hasBit n_M_hasBit hR (by decide) (by decide) rfl (Nat.le_of_ble_eq_true rfl) rfl (Nat.le_of_ble_eq_true rfl) hx (fun R' hR' => m_M_hasBit hR' hw) (bs_kI_ok fun v1 h2 hw => ?_) (fun _ _ z => z)
  refine bj_if_ne (pc := 5) (tgt := 20) d_M_hasSource_5 (by decide) (fun hc => ?_) (fun hc => ?_)
  · replace hw := hw.2 hc
    refine bj_sub [] (lo' := []) rfl ?_
    exact m_M_hasSource_20 hR hw
  · replace hw := hw.1 hc
    refine bj_iload_n (pc := 8) 1 d_M_hasSource_8 rfl rfl ?_
    refine bj_bipush (pc := 9) (v := 64) d_M_hasSource_9 (by decide) ?_
    refine bj_icmp_eq (pc := 11) (tgt := 20) d_M_hasSource_11 (by decide) (fun hc => ?_) (fun hc => ?_)
    · replace hw := hw.1 hc
      refine bj_sub [] (lo' := []) rfl ?_
      exact m_M_hasSource_20 hR hw
    · replace hw := hw.2 hc
      refine bj_iload_n (pc := 14) 1 d_M_hasSource_14 rfl rfl ?_
      refine bj_bipush (pc := 15) (v := 65) d_M_hasSource_15 (by decide) ?_
      refine bj_icmp_ne (pc := 17) (tgt := 24) d_M_hasSource_17 (by decide) (fun hc => ?_) (fun hc => ?_)
      · replace hw := hw.2 hc
        refine bj_iconst (pc := 24) (v := 0) d_M_hasSource_24 (by decide) ?_
        refine bj_sub [] (lo' := []) rfl ?_
        exact m_M_hasSource_25 hR hw
      · replace hw := hw.1 hc
        refine bj_sub [] (lo' := []) rfl ?_
        exact m_M_hasSource_20 hR hw
theorem d_M_setSource_0 : decode prog_2_method_6_code 0 = .ok (.aload_n 0, 1) := by decide +kernel
theorem d_M_setSource_1 : decode prog_2_method_6_code 1 = .ok (.getfield 9, 3) := by decide +kernel
theorem d_M_setSource_4 : decode prog_2_method_6_code 4 = .ok (.iload_n 1, 1) := by decide +kernel
theorem d_M_setSource_5 : decode prog_2_method_6_code 5 = .ok (.iload_n 2, 1) := by decide +kernel
theorem d_M_setSource_6 : decode prog_2_method_6_code 6 = .ok (.iastore, 1) := by decide +kernel
theorem d_M_setSource_7 : decode prog_2_method_6_code 7 = .ok (.return_, 1) := by decide +kernel
def w_M_setSource (Φ : bs_R → bs_H → Prop) (x0 : Nat) (x1 : Int32) (x2 : Int32) (h : bs_H) : Prop :=
  bs_fA h x0 1 0 (fun v1 => bs_sI h v1 x1 x2 (fun h2 => Φ (.ok none) h2))
theorem m_M_setSource {l : Launch} {R : Room} (hR : bs_rm 1 R) {Φ : bs_R → bs_H → Prop} {x0 : Nat} {x1 : Int32} {x2 : Int32} {h : bs_H} (hw : w_M_setSource Φ x0 x1 x2 h) : bs_J l K_M_setSource R Φ 0 [(0, .ref x0), (1, .int x1), (2, .int x2)] [] h := by
  unfold w_M_setSource at hw
  refine bj_aload_n (pc := 0) 0 d_M_setSource_0 rfl rfl ?_
  obtain ⟨fs, v1, hx, hv, hw⟩ := hw
  refine bj_get (pc := 1) (ci := 1) (k := 0) (fs := fs) (v := .ref v1) d_M_setSource_1 rfl (by decide) q_78 hx hv ?_
  refine bj_iload_n (pc := 4) 1 d_M_setSource_4 rfl rfl ?_
  refine bj_iload_n (pc := 5) 2 d_M_setSource_5 rfl rfl ?_
  obtain ⟨n, f, hx, hin, hw⟩ := hw
  refine bj_iast (pc := 6) (n := n) (f := f) d_M_setSource_6 hx hin ?_
  exact bj_vret (pc := 7) d_M_setSource_7 rfl hw
theorem d_B_target_0 : decode prog_1_method_3_code 0 = .ok (.aload_n 0, 1) := by decide +kernel
theorem d_B_target_1 : decode prog_1_method_3_code 1 = .ok (.iload_n 1, 1) := by decide +kernel
theorem d_B_target_2 : decode prog_1_method_3_code 2 = .ok (.invokevirtual 72, 3) := by decide +kernel
theorem d_B_target_5 : decode prog_1_method_3_code 5 = .ok (.aload_n 0, 1) := by decide +kernel
theorem d_B_target_6 : decode prog_1_method_3_code 6 = .ok (.getfield 12, 3) := by decide +kernel
theorem d_B_target_9 : decode prog_1_method_3_code 9 = .ok (.iload_n 2, 1) := by decide +kernel
theorem d_B_target_10 : decode prog_1_method_3_code 10 = .ok (.invokevirtual 75, 3) := by decide +kernel
theorem d_B_target_13 : decode prog_1_method_3_code 13 = .ok (.ifCond .ne 11, 3) := by decide +kernel
theorem d_B_target_16 : decode prog_1_method_3_code 16 = .ok (.new 66, 3) := by decide +kernel
theorem d_B_target_19 : decode prog_1_method_3_code 19 = .ok (.dup, 1) := by decide +kernel
theorem d_B_target_20 : decode prog_1_method_3_code 20 = .ok (.invokespecial 68, 3) := by decide +kernel
theorem d_B_target_23 : decode prog_1_method_3_code 23 = .ok (.athrow, 1) := by decide +kernel
theorem d_B_target_24 : decode prog_1_method_3_code 24 = .ok (.aload_n 0, 1) := by decide +kernel
theorem d_B_target_25 : decode prog_1_method_3_code 25 = .ok (.getfield 12, 3) := by decide +kernel
theorem d_B_target_28 : decode prog_1_method_3_code 28 = .ok (.iload_n 1, 1) := by decide +kernel
theorem d_B_target_29 : decode prog_1_method_3_code 29 = .ok (.iload_n 2, 1) := by decide +kernel
theorem d_B_target_30 : decode prog_1_method_3_code 30 = .ok (.invokevirtual 79, 3) := by decide +kernel
theorem d_B_target_33 : decode prog_1_method_3_code 33 = .ok (.return_, 1) := by decide +kernel
def w_B_target (Φ : bs_R → bs_H → Prop) (x0 : Nat) (x1 : Int32) (x2 : Int32) (h : bs_H) : Prop :=
  bs_on h x0 0 (w_B_requireBit (bs_kV Φ fun h1 => (bs_fA h1 x0 0 0 (fun v2 => bs_on h1 v2 1 (w_M_hasSource (bs_kI Φ fun v3 h4 => (bs_if (v3 = 0) (bs_th h4 Φ "java/lang/IllegalArgumentException") (bs_fA h4 x0 0 0 (fun v5 => bs_on h4 v5 1 (w_M_setSource (bs_kV Φ fun h6 => (Φ (.ok none) h6)) v5 x1 x2 h4))))) v2 x2 h1)))) x0 x1 h)
theorem m_B_target {l : Launch} {R : Room} (hR : bs_rm 3 R) {Φ : bs_R → bs_H → Prop} {x0 : Nat} {x1 : Int32} {x2 : Int32} {h : bs_H} (hw : w_B_target Φ x0 x1 x2 h) : bs_J l K_B_target R Φ 0 [(0, .ref x0), (1, .int x1), (2, .int x2)] [] h := by
  unfold w_B_target at hw
  refine bj_aload_n (pc := 0) 0 d_B_target_0 rfl rfl ?_
  refine bj_iload_n (pc := 1) 1 d_B_target_1 rfl rfl ?_
  obtain ⟨⟨fs, hx⟩, hw⟩ := hw
  refine bj_callV (pc := 2) (np := 1) (K' := K_B_requireBit) (argsL := [.int x1]) (st := []) (d1 := 2) (ci := 0) (fs := fs) rfl d_B_target_2 (Or.inl q_456) q_458 rfl q_13 c_B_requireBit n_B_requireBit hR (by decide) (by decide) rfl (Nat.le_of_ble_eq_true rfl) rfl (Nat.le_of_ble_eq_true rfl) hx (fun R' hR' => m_B_requireBit hR' hw) (bs_kV_ok fun h1 hw => ?_) (fun _ _ z => z)
  refine bj_aload_n (pc := 5) 0 d_B_target_5 rfl rfl ?_
  obtain ⟨fs, v2, hx, hv, hw⟩ := hw
  refine bj_get (pc := 6) (ci := 0) (k := 0) (fs := fs) (v := .ref v2) d_B_target_6 rfl (by decide) q_196 hx hv ?_
  refine bj_iload_n (pc := 9) 2 d_B_target_9 rfl rfl ?_
  obtain ⟨⟨fs, hx⟩, hw⟩ := hw
  refine bj_callV (pc := 10) (np := 1) (K' := K_M_hasSource) (argsL := [.int x2]) (st := []) (d1 := 2) (ci := 1) (fs := fs) rfl d_B_target_10 (Or.inl q_464) q_465 rfl q_466 c_M_hasSource n_M_hasSource hR (by decide) (by decide) rfl (Nat.le_of_ble_eq_true rfl) rfl (Nat.le_of_ble_eq_true rfl) hx (fun R' hR' => m_M_hasSource hR' hw) (bs_kI_ok fun v3 h4 hw => ?_) (fun _ _ z => z)
  refine bj_if_ne (pc := 13) (tgt := 24) d_B_target_13 (by decide) (fun hc => ?_) (fun hc => ?_)
  · replace hw := hw.2 hc
    refine bj_aload_n (pc := 24) 0 d_B_target_24 rfl rfl ?_
    obtain ⟨fs, v5, hx, hv, hw⟩ := hw
    refine bj_get (pc := 25) (ci := 0) (k := 0) (fs := fs) (v := .ref v5) d_B_target_25 rfl (by decide) q_196 hx hv ?_
    refine bj_iload_n (pc := 28) 1 d_B_target_28 rfl rfl ?_
    refine bj_iload_n (pc := 29) 2 d_B_target_29 rfl rfl ?_
    obtain ⟨⟨fs, hx⟩, hw⟩ := hw
    refine bj_callV (pc := 30) (np := 2) (K' := K_M_setSource) (argsL := [.int x1, .int x2]) (st := []) (d1 := 1) (ci := 1) (fs := fs) rfl d_B_target_30 (Or.inl q_469) q_470 rfl q_471 c_M_setSource n_M_setSource hR (by decide) (by decide) rfl (Nat.le_of_ble_eq_true rfl) rfl (Nat.le_of_ble_eq_true rfl) hx (fun R' hR' => m_M_setSource hR' hw) (bs_kV_ok fun h6 hw => ?_) (fun _ _ z => z)
    exact bj_vret (pc := 33) d_B_target_33 rfl hw
  · replace hw := hw.1 hc
    obtain ⟨h1, h2, hw⟩ := hw
    exact bj_throw (pc := 16) (names := bs_up2) d_B_target_16 d_B_target_19 d_B_target_20 d_B_target_23 q_381 q_382 q_57 a_B_68 (by decide +kernel) (by decide +kernel) (by decide) rfl hR (Nat.le_of_ble_eq_true rfl) h1 h2 hw
theorem d_L_target_0 : decode method_4_code 0 = .ok (.aload_n 0, 1) := by decide +kernel
theorem d_L_target_1 : decode method_4_code 1 = .ok (.iload_n 1, 1) := by decide +kernel
theorem d_L_target_2 : decode method_4_code 2 = .ok (.iload_n 2, 1) := by decide +kernel
theorem d_L_target_3 : decode method_4_code 3 = .ok (.invokevirtual 15, 3) := by decide +kernel
theorem d_L_target_6 : decode method_4_code 6 = .ok (.goto 6, 3) := by decide +kernel
theorem d_L_target_9 : decode method_4_code 9 = .ok (.astore_n 3, 1) := by decide +kernel
theorem d_L_target_10 : decode method_4_code 10 = .ok (.iconst 1, 1) := by decide +kernel
theorem d_L_target_11 : decode method_4_code 11 = .ok (.ireturn, 1) := by decide +kernel
theorem d_L_target_12 : decode method_4_code 12 = .ok (.iconst 0, 1) := by decide +kernel
theorem d_L_target_13 : decode method_4_code 13 = .ok (.ireturn, 1) := by decide +kernel
def w_L_target_9 (Φ : bs_R → bs_H → Prop) (s0 : Nat) (h : bs_H) : Prop :=
  Φ (.ok (some (.int 1))) h
def w_L_target (Φ : bs_R → bs_H → Prop) (x0 : Nat) (x1 : Int32) (x2 : Int32) (h : bs_H) : Prop :=
  bs_on h x0 0 (w_B_target (bs_kV (bs_hd fun E2 h3 => (E2 = "java/lang/IllegalArgumentException" ∧ ∀ a, w_L_target_9 Φ a h3)) fun h1 => (Φ (.ok (some (.int 0))) h1)) x0 x1 x2 h)
theorem m_L_target_9 {l : Launch} {R : Room} {Φ : bs_R → bs_H → Prop} (hR : bs_rm 4 R) {s0 : Nat} {h : bs_H} (hw : w_L_target_9 Φ s0 h) : bs_J l K_L_target R Φ 9 [] [.ref s0] h := by
  unfold w_L_target_9 at hw
  refine bj_astore_n (pc := 9) (lo' := [(3, .ref s0)]) d_L_target_9 rfl (by decide) rfl ?_
  refine bj_iconst (pc := 10) (v := 1) d_L_target_10 (by decide) ?_
  exact bj_iret (pc := 11) d_L_target_11 rfl hw
theorem m_L_target {l : Launch} {R : Room} (hR : bs_rm 4 R) {Φ : bs_R → bs_H → Prop} {x0 : Nat} {x1 : Int32} {x2 : Int32} {h : bs_H} (hw : w_L_target Φ x0 x1 x2 h) : bs_J l K_L_target R Φ 0 [(0, .ref x0), (1, .int x1), (2, .int x2)] [] h := by
  unfold w_L_target at hw
  refine bj_aload_n (pc := 0) 0 d_L_target_0 rfl rfl ?_
  refine bj_iload_n (pc := 1) 1 d_L_target_1 rfl rfl ?_
  refine bj_iload_n (pc := 2) 2 d_L_target_2 rfl rfl ?_
  obtain ⟨⟨fs, hx⟩, hw⟩ := hw
  refine bj_callVC (pc := 3) (np := 2) (K' := K_B_target) (argsL := [.int x1, .int x2]) (st := []) (d1 := 3) (ci := 0) (fs := fs) rfl d_L_target_3 (Or.inl q_452) q_453 rfl q_454 c_B_target n_B_target hR (by decide) (by decide) (Nat.le_of_ble_eq_true rfl) rfl (Nat.le_of_ble_eq_true rfl) hx (fun R' hR' => m_B_target hR' hw) (bs_kV_ok fun h1 hw => ?_) ?_
  · refine bj_goto (pc := 6) (tgt := 12) d_L_target_6 (by decide) ?_
    refine bj_iconst (pc := 12) (v := 0) d_L_target_12 (by decide) ?_
    exact bj_iret (pc := 13) d_L_target_13 rfl hw
  · intro E2 h3 hw
    obtain ⟨rfl, hw⟩ := hw
    refine ⟨9, bs_hand1 rfl (by decide) (by decide) q_376 q_383, fun a => ?_⟩
    replace hw := hw a
    refine bj_sub [] (lo' := []) rfl ?_
    exact m_L_target_9 hR hw
theorem d_R_noBit_0 : decode prog_9_method_5_code 0 = .ok (.iload_n 1, 1) := by decide +kernel
theorem d_R_noBit_1 : decode prog_9_method_5_code 1 = .ok (.ifCond .lt 11, 3) := by decide +kernel
theorem d_R_noBit_4 : decode prog_9_method_5_code 4 = .ok (.iload_n 1, 1) := by decide +kernel
theorem d_R_noBit_5 : decode prog_9_method_5_code 5 = .ok (.aload_n 0, 1) := by decide +kernel
theorem d_R_noBit_6 : decode prog_9_method_5_code 6 = .ok (.getfield 89, 3) := by decide +kernel
theorem d_R_noBit_9 : decode prog_9_method_5_code 9 = .ok (.if_icmp .lt 7, 3) := by decide +kernel
theorem d_R_noBit_12 : decode prog_9_method_5_code 12 = .ok (.iconst 1, 1) := by decide +kernel
theorem d_R_noBit_13 : decode prog_9_method_5_code 13 = .ok (.goto 4, 3) := by decide +kernel
theorem d_R_noBit_16 : decode prog_9_method_5_code 16 = .ok (.iconst 0, 1) := by decide +kernel
theorem d_R_noBit_17 : decode prog_9_method_5_code 17 = .ok (.ireturn, 1) := by decide +kernel
def w_R_noBit_17 (Φ : bs_R → bs_H → Prop) (s0 : Int32) (h : bs_H) : Prop :=
  bs_rZ Φ s0 h
def w_R_noBit_12 (Φ : bs_R → bs_H → Prop) (h : bs_H) : Prop :=
  w_R_noBit_17 Φ 1 h
def w_R_noBit (Φ : bs_R → bs_H → Prop) (x0 : Nat) (x1 : Int32) (h : bs_H) : Prop :=
  bs_if (x1 < 0) (w_R_noBit_12 Φ h) (bs_fI h x0 7 1 (fun v1 => bs_if (x1 < v1) (w_R_noBit_17 Φ 0 h) (w_R_noBit_12 Φ h)))
theorem m_R_noBit_17 {l : Launch} {R : Room} {Φ : bs_R → bs_H → Prop} (hR : bs_rm 1 R) {s0 : Int32} {h : bs_H} (hw : w_R_noBit_17 Φ s0 h) : bs_J l K_R_noBit R Φ 17 [] [.int s0] h := by
  unfold w_R_noBit_17 at hw
  exact bj_zret (pc := 17) d_R_noBit_17 rfl hw.1 hw.2
theorem m_R_noBit_12 {l : Launch} {R : Room} {Φ : bs_R → bs_H → Prop} (hR : bs_rm 1 R) {h : bs_H} (hw : w_R_noBit_12 Φ h) : bs_J l K_R_noBit R Φ 12 [] [] h := by
  unfold w_R_noBit_12 at hw
  refine bj_iconst (pc := 12) (v := 1) d_R_noBit_12 (by decide) ?_
  refine bj_goto (pc := 13) (tgt := 17) d_R_noBit_13 (by decide) ?_
  exact m_R_noBit_17 hR hw
theorem m_R_noBit {l : Launch} {R : Room} (hR : bs_rm 1 R) {Φ : bs_R → bs_H → Prop} {x0 : Nat} {x1 : Int32} {h : bs_H} (hw : w_R_noBit Φ x0 x1 h) : bs_J l K_R_noBit R Φ 0 [(0, .ref x0), (1, .int x1)] [] h := by
  unfold w_R_noBit at hw
  refine bj_iload_n (pc := 0) 1 d_R_noBit_0 rfl rfl ?_
  refine bj_if_lt (pc := 1) (tgt := 12) d_R_noBit_1 (by decide) (fun hc => ?_) (fun hc => ?_)
  · replace hw := hw.1 hc
    refine bj_sub [] (lo' := []) rfl ?_
    exact m_R_noBit_12 hR hw
  · replace hw := hw.2 hc
    refine bj_iload_n (pc := 4) 1 d_R_noBit_4 rfl rfl ?_
    refine bj_aload_n (pc := 5) 0 d_R_noBit_5 rfl rfl ?_
    obtain ⟨fs, v1, hx, hv, hw⟩ := hw
    refine bj_get (pc := 6) (ci := 7) (k := 1) (fs := fs) (v := .int v1) d_R_noBit_6 rfl (by decide) q_749 hx hv ?_
    refine bj_icmp_lt (pc := 9) (tgt := 16) d_R_noBit_9 (by decide) (fun hc => ?_) (fun hc => ?_)
    · replace hw := hw.1 hc
      refine bj_iconst (pc := 16) (v := 0) d_R_noBit_16 (by decide) ?_
      refine bj_sub [] (lo' := []) rfl ?_
      exact m_R_noBit_17 hR hw
    · replace hw := hw.2 hc
      refine bj_sub [] (lo' := []) rfl ?_
      exact m_R_noBit_12 hR hw
theorem d_R_target_0 : decode prog_9_method_6_code 0 = .ok (.aload_n 0, 1) := by decide +kernel
theorem d_R_target_1 : decode prog_9_method_6_code 1 = .ok (.aload_n 0, 1) := by decide +kernel
theorem d_R_target_2 : decode prog_9_method_6_code 2 = .ok (.iload_n 1, 1) := by decide +kernel
theorem d_R_target_3 : decode prog_9_method_6_code 3 = .ok (.invokevirtual 95, 3) := by decide +kernel
theorem d_R_target_6 : decode prog_9_method_6_code 6 = .ok (.ifCond .ne 23, 3) := by decide +kernel
theorem d_R_target_9 : decode prog_9_method_6_code 9 = .ok (.aload_n 0, 1) := by decide +kernel
theorem d_R_target_10 : decode prog_9_method_6_code 10 = .ok (.iload_n 2, 1) := by decide +kernel
theorem d_R_target_11 : decode prog_9_method_6_code 11 = .ok (.invokevirtual 95, 3) := by decide +kernel
theorem d_R_target_14 : decode prog_9_method_6_code 14 = .ok (.ifCond .eq 19, 3) := by decide +kernel
theorem d_R_target_17 : decode prog_9_method_6_code 17 = .ok (.iload_n 2, 1) := by decide +kernel
theorem d_R_target_18 : decode prog_9_method_6_code 18 = .ok (.bipush 64, 2) := by decide +kernel
theorem d_R_target_20 : decode prog_9_method_6_code 20 = .ok (.if_icmp .eq 13, 3) := by decide +kernel
theorem d_R_target_23 : decode prog_9_method_6_code 23 = .ok (.iload_n 2, 1) := by decide +kernel
theorem d_R_target_24 : decode prog_9_method_6_code 24 = .ok (.bipush 65, 2) := by decide +kernel
theorem d_R_target_26 : decode prog_9_method_6_code 26 = .ok (.if_icmp .eq 7, 3) := by decide +kernel
theorem d_R_target_29 : decode prog_9_method_6_code 29 = .ok (.iconst 1, 1) := by decide +kernel
theorem d_R_target_30 : decode prog_9_method_6_code 30 = .ok (.goto 4, 3) := by decide +kernel
theorem d_R_target_33 : decode prog_9_method_6_code 33 = .ok (.iconst 0, 1) := by decide +kernel
theorem d_R_target_34 : decode prog_9_method_6_code 34 = .ok (.putfield 85, 3) := by decide +kernel
theorem d_R_target_37 : decode prog_9_method_6_code 37 = .ok (.aload_n 0, 1) := by decide +kernel
theorem d_R_target_38 : decode prog_9_method_6_code 38 = .ok (.getfield 85, 3) := by decide +kernel
theorem d_R_target_41 : decode prog_9_method_6_code 41 = .ok (.ifCond .ne 10, 3) := by decide +kernel
theorem d_R_target_44 : decode prog_9_method_6_code 44 = .ok (.aload_n 0, 1) := by decide +kernel
theorem d_R_target_45 : decode prog_9_method_6_code 45 = .ok (.getfield 7, 3) := by decide +kernel
theorem d_R_target_48 : decode prog_9_method_6_code 48 = .ok (.iload_n 1, 1) := by decide +kernel
theorem d_R_target_49 : decode prog_9_method_6_code 49 = .ok (.iload_n 2, 1) := by decide +kernel
theorem d_R_target_50 : decode prog_9_method_6_code 50 = .ok (.iastore, 1) := by decide +kernel
theorem d_R_target_51 : decode prog_9_method_6_code 51 = .ok (.return_, 1) := by decide +kernel
def w_R_target_51 (Φ : bs_R → bs_H → Prop) (h : bs_H) : Prop :=
  Φ (.ok none) h
def w_R_target_34 (Φ : bs_R → bs_H → Prop) (x0 : Nat) (x1 : Int32) (x2 : Int32) (s0 : Nat) (s1 : Int32) (h : bs_H) : Prop :=
  bs_p h s0 7 0 (.int s1) (fun h1 => bs_fI h1 x0 7 0 (fun v2 => bs_if (v2 = 0) (bs_fA h1 x0 7 2 (fun v3 => bs_sI h1 v3 x1 x2 (fun h4 => w_R_target_51 Φ h4))) (w_R_target_51 Φ h1)))
def w_R_target_33 (Φ : bs_R → bs_H → Prop) (x0 : Nat) (x1 : Int32) (x2 : Int32) (s0 : Nat) (h : bs_H) : Prop :=
  w_R_target_34 Φ x0 x1 x2 s0 0 h
def w_R_target_29 (Φ : bs_R → bs_H → Prop) (x0 : Nat) (x1 : Int32) (x2 : Int32) (s0 : Nat) (h : bs_H) : Prop :=
  w_R_target_34 Φ x0 x1 x2 s0 1 h
def w_R_target (Φ : bs_R → bs_H → Prop) (x0 : Nat) (x1 : Int32) (x2 : Int32) (h : bs_H) : Prop :=
  bs_on h x0 7 (w_R_noBit (bs_kI Φ fun v1 h2 => (bs_if (v1 = 0) (bs_on h2 x0 7 (w_R_noBit (bs_kI Φ fun v3 h4 => (bs_if (v3 = 0) (w_R_target_33 Φ x0 x1 x2 x0 h4) (bs_if (x2 = 64) (w_R_target_33 Φ x0 x1 x2 x0 h4) (bs_if (x2 = 65) (w_R_target_33 Φ x0 x1 x2 x0 h4) (w_R_target_29 Φ x0 x1 x2 x0 h4))))) x0 x2 h2)) (w_R_target_29 Φ x0 x1 x2 x0 h2))) x0 x1 h)
theorem m_R_target_51 {l : Launch} {R : Room} {Φ : bs_R → bs_H → Prop} (hR : bs_rm 2 R) {h : bs_H} (hw : w_R_target_51 Φ h) : bs_J l K_R_target R Φ 51 [] [] h := by
  unfold w_R_target_51 at hw
  exact bj_vret (pc := 51) d_R_target_51 rfl hw
theorem m_R_target_34 {l : Launch} {R : Room} {Φ : bs_R → bs_H → Prop} (hR : bs_rm 2 R) {x0 : Nat} {x1 : Int32} {x2 : Int32} {s0 : Nat} {s1 : Int32} {h : bs_H} (hw : w_R_target_34 Φ x0 x1 x2 s0 s1 h) : bs_J l K_R_target R Φ 34 [(0, .ref x0), (1, .int x1), (2, .int x2)] [.int s1, .ref s0] h := by
  unfold w_R_target_34 at hw
  obtain ⟨fs, hx, hlen, hw⟩ := hw
  refine bj_put (pc := 34) (ci := 7) (k := 0) (fs := fs) (v := (.int s1)) (ty := .int) d_R_target_34 rfl (by decide) q_748 rfl (by decide +kernel) rfl rfl hx hlen ?_
  refine bj_aload_n (pc := 37) 0 d_R_target_37 rfl rfl ?_
  obtain ⟨fs, v2, hx, hv, hw⟩ := hw
  refine bj_get (pc := 38) (ci := 7) (k := 0) (fs := fs) (v := .int v2) d_R_target_38 rfl (by decide) q_748 hx hv ?_
  refine bj_if_ne (pc := 41) (tgt := 51) d_R_target_41 (by decide) (fun hc => ?_) (fun hc => ?_)
  · replace hw := hw.2 hc
    refine bj_sub [] (lo' := []) rfl ?_
    exact m_R_target_51 hR hw
  · replace hw := hw.1 hc
    refine bj_aload_n (pc := 44) 0 d_R_target_44 rfl rfl ?_
    obtain ⟨fs, v3, hx, hv, hw⟩ := hw
    refine bj_get (pc := 45) (ci := 7) (k := 2) (fs := fs) (v := .ref v3) d_R_target_45 rfl (by decide) q_750 hx hv ?_
    refine bj_iload_n (pc := 48) 1 d_R_target_48 rfl rfl ?_
    refine bj_iload_n (pc := 49) 2 d_R_target_49 rfl rfl ?_
    obtain ⟨n, f, hx, hin, hw⟩ := hw
    refine bj_iast (pc := 50) (n := n) (f := f) d_R_target_50 hx hin ?_
    refine bj_sub [] (lo' := []) rfl ?_
    exact m_R_target_51 hR hw
theorem m_R_target_33 {l : Launch} {R : Room} {Φ : bs_R → bs_H → Prop} (hR : bs_rm 2 R) {x0 : Nat} {x1 : Int32} {x2 : Int32} {s0 : Nat} {h : bs_H} (hw : w_R_target_33 Φ x0 x1 x2 s0 h) : bs_J l K_R_target R Φ 33 [(0, .ref x0), (1, .int x1), (2, .int x2)] [.ref s0] h := by
  unfold w_R_target_33 at hw
  refine bj_iconst (pc := 33) (v := 0) d_R_target_33 (by decide) ?_
  exact m_R_target_34 hR hw
theorem m_R_target_29 {l : Launch} {R : Room} {Φ : bs_R → bs_H → Prop} (hR : bs_rm 2 R) {x0 : Nat} {x1 : Int32} {x2 : Int32} {s0 : Nat} {h : bs_H} (hw : w_R_target_29 Φ x0 x1 x2 s0 h) : bs_J l K_R_target R Φ 29 [(0, .ref x0), (1, .int x1), (2, .int x2)] [.ref s0] h := by
  unfold w_R_target_29 at hw
  refine bj_iconst (pc := 29) (v := 1) d_R_target_29 (by decide) ?_
  refine bj_goto (pc := 30) (tgt := 34) d_R_target_30 (by decide) ?_
  exact m_R_target_34 hR hw
theorem m_R_target {l : Launch} {R : Room} (hR : bs_rm 2 R) {Φ : bs_R → bs_H → Prop} {x0 : Nat} {x1 : Int32} {x2 : Int32} {h : bs_H} (hw : w_R_target Φ x0 x1 x2 h) : bs_J l K_R_target R Φ 0 [(0, .ref x0), (1, .int x1), (2, .int x2)] [] h := by
  unfold w_R_target at hw
  refine bj_aload_n (pc := 0) 0 d_R_target_0 rfl rfl ?_
  refine bj_aload_n (pc := 1) 0 d_R_target_1 rfl rfl ?_
  refine bj_iload_n (pc := 2) 1 d_R_target_2 rfl rfl ?_
  obtain ⟨⟨fs, hx⟩, hw⟩ := hw
  refine bj_callV (pc := 3) (np := 1) (K' := K_R_noBit) (argsL := [.int x1]) (st := [.ref x0]) (d1 := 1) (ci := 7) (fs := fs) rfl d_R_target_3 (Or.inl q_843) q_845 rfl q_24 c_R_noBit n_R_noBit hR (by decide) (by decide) rfl (Nat.le_of_ble_eq_true rfl) rfl (Nat.le_of_ble_eq_true rfl) hx (fun R' hR' => m_R_noBit hR' hw) (bs_kI_ok fun v1 h2 hw => ?_) (fun _ _ z => z)
  refine bj_if_ne (pc := 6) (tgt := 29) d_R_target_6 (by decide) (fun hc => ?_) (fun hc => ?_)
  · replace hw := hw.2 hc
    exact m_R_target_29 hR hw
  · replace hw := hw.1 hc
    refine bj_aload_n (pc := 9) 0 d_R_target_9 rfl rfl ?_
    refine bj_iload_n (pc := 10) 2 d_R_target_10 rfl rfl ?_
    obtain ⟨⟨fs, hx⟩, hw⟩ := hw
    refine bj_callV (pc := 11) (np := 1) (K' := K_R_noBit) (argsL := [.int x2]) (st := [.ref x0]) (d1 := 1) (ci := 7) (fs := fs) rfl d_R_target_11 (Or.inl q_843) q_845 rfl q_24 c_R_noBit n_R_noBit hR (by decide) (by decide) rfl (Nat.le_of_ble_eq_true rfl) rfl (Nat.le_of_ble_eq_true rfl) hx (fun R' hR' => m_R_noBit hR' hw) (bs_kI_ok fun v3 h4 hw => ?_) (fun _ _ z => z)
    refine bj_if_eq (pc := 14) (tgt := 33) d_R_target_14 (by decide) (fun hc => ?_) (fun hc => ?_)
    · replace hw := hw.1 hc
      exact m_R_target_33 hR hw
    · replace hw := hw.2 hc
      refine bj_iload_n (pc := 17) 2 d_R_target_17 rfl rfl ?_
      refine bj_bipush (pc := 18) (v := 64) d_R_target_18 (by decide) ?_
      refine bj_icmp_eq (pc := 20) (tgt := 33) d_R_target_20 (by decide) (fun hc => ?_) (fun hc => ?_)
      · replace hw := hw.1 hc
        exact m_R_target_33 hR hw
      · replace hw := hw.2 hc
        refine bj_iload_n (pc := 23) 2 d_R_target_23 rfl rfl ?_
        refine bj_bipush (pc := 24) (v := 65) d_R_target_24 (by decide) ?_
        refine bj_icmp_eq (pc := 26) (tgt := 33) d_R_target_26 (by decide) (fun hc => ?_) (fun hc => ?_)
        · replace hw := hw.1 hc
          exact m_R_target_33 hR hw
        · replace hw := hw.2 hc
          exact m_R_target_29 hR hw
theorem d_M_sourceOf_0 : decode prog_2_method_5_code 0 = .ok (.aload_n 0, 1) := by decide +kernel
theorem d_M_sourceOf_1 : decode prog_2_method_5_code 1 = .ok (.getfield 9, 3) := by decide +kernel
theorem d_M_sourceOf_4 : decode prog_2_method_5_code 4 = .ok (.iload_n 1, 1) := by decide +kernel
theorem d_M_sourceOf_5 : decode prog_2_method_5_code 5 = .ok (.iaload, 1) := by decide +kernel
theorem d_M_sourceOf_6 : decode prog_2_method_5_code 6 = .ok (.ireturn, 1) := by decide +kernel
def w_M_sourceOf (Φ : bs_R → bs_H → Prop) (x0 : Nat) (x1 : Int32) (h : bs_H) : Prop :=
  bs_fA h x0 1 0 (fun v1 => bs_lI h v1 x1 (fun v2 => Φ (.ok (some (.int v2))) h))
theorem m_M_sourceOf {l : Launch} {R : Room} (hR : bs_rm 1 R) {Φ : bs_R → bs_H → Prop} {x0 : Nat} {x1 : Int32} {h : bs_H} (hw : w_M_sourceOf Φ x0 x1 h) : bs_J l K_M_sourceOf R Φ 0 [(0, .ref x0), (1, .int x1)] [] h := by
  unfold w_M_sourceOf at hw
  refine bj_aload_n (pc := 0) 0 d_M_sourceOf_0 rfl rfl ?_
  obtain ⟨fs, v1, hx, hv, hw⟩ := hw
  refine bj_get (pc := 1) (ci := 1) (k := 0) (fs := fs) (v := .ref v1) d_M_sourceOf_1 rfl (by decide) q_78 hx hv ?_
  refine bj_iload_n (pc := 4) 1 d_M_sourceOf_4 rfl rfl ?_
  obtain ⟨n, f, v2, hx, hin, hv, hw⟩ := hw
  refine bj_iald (pc := 5) (n := n) (f := f) d_M_sourceOf_5 hx hin hv ?_
  exact bj_iret (pc := 6) d_M_sourceOf_6 rfl hw
