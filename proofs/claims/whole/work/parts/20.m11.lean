/-! Decode rows, meanings and rows of: L_least, R_code, R_spread, R_least. Written by program. -/
theorem d_L_least_0 : decode method_15_code 0 = .ok (.aload_n 1, 1) := by decide +kernel
theorem d_L_least_1 : decode method_15_code 1 = .ok (.iconst 0, 1) := by decide +kernel
theorem d_L_least_2 : decode method_15_code 2 = .ok (.aload_n 0, 1) := by decide +kernel
theorem d_L_least_3 : decode method_15_code 3 = .ok (.invokevirtual 61, 3) := by decide +kernel
theorem d_L_least_6 : decode method_15_code 6 = .ok (.i2l, 1) := by decide +kernel
theorem d_L_least_7 : decode method_15_code 7 = .ok (.lastore, 1) := by decide +kernel
theorem d_L_least_8 : decode method_15_code 8 = .ok (.goto 6, 3) := by decide +kernel
theorem d_L_least_11 : decode method_15_code 11 = .ok (.astore_n 2, 1) := by decide +kernel
theorem d_L_least_12 : decode method_15_code 12 = .ok (.iconst 1, 1) := by decide +kernel
theorem d_L_least_13 : decode method_15_code 13 = .ok (.ireturn, 1) := by decide +kernel
theorem d_L_least_14 : decode method_15_code 14 = .ok (.iconst 0, 1) := by decide +kernel
theorem d_L_least_15 : decode method_15_code 15 = .ok (.ireturn, 1) := by decide +kernel
def w_L_least_11 (Φ : bs_R → bs_H → Prop) (s0 : Nat) (h : bs_H) : Prop :=
  Φ (.ok (some (.int 1))) h
def w_L_least (Φ : bs_R → bs_H → Prop) (x0 : Nat) (x1 : Nat) (h : bs_H) : Prop :=
  bs_on h x0 0 (w_B_least (bs_kI (bs_hd fun E3 h4 => (E3 = "java/lang/UnsupportedOperationException" ∧ ∀ a, w_L_least_11 Φ a h4)) fun v1 h2 => (bs_sL h2 x1 0 v1.toInt64 (fun h5 => Φ (.ok (some (.int 0))) h5))) x0 h)
theorem m_L_least_11 {l : Launch} {R : Room} {Φ : bs_R → bs_H → Prop} (hR : bs_rm 12 R) {s0 : Nat} {h : bs_H} (hw : w_L_least_11 Φ s0 h) : bs_J l K_L_least R Φ 11 [] [.ref s0] h := by
  unfold w_L_least_11 at hw
  refine bj_astore_n (pc := 11) (lo' := [(2, .ref s0)]) d_L_least_11 rfl (by decide) rfl ?_
  refine bj_iconst (pc := 12) (v := 1) d_L_least_12 (by decide) ?_
  exact bj_iret (pc := 13) d_L_least_13 rfl hw
theorem m_L_least {l : Launch} {R : Room} (hR : bs_rm 12 R) {Φ : bs_R → bs_H → Prop} {x0 : Nat} {x1 : Nat} {h : bs_H} (hw : w_L_least Φ x0 x1 h) : bs_J l K_L_least R Φ 0 [(0, .ref x0), (1, .ref x1)] [] h := by
  unfold w_L_least at hw
  refine bj_aload_n (pc := 0) 1 d_L_least_0 rfl rfl ?_
  refine bj_iconst (pc := 1) (v := 0) d_L_least_1 (by decide) ?_
  refine bj_aload_n (pc := 2) 0 d_L_least_2 rfl rfl ?_
  obtain ⟨⟨fs, hx⟩, hw⟩ := hw
  refine bj_callVC (pc := 3) (np := 0) (K' := K_B_least) (argsL := []) (st := [.int 0, .ref x1]) (d1 := 11) (ci := 0) (fs := fs) rfl d_L_least_3 (Or.inl q_721) q_722 rfl q_723 c_B_least n_B_least hR (by decide) (by decide) (Nat.le_of_ble_eq_true rfl) rfl (Nat.le_of_ble_eq_true rfl) hx (fun R' hR' => m_B_least hR' hw) (bs_kI_ok fun v1 h2 hw => ?_) ?_
  · refine bj_i2l (pc := 6) d_L_least_6 ?_
    obtain ⟨n, f, hx, hin, hw⟩ := hw
    refine bj_last (pc := 7) (n := n) (f := f) d_L_least_7 hx hin ?_
    refine bj_goto (pc := 8) (tgt := 14) d_L_least_8 (by decide) ?_
    refine bj_iconst (pc := 14) (v := 0) d_L_least_14 (by decide) ?_
    exact bj_iret (pc := 15) d_L_least_15 rfl hw
  · intro E3 h4 hw
    obtain ⟨rfl, hw⟩ := hw
    refine ⟨11, bs_hand1 rfl (by decide) (by decide) q_483 q_503, fun a => ?_⟩
    replace hw := hw a
    refine bj_sub [] (lo' := []) rfl ?_
    exact m_L_least_11 hR hw
theorem d_R_code_0 : decode prog_9_method_40_code 0 = .ok (.iconst 0, 1) := by decide +kernel
theorem d_R_code_1 : decode prog_9_method_40_code 1 = .ok (.istore_n 1, 1) := by decide +kernel
theorem d_R_code_2 : decode prog_9_method_40_code 2 = .ok (.aload_n 0, 1) := by decide +kernel
theorem d_R_code_3 : decode prog_9_method_40_code 3 = .ok (.getfield 89, 3) := by decide +kernel
theorem d_R_code_6 : decode prog_9_method_40_code 6 = .ok (.iconst 1, 1) := by decide +kernel
theorem d_R_code_7 : decode prog_9_method_40_code 7 = .ok (.isub, 1) := by decide +kernel
theorem d_R_code_8 : decode prog_9_method_40_code 8 = .ok (.istore_n 2, 1) := by decide +kernel
theorem d_R_code_9 : decode prog_9_method_40_code 9 = .ok (.iload_n 2, 1) := by decide +kernel
theorem d_R_code_10 : decode prog_9_method_40_code 10 = .ok (.ifCond .lt 20, 3) := by decide +kernel
theorem d_R_code_13 : decode prog_9_method_40_code 13 = .ok (.iconst 4, 1) := by decide +kernel
theorem d_R_code_14 : decode prog_9_method_40_code 14 = .ok (.iload_n 1, 1) := by decide +kernel
theorem d_R_code_15 : decode prog_9_method_40_code 15 = .ok (.imul, 1) := by decide +kernel
theorem d_R_code_16 : decode prog_9_method_40_code 16 = .ok (.aload_n 0, 1) := by decide +kernel
theorem d_R_code_17 : decode prog_9_method_40_code 17 = .ok (.getfield 75, 3) := by decide +kernel
theorem d_R_code_20 : decode prog_9_method_40_code 20 = .ok (.iload_n 2, 1) := by decide +kernel
theorem d_R_code_21 : decode prog_9_method_40_code 21 = .ok (.iaload, 1) := by decide +kernel
theorem d_R_code_22 : decode prog_9_method_40_code 22 = .ok (.iadd, 1) := by decide +kernel
theorem d_R_code_23 : decode prog_9_method_40_code 23 = .ok (.istore_n 1, 1) := by decide +kernel
theorem d_R_code_24 : decode prog_9_method_40_code 24 = .ok (.iinc 2 (-1), 3) := by decide +kernel
theorem d_R_code_27 : decode prog_9_method_40_code 27 = .ok (.goto (-18), 3) := by decide +kernel
theorem d_R_code_30 : decode prog_9_method_40_code 30 = .ok (.iload_n 1, 1) := by decide +kernel
theorem d_R_code_31 : decode prog_9_method_40_code 31 = .ok (.ireturn, 1) := by decide +kernel
def w_R_code_9_s (Φ : bs_R → bs_H → Prop) (nx9 : Nat → Int32 → Int32 → bs_H → Prop) (x0 : Nat) (x1 : Int32) (x2 : Int32) (h : bs_H) : Prop :=
  bs_if (x2 < 0) (Φ (.ok (some (.int x1))) h) (bs_fA h x0 7 25 (fun v1 => bs_lI h v1 x2 (fun v2 => nx9 x0 (((4 : Int32) * x1) + v2) (x2 + (-1)) h)))
def w_R_code_9 (Φ : bs_R → bs_H → Prop) : Nat → Nat → Int32 → Int32 → bs_H → Prop
  | 0 => fun _ _ _ _ => False
  | n + 1 => fun x0 x1 x2 h => w_R_code_9_s Φ (w_R_code_9 Φ n) x0 x1 x2 h
def w_R_code (Φ : bs_R → bs_H → Prop) (x0 : Nat) (h : bs_H) : Prop :=
  bs_fI h x0 7 1 (fun v1 => w_R_code_9 Φ 1000 x0 0 (v1 - 1) h)
theorem m_R_code_9 {l : Launch} {R : Room} {Φ : bs_R → bs_H → Prop} (hR : bs_rm 1 R) : ∀ (n : Nat) (x0 : Nat) (x1 : Int32) (x2 : Int32) (h : bs_H), w_R_code_9 Φ n x0 x1 x2 h → bs_J l K_R_code R Φ 9 [(0, .ref x0), (1, .int x1), (2, .int x2)] [] h := by
  intro n
  induction n with
  | zero => intro x0 x1 x2 h hw; exact hw.elim
  | succ n ih =>
    have hnx9 := ih
    intro x0 x1 x2 h hw
    replace hw : w_R_code_9_s Φ (w_R_code_9 Φ n) x0 x1 x2 h := hw
    unfold w_R_code_9_s at hw
    refine bj_iload_n (pc := 9) 2 d_R_code_9 rfl rfl ?_
    refine bj_if_lt (pc := 10) (tgt := 30) d_R_code_10 (by decide) (fun hc => ?_) (fun hc => ?_)
    · replace hw := hw.1 hc
      refine bj_iload_n (pc := 30) 1 d_R_code_30 rfl rfl ?_
      exact bj_iret (pc := 31) d_R_code_31 rfl hw
    · replace hw := hw.2 hc
      refine bj_iconst (pc := 13) (v := 4) d_R_code_13 (by decide) ?_
      refine bj_iload_n (pc := 14) 1 d_R_code_14 rfl rfl ?_
      refine bj_imul (pc := 15) d_R_code_15 ?_
      refine bj_aload_n (pc := 16) 0 d_R_code_16 rfl rfl ?_
      obtain ⟨fs, v1, hx, hv, hw⟩ := hw
      refine bj_get (pc := 17) (ci := 7) (k := 25) (fs := fs) (v := .ref v1) d_R_code_17 rfl (by decide) q_773 hx hv ?_
      refine bj_iload_n (pc := 20) 2 d_R_code_20 rfl rfl ?_
      obtain ⟨n, f, v2, hx, hin, hv, hw⟩ := hw
      refine bj_iald (pc := 21) (n := n) (f := f) d_R_code_21 hx hin hv ?_
      refine bj_iadd (pc := 22) d_R_code_22 ?_
      refine bj_istore_n (pc := 23) (lo' := [(1, .int (((4 : Int32) * x1) + v2)), (0, .ref x0), (2, .int x2)]) d_R_code_23 rfl (by decide) rfl ?_
      refine bj_iinc (pc := 24) (v := (x2 + (-1))) (lo' := [(2, .int (x2 + (-1))), (1, .int (((4 : Int32) * x1) + v2)), (0, .ref x0)]) 2 d_R_code_24 rfl rfl (by decide) rfl ?_
      refine bj_goto (pc := 27) (tgt := 9) d_R_code_27 (by decide) ?_
      refine bj_sub [2, 1, 0] (lo' := [(0, .ref x0), (1, .int (((4 : Int32) * x1) + v2)), (2, .int (x2 + (-1)))]) rfl ?_
      exact hnx9 _ _ _ _ hw
theorem m_R_code {l : Launch} {R : Room} (hR : bs_rm 1 R) {Φ : bs_R → bs_H → Prop} {x0 : Nat} {h : bs_H} (hw : w_R_code Φ x0 h) : bs_J l K_R_code R Φ 0 [(0, .ref x0)] [] h := by
  unfold w_R_code at hw
  refine bj_iconst (pc := 0) (v := 0) d_R_code_0 (by decide) ?_
  refine bj_istore_n (pc := 1) (lo' := [(1, .int 0), (0, .ref x0)]) d_R_code_1 rfl (by decide) rfl ?_
  refine bj_aload_n (pc := 2) 1 d_R_code_2 rfl rfl ?_
  obtain ⟨fs, v1, hx, hv, hw⟩ := hw
  refine bj_get (pc := 3) (ci := 7) (k := 1) (fs := fs) (v := .int v1) d_R_code_3 rfl (by decide) q_749 hx hv ?_
  refine bj_iconst (pc := 6) (v := 1) d_R_code_6 (by decide) ?_
  refine bj_isub (pc := 7) d_R_code_7 ?_
  refine bj_istore_n (pc := 8) (lo' := [(2, .int (v1 - 1)), (1, .int 0), (0, .ref x0)]) d_R_code_8 rfl (by decide) rfl ?_
  refine bj_sub [2, 1, 0] (lo' := [(0, .ref x0), (1, .int 0), (2, .int (v1 - 1))]) rfl ?_
  exact m_R_code_9 hR 1000 _ _ _ _ hw
theorem d_R_spread_0 : decode prog_9_method_41_code 0 = .ok (.iconst 1, 1) := by decide +kernel
theorem d_R_spread_1 : decode prog_9_method_41_code 1 = .ok (.istore_n 2, 1) := by decide +kernel
theorem d_R_spread_2 : decode prog_9_method_41_code 2 = .ok (.iload_n 2, 1) := by decide +kernel
theorem d_R_spread_3 : decode prog_9_method_41_code 3 = .ok (.aload_n 0, 1) := by decide +kernel
theorem d_R_spread_4 : decode prog_9_method_41_code 4 = .ok (.getfield 89, 3) := by decide +kernel
theorem d_R_spread_7 : decode prog_9_method_41_code 7 = .ok (.if_icmp .ge 175, 3) := by decide +kernel
theorem d_R_spread_10 : decode prog_9_method_41_code 10 = .ok (.iconst 1, 1) := by decide +kernel
theorem d_R_spread_11 : decode prog_9_method_41_code 11 = .ok (.istore_n 3, 1) := by decide +kernel
theorem d_R_spread_12 : decode prog_9_method_41_code 12 = .ok (.iload_n 3, 1) := by decide +kernel
theorem d_R_spread_13 : decode prog_9_method_41_code 13 = .ok (.bipush 8, 2) := by decide +kernel
theorem d_R_spread_15 : decode prog_9_method_41_code 15 = .ok (.if_icmp .ge 161, 3) := by decide +kernel
theorem d_R_spread_18 : decode prog_9_method_41_code 18 = .ok (.aload_n 0, 1) := by decide +kernel
theorem d_R_spread_19 : decode prog_9_method_41_code 19 = .ok (.iconst 5, 1) := by decide +kernel
theorem d_R_spread_20 : decode prog_9_method_41_code 20 = .ok (.iload_n 2, 1) := by decide +kernel
theorem d_R_spread_21 : decode prog_9_method_41_code 21 = .ok (.iload_n 3, 1) := by decide +kernel
theorem d_R_spread_22 : decode prog_9_method_41_code 22 = .ok (.i2l, 1) := by decide +kernel
theorem d_R_spread_23 : decode prog_9_method_41_code 23 = .ok (.invokevirtual 139, 3) := by decide +kernel
theorem d_R_spread_26 : decode prog_9_method_41_code 26 = .ok (.ifCond .eq 144, 3) := by decide +kernel
theorem d_R_spread_29 : decode prog_9_method_41_code 29 = .ok (.iconst 0, 1) := by decide +kernel
theorem d_R_spread_30 : decode prog_9_method_41_code 30 = .ok (.istore 4, 2) := by decide +kernel
theorem d_R_spread_32 : decode prog_9_method_41_code 32 = .ok (.iload 4, 2) := by decide +kernel
theorem d_R_spread_34 : decode prog_9_method_41_code 34 = .ok (.aload_n 0, 1) := by decide +kernel
theorem d_R_spread_35 : decode prog_9_method_41_code 35 = .ok (.getfield 89, 3) := by decide +kernel
theorem d_R_spread_38 : decode prog_9_method_41_code 38 = .ok (.if_icmp .ge 24, 3) := by decide +kernel
theorem d_R_spread_41 : decode prog_9_method_41_code 41 = .ok (.aload_n 0, 1) := by decide +kernel
theorem d_R_spread_42 : decode prog_9_method_41_code 42 = .ok (.getfield 75, 3) := by decide +kernel
theorem d_R_spread_45 : decode prog_9_method_41_code 45 = .ok (.iload 4, 2) := by decide +kernel
theorem d_R_spread_47 : decode prog_9_method_41_code 47 = .ok (.iload_n 1, 1) := by decide +kernel
theorem d_R_spread_48 : decode prog_9_method_41_code 48 = .ok (.iconst 2, 1) := by decide +kernel
theorem d_R_spread_49 : decode prog_9_method_41_code 49 = .ok (.iload 4, 2) := by decide +kernel
theorem d_R_spread_51 : decode prog_9_method_41_code 51 = .ok (.imul, 1) := by decide +kernel
theorem d_R_spread_52 : decode prog_9_method_41_code 52 = .ok (.ishr, 1) := by decide +kernel
theorem d_R_spread_53 : decode prog_9_method_41_code 53 = .ok (.iconst 3, 1) := by decide +kernel
theorem d_R_spread_54 : decode prog_9_method_41_code 54 = .ok (.iand, 1) := by decide +kernel
theorem d_R_spread_55 : decode prog_9_method_41_code 55 = .ok (.iastore, 1) := by decide +kernel
theorem d_R_spread_56 : decode prog_9_method_41_code 56 = .ok (.iinc 4 1, 3) := by decide +kernel
theorem d_R_spread_59 : decode prog_9_method_41_code 59 = .ok (.goto (-27), 3) := by decide +kernel
theorem d_R_spread_62 : decode prog_9_method_41_code 62 = .ok (.iconst 0, 1) := by decide +kernel
theorem d_R_spread_63 : decode prog_9_method_41_code 63 = .ok (.istore 4, 2) := by decide +kernel
theorem d_R_spread_65 : decode prog_9_method_41_code 65 = .ok (.iload 4, 2) := by decide +kernel
theorem d_R_spread_67 : decode prog_9_method_41_code 67 = .ok (.iload_n 2, 1) := by decide +kernel
theorem d_R_spread_68 : decode prog_9_method_41_code 68 = .ok (.iadd, 1) := by decide +kernel
theorem d_R_spread_69 : decode prog_9_method_41_code 69 = .ok (.aload_n 0, 1) := by decide +kernel
theorem d_R_spread_70 : decode prog_9_method_41_code 70 = .ok (.getfield 89, 3) := by decide +kernel
theorem d_R_spread_73 : decode prog_9_method_41_code 73 = .ok (.if_icmp .ge 56, 3) := by decide +kernel
theorem d_R_spread_76 : decode prog_9_method_41_code 76 = .ok (.aload_n 0, 1) := by decide +kernel
theorem d_R_spread_77 : decode prog_9_method_41_code 77 = .ok (.iload_n 3, 1) := by decide +kernel
theorem d_R_spread_78 : decode prog_9_method_41_code 78 = .ok (.i2l, 1) := by decide +kernel
theorem d_R_spread_79 : decode prog_9_method_41_code 79 = .ok (.iload 4, 2) := by decide +kernel
theorem d_R_spread_81 : decode prog_9_method_41_code 81 = .ok (.invokevirtual 135, 3) := by decide +kernel
theorem d_R_spread_84 : decode prog_9_method_41_code 84 = .ok (.ifCond .eq 39, 3) := by decide +kernel
theorem d_R_spread_87 : decode prog_9_method_41_code 87 = .ok (.aload_n 0, 1) := by decide +kernel
theorem d_R_spread_88 : decode prog_9_method_41_code 88 = .ok (.getfield 75, 3) := by decide +kernel
theorem d_R_spread_91 : decode prog_9_method_41_code 91 = .ok (.iload 4, 2) := by decide +kernel
theorem d_R_spread_93 : decode prog_9_method_41_code 93 = .ok (.iaload, 1) := by decide +kernel
theorem d_R_spread_94 : decode prog_9_method_41_code 94 = .ok (.istore 5, 2) := by decide +kernel
theorem d_R_spread_96 : decode prog_9_method_41_code 96 = .ok (.aload_n 0, 1) := by decide +kernel
theorem d_R_spread_97 : decode prog_9_method_41_code 97 = .ok (.getfield 75, 3) := by decide +kernel
theorem d_R_spread_100 : decode prog_9_method_41_code 100 = .ok (.iload 4, 2) := by decide +kernel
theorem d_R_spread_102 : decode prog_9_method_41_code 102 = .ok (.aload_n 0, 1) := by decide +kernel
theorem d_R_spread_103 : decode prog_9_method_41_code 103 = .ok (.getfield 75, 3) := by decide +kernel
theorem d_R_spread_106 : decode prog_9_method_41_code 106 = .ok (.iload 4, 2) := by decide +kernel
theorem d_R_spread_108 : decode prog_9_method_41_code 108 = .ok (.iload_n 2, 1) := by decide +kernel
theorem d_R_spread_109 : decode prog_9_method_41_code 109 = .ok (.iadd, 1) := by decide +kernel
theorem d_R_spread_110 : decode prog_9_method_41_code 110 = .ok (.iaload, 1) := by decide +kernel
theorem d_R_spread_111 : decode prog_9_method_41_code 111 = .ok (.iastore, 1) := by decide +kernel
theorem d_R_spread_112 : decode prog_9_method_41_code 112 = .ok (.aload_n 0, 1) := by decide +kernel
theorem d_R_spread_113 : decode prog_9_method_41_code 113 = .ok (.getfield 75, 3) := by decide +kernel
theorem d_R_spread_116 : decode prog_9_method_41_code 116 = .ok (.iload 4, 2) := by decide +kernel
theorem d_R_spread_118 : decode prog_9_method_41_code 118 = .ok (.iload_n 2, 1) := by decide +kernel
theorem d_R_spread_119 : decode prog_9_method_41_code 119 = .ok (.iadd, 1) := by decide +kernel
theorem d_R_spread_120 : decode prog_9_method_41_code 120 = .ok (.iload 5, 2) := by decide +kernel
theorem d_R_spread_122 : decode prog_9_method_41_code 122 = .ok (.iastore, 1) := by decide +kernel
theorem d_R_spread_123 : decode prog_9_method_41_code 123 = .ok (.iinc 4 1, 3) := by decide +kernel
theorem d_R_spread_126 : decode prog_9_method_41_code 126 = .ok (.goto (-61), 3) := by decide +kernel
theorem d_R_spread_129 : decode prog_9_method_41_code 129 = .ok (.aload_n 0, 1) := by decide +kernel
theorem d_R_spread_130 : decode prog_9_method_41_code 130 = .ok (.invokevirtual 167, 3) := by decide +kernel
theorem d_R_spread_133 : decode prog_9_method_41_code 133 = .ok (.istore 4, 2) := by decide +kernel
theorem d_R_spread_135 : decode prog_9_method_41_code 135 = .ok (.aload_n 0, 1) := by decide +kernel
theorem d_R_spread_136 : decode prog_9_method_41_code 136 = .ok (.getfield 72, 3) := by decide +kernel
theorem d_R_spread_139 : decode prog_9_method_41_code 139 = .ok (.iload 4, 2) := by decide +kernel
theorem d_R_spread_141 : decode prog_9_method_41_code 141 = .ok (.aload_n 0, 1) := by decide +kernel
theorem d_R_spread_142 : decode prog_9_method_41_code 142 = .ok (.getfield 72, 3) := by decide +kernel
theorem d_R_spread_145 : decode prog_9_method_41_code 145 = .ok (.iload 4, 2) := by decide +kernel
theorem d_R_spread_147 : decode prog_9_method_41_code 147 = .ok (.iaload, 1) := by decide +kernel
theorem d_R_spread_148 : decode prog_9_method_41_code 148 = .ok (.ifCond .ge 14, 3) := by decide +kernel
theorem d_R_spread_151 : decode prog_9_method_41_code 151 = .ok (.aload_n 0, 1) := by decide +kernel
theorem d_R_spread_152 : decode prog_9_method_41_code 152 = .ok (.getfield 72, 3) := by decide +kernel
theorem d_R_spread_155 : decode prog_9_method_41_code 155 = .ok (.iload_n 1, 1) := by decide +kernel
theorem d_R_spread_156 : decode prog_9_method_41_code 156 = .ok (.iaload, 1) := by decide +kernel
theorem d_R_spread_157 : decode prog_9_method_41_code 157 = .ok (.iconst 1, 1) := by decide +kernel
theorem d_R_spread_158 : decode prog_9_method_41_code 158 = .ok (.iadd, 1) := by decide +kernel
theorem d_R_spread_159 : decode prog_9_method_41_code 159 = .ok (.goto 10, 3) := by decide +kernel
theorem d_R_spread_162 : decode prog_9_method_41_code 162 = .ok (.aload_n 0, 1) := by decide +kernel
theorem d_R_spread_163 : decode prog_9_method_41_code 163 = .ok (.getfield 72, 3) := by decide +kernel
theorem d_R_spread_166 : decode prog_9_method_41_code 166 = .ok (.iload 4, 2) := by decide +kernel
theorem d_R_spread_168 : decode prog_9_method_41_code 168 = .ok (.iaload, 1) := by decide +kernel
theorem d_R_spread_169 : decode prog_9_method_41_code 169 = .ok (.iastore, 1) := by decide +kernel
theorem d_R_spread_170 : decode prog_9_method_41_code 170 = .ok (.iinc 3 1, 3) := by decide +kernel
theorem d_R_spread_173 : decode prog_9_method_41_code 173 = .ok (.goto (-161), 3) := by decide +kernel
theorem d_R_spread_176 : decode prog_9_method_41_code 176 = .ok (.iinc 2 1, 3) := by decide +kernel
theorem d_R_spread_179 : decode prog_9_method_41_code 179 = .ok (.goto (-177), 3) := by decide +kernel
theorem d_R_spread_182 : decode prog_9_method_41_code 182 = .ok (.return_, 1) := by decide +kernel
def w_R_spread_170 (Φ : bs_R → bs_H → Prop) (nx2 : Nat → Int32 → Int32 → bs_H → Prop) (nx12 : Nat → Int32 → Int32 → Int32 → bs_H → Prop) (x0 : Nat) (x1 : Int32) (x2 : Int32) (x3 : Int32) (h : bs_H) : Prop :=
  nx12 x0 x1 x2 (x3 + 1) h
def w_R_spread_169 (Φ : bs_R → bs_H → Prop) (nx2 : Nat → Int32 → Int32 → bs_H → Prop) (nx12 : Nat → Int32 → Int32 → Int32 → bs_H → Prop) (x0 : Nat) (x1 : Int32) (x2 : Int32) (x3 : Int32) (s0 : Nat) (s1 : Int32) (s2 : Int32) (h : bs_H) : Prop :=
  bs_sI h s0 s1 s2 (fun h1 => w_R_spread_170 Φ nx2 nx12 x0 x1 x2 x3 h1)
def w_R_spread_123 (Φ : bs_R → bs_H → Prop) (nx2 : Nat → Int32 → Int32 → bs_H → Prop) (nx12 : Nat → Int32 → Int32 → Int32 → bs_H → Prop) (nx65 : Nat → Int32 → Int32 → Int32 → Int32 → bs_H → Prop) (x0 : Nat) (x1 : Int32) (x2 : Int32) (x3 : Int32) (x4 : Int32) (h : bs_H) : Prop :=
  nx65 x0 x1 x2 x3 (x4 + 1) h
def w_R_spread_65_s (Φ : bs_R → bs_H → Prop) (nx2 : Nat → Int32 → Int32 → bs_H → Prop) (nx12 : Nat → Int32 → Int32 → Int32 → bs_H → Prop) (nx65 : Nat → Int32 → Int32 → Int32 → Int32 → bs_H → Prop) (x0 : Nat) (x1 : Int32) (x2 : Int32) (x3 : Int32) (x4 : Int32) (h : bs_H) : Prop :=
  bs_fI h x0 7 1 (fun v1 => bs_if (v1 ≤ (x4 + x2)) (bs_on h x0 7 (w_R_code (bs_kI Φ fun v2 h3 => (bs_fA h3 x0 7 24 (fun v4 => bs_fA h3 x0 7 24 (fun v5 => bs_lI h3 v5 v2 (fun v6 => bs_if ((0 : Int32) ≤ v6) (bs_fA h3 x0 7 24 (fun v7 => bs_lI h3 v7 v2 (fun v8 => w_R_spread_169 Φ nx2 nx12 x0 x1 x2 x3 v4 v2 v8 h3))) (bs_fA h3 x0 7 24 (fun v9 => bs_lI h3 v9 x1 (fun v10 => w_R_spread_169 Φ nx2 nx12 x0 x1 x2 x3 v4 v2 (v10 + 1) h3)))))))) x0 h)) (bs_on h x0 7 (w_R_isIn (bs_kI Φ fun v11 h12 => (bs_if (v11 = 0) (w_R_spread_123 Φ nx2 nx12 nx65 x0 x1 x2 x3 x4 h12) (bs_fA h12 x0 7 25 (fun v13 => bs_lI h12 v13 x4 (fun v14 => bs_fA h12 x0 7 25 (fun v15 => bs_fA h12 x0 7 25 (fun v16 => bs_lI h12 v16 (x4 + x2) (fun v17 => bs_sI h12 v15 x4 v17 (fun h18 => bs_fA h18 x0 7 25 (fun v19 => bs_sI h18 v19 (x4 + x2) v14 (fun h20 => w_R_spread_123 Φ nx2 nx12 nx65 x0 x1 x2 x3 x4 h20))))))))))) x0 x3.toInt64 x4 h)))
def w_R_spread_65 (Φ : bs_R → bs_H → Prop) (nx2 : Nat → Int32 → Int32 → bs_H → Prop) (nx12 : Nat → Int32 → Int32 → Int32 → bs_H → Prop) : Nat → Nat → Int32 → Int32 → Int32 → Int32 → bs_H → Prop
  | 0 => fun _ _ _ _ _ _ => False
  | n + 1 => fun x0 x1 x2 x3 x4 h => w_R_spread_65_s Φ nx2 nx12 (w_R_spread_65 Φ nx2 nx12 n) x0 x1 x2 x3 x4 h
def w_R_spread_32_s (Φ : bs_R → bs_H → Prop) (nx2 : Nat → Int32 → Int32 → bs_H → Prop) (nx12 : Nat → Int32 → Int32 → Int32 → bs_H → Prop) (nx32 : Nat → Int32 → Int32 → Int32 → Int32 → bs_H → Prop) (x0 : Nat) (x1 : Int32) (x2 : Int32) (x3 : Int32) (x4 : Int32) (h : bs_H) : Prop :=
  bs_fI h x0 7 1 (fun v1 => bs_if (v1 ≤ x4) (w_R_spread_65 Φ nx2 nx12 1000 x0 x1 x2 x3 0 h) (bs_fA h x0 7 25 (fun v2 => bs_sI h v2 x4 ((x1 >>> (((2 : Int32) * x4) &&& 31)) &&& 3) (fun h3 => nx32 x0 x1 x2 x3 (x4 + 1) h3))))
def w_R_spread_32 (Φ : bs_R → bs_H → Prop) (nx2 : Nat → Int32 → Int32 → bs_H → Prop) (nx12 : Nat → Int32 → Int32 → Int32 → bs_H → Prop) : Nat → Nat → Int32 → Int32 → Int32 → Int32 → bs_H → Prop
  | 0 => fun _ _ _ _ _ _ => False
  | n + 1 => fun x0 x1 x2 x3 x4 h => w_R_spread_32_s Φ nx2 nx12 (w_R_spread_32 Φ nx2 nx12 n) x0 x1 x2 x3 x4 h
def w_R_spread_12_s (Φ : bs_R → bs_H → Prop) (nx2 : Nat → Int32 → Int32 → bs_H → Prop) (nx12 : Nat → Int32 → Int32 → Int32 → bs_H → Prop) (x0 : Nat) (x1 : Int32) (x2 : Int32) (x3 : Int32) (h : bs_H) : Prop :=
  bs_if ((8 : Int32) ≤ x3) (nx2 x0 x1 (x2 + 1) h) (bs_on h x0 7 (w_R_fits (bs_kI Φ fun v1 h2 => (bs_if (v1 = 0) (w_R_spread_170 Φ nx2 nx12 x0 x1 x2 x3 h2) (w_R_spread_32 Φ nx2 nx12 1000 x0 x1 x2 x3 0 h2))) x0 5 x2 x3.toInt64 h))
def w_R_spread_12 (Φ : bs_R → bs_H → Prop) (nx2 : Nat → Int32 → Int32 → bs_H → Prop) : Nat → Nat → Int32 → Int32 → Int32 → bs_H → Prop
  | 0 => fun _ _ _ _ _ => False
  | n + 1 => fun x0 x1 x2 x3 h => w_R_spread_12_s Φ nx2 (w_R_spread_12 Φ nx2 n) x0 x1 x2 x3 h
def w_R_spread_2_s (Φ : bs_R → bs_H → Prop) (nx2 : Nat → Int32 → Int32 → bs_H → Prop) (x0 : Nat) (x1 : Int32) (x2 : Int32) (h : bs_H) : Prop :=
  bs_fI h x0 7 1 (fun v1 => bs_if (v1 ≤ x2) (Φ (.ok none) h) (w_R_spread_12 Φ nx2 1000 x0 x1 x2 1 h))
def w_R_spread_2 (Φ : bs_R → bs_H → Prop) : Nat → Nat → Int32 → Int32 → bs_H → Prop
  | 0 => fun _ _ _ _ => False
  | n + 1 => fun x0 x1 x2 h => w_R_spread_2_s Φ (w_R_spread_2 Φ n) x0 x1 x2 h
def w_R_spread (Φ : bs_R → bs_H → Prop) (x0 : Nat) (x1 : Int32) (h : bs_H) : Prop :=
  w_R_spread_2 Φ 1000 x0 x1 1 h
theorem m_R_spread_170 {l : Launch} {R : Room} {Φ : bs_R → bs_H → Prop} (hR : bs_rm 3 R) {nx2 : Nat → Int32 → Int32 → bs_H → Prop} {nx12 : Nat → Int32 → Int32 → Int32 → bs_H → Prop} (hnx2 : ∀ (x0 : Nat) (x1 : Int32) (x2 : Int32) (h : bs_H), nx2 x0 x1 x2 h → bs_J l K_R_spread R Φ 2 [(0, .ref x0), (1, .int x1), (2, .int x2)] [] h) (hnx12 : ∀ (x0 : Nat) (x1 : Int32) (x2 : Int32) (x3 : Int32) (h : bs_H), nx12 x0 x1 x2 x3 h → bs_J l K_R_spread R Φ 12 [(0, .ref x0), (1, .int x1), (2, .int x2), (3, .int x3)] [] h) {x0 : Nat} {x1 : Int32} {x2 : Int32} {x3 : Int32} {h : bs_H} (hw : w_R_spread_170 Φ nx2 nx12 x0 x1 x2 x3 h) : bs_J l K_R_spread R Φ 170 [(0, .ref x0), (1, .int x1), (2, .int x2), (3, .int x3)] [] h := by
  unfold w_R_spread_170 at hw
  refine bj_iinc (pc := 170) (v := (x3 + 1)) (lo' := [(3, .int (x3 + 1)), (0, .ref x0), (1, .int x1), (2, .int x2)]) 3 d_R_spread_170 rfl rfl (by decide) rfl ?_
  refine bj_goto (pc := 173) (tgt := 12) d_R_spread_173 (by decide) ?_
  refine bj_sub [1, 2, 3, 0] (lo' := [(0, .ref x0), (1, .int x1), (2, .int x2), (3, .int (x3 + 1))]) rfl ?_
  exact hnx12 _ _ _ _ _ hw
theorem m_R_spread_169 {l : Launch} {R : Room} {Φ : bs_R → bs_H → Prop} (hR : bs_rm 3 R) {nx2 : Nat → Int32 → Int32 → bs_H → Prop} {nx12 : Nat → Int32 → Int32 → Int32 → bs_H → Prop} (hnx2 : ∀ (x0 : Nat) (x1 : Int32) (x2 : Int32) (h : bs_H), nx2 x0 x1 x2 h → bs_J l K_R_spread R Φ 2 [(0, .ref x0), (1, .int x1), (2, .int x2)] [] h) (hnx12 : ∀ (x0 : Nat) (x1 : Int32) (x2 : Int32) (x3 : Int32) (h : bs_H), nx12 x0 x1 x2 x3 h → bs_J l K_R_spread R Φ 12 [(0, .ref x0), (1, .int x1), (2, .int x2), (3, .int x3)] [] h) {x0 : Nat} {x1 : Int32} {x2 : Int32} {x3 : Int32} {s0 : Nat} {s1 : Int32} {s2 : Int32} {h : bs_H} (hw : w_R_spread_169 Φ nx2 nx12 x0 x1 x2 x3 s0 s1 s2 h) : bs_J l K_R_spread R Φ 169 [(0, .ref x0), (1, .int x1), (2, .int x2), (3, .int x3)] [.int s2, .int s1, .ref s0] h := by
  unfold w_R_spread_169 at hw
  obtain ⟨n, f, hx, hin, hw⟩ := hw
  refine bj_iast (pc := 169) (n := n) (f := f) d_R_spread_169 hx hin ?_
  exact m_R_spread_170 hR hnx2 hnx12 hw
theorem m_R_spread_123 {l : Launch} {R : Room} {Φ : bs_R → bs_H → Prop} (hR : bs_rm 3 R) {nx2 : Nat → Int32 → Int32 → bs_H → Prop} {nx12 : Nat → Int32 → Int32 → Int32 → bs_H → Prop} {nx65 : Nat → Int32 → Int32 → Int32 → Int32 → bs_H → Prop} (hnx2 : ∀ (x0 : Nat) (x1 : Int32) (x2 : Int32) (h : bs_H), nx2 x0 x1 x2 h → bs_J l K_R_spread R Φ 2 [(0, .ref x0), (1, .int x1), (2, .int x2)] [] h) (hnx12 : ∀ (x0 : Nat) (x1 : Int32) (x2 : Int32) (x3 : Int32) (h : bs_H), nx12 x0 x1 x2 x3 h → bs_J l K_R_spread R Φ 12 [(0, .ref x0), (1, .int x1), (2, .int x2), (3, .int x3)] [] h) (hnx65 : ∀ (x0 : Nat) (x1 : Int32) (x2 : Int32) (x3 : Int32) (x4 : Int32) (h : bs_H), nx65 x0 x1 x2 x3 x4 h → bs_J l K_R_spread R Φ 65 [(0, .ref x0), (1, .int x1), (2, .int x2), (3, .int x3), (4, .int x4)] [] h) {x0 : Nat} {x1 : Int32} {x2 : Int32} {x3 : Int32} {x4 : Int32} {h : bs_H} (hw : w_R_spread_123 Φ nx2 nx12 nx65 x0 x1 x2 x3 x4 h) : bs_J l K_R_spread R Φ 123 [(0, .ref x0), (1, .int x1), (2, .int x2), (3, .int x3), (4, .int x4)] [] h := by
  unfold w_R_spread_123 at hw
  refine bj_iinc (pc := 123) (v := (x4 + 1)) (lo' := [(4, .int (x4 + 1)), (0, .ref x0), (1, .int x1), (2, .int x2), (3, .int x3)]) 4 d_R_spread_123 rfl rfl (by decide) rfl ?_
  refine bj_goto (pc := 126) (tgt := 65) d_R_spread_126 (by decide) ?_
  refine bj_sub [1, 2, 3, 4, 0] (lo' := [(0, .ref x0), (1, .int x1), (2, .int x2), (3, .int x3), (4, .int (x4 + 1))]) rfl ?_
  exact hnx65 _ _ _ _ _ _ hw
theorem m_R_spread_65 {l : Launch} {R : Room} {Φ : bs_R → bs_H → Prop} (hR : bs_rm 3 R) {nx2 : Nat → Int32 → Int32 → bs_H → Prop} {nx12 : Nat → Int32 → Int32 → Int32 → bs_H → Prop} (hnx2 : ∀ (x0 : Nat) (x1 : Int32) (x2 : Int32) (h : bs_H), nx2 x0 x1 x2 h → bs_J l K_R_spread R Φ 2 [(0, .ref x0), (1, .int x1), (2, .int x2)] [] h) (hnx12 : ∀ (x0 : Nat) (x1 : Int32) (x2 : Int32) (x3 : Int32) (h : bs_H), nx12 x0 x1 x2 x3 h → bs_J l K_R_spread R Φ 12 [(0, .ref x0), (1, .int x1), (2, .int x2), (3, .int x3)] [] h) : ∀ (n : Nat) (x0 : Nat) (x1 : Int32) (x2 : Int32) (x3 : Int32) (x4 : Int32) (h : bs_H), w_R_spread_65 Φ nx2 nx12 n x0 x1 x2 x3 x4 h → bs_J l K_R_spread R Φ 65 [(0, .ref x0), (1, .int x1), (2, .int x2), (3, .int x3), (4, .int x4)] [] h := by
  intro n
  induction n with
  | zero => intro x0 x1 x2 x3 x4 h hw; exact hw.elim
  | succ n ih =>
    have hnx65 := ih
    intro x0 x1 x2 x3 x4 h hw
    replace hw : w_R_spread_65_s Φ nx2 nx12 (w_R_spread_65 Φ nx2 nx12 n) x0 x1 x2 x3 x4 h := hw
    unfold w_R_spread_65_s at hw
    refine bj_iload (pc := 65) 4 d_R_spread_65 rfl ?_
    refine bj_iload_n (pc := 67) 2 d_R_spread_67 rfl rfl ?_
    refine bj_iadd (pc := 68) d_R_spread_68 ?_
    refine bj_aload_n (pc := 69) 0 d_R_spread_69 rfl rfl ?_
    obtain ⟨fs, v1, hx, hv, hw⟩ := hw
    refine bj_get (pc := 70) (ci := 7) (k := 1) (fs := fs) (v := .int v1) d_R_spread_70 rfl (by decide) q_749 hx hv ?_
    refine bj_icmp_ge (pc := 73) (tgt := 129) d_R_spread_73 (by decide) (fun hc => ?_) (fun hc => ?_)
    · replace hw := hw.1 hc
      refine bj_aload_n (pc := 129) 0 d_R_spread_129 rfl rfl ?_
      obtain ⟨⟨fs, hx⟩, hw⟩ := hw
      refine bj_callV (pc := 130) (np := 0) (K' := K_R_code) (argsL := []) (st := []) (d1 := 1) (ci := 7) (fs := fs) rfl d_R_spread_130 (Or.inl q_983) q_985 rfl q_43 c_R_code n_R_code hR (by decide) (by decide) rfl (Nat.le_of_ble_eq_true rfl) rfl (Nat.le_of_ble_eq_true rfl) hx (fun R' hR' => m_R_code hR' hw) (bs_kI_ok fun v2 h3 hw => ?_) (fun _ _ z => z)
      refine bj_istore (pc := 133) (lo' := [(4, .int v2), (0, .ref x0), (1, .int x1), (2, .int x2), (3, .int x3)]) d_R_spread_133 (by decide) rfl ?_
      refine bj_aload_n (pc := 135) 1 d_R_spread_135 rfl rfl ?_
      obtain ⟨fs, v4, hx, hv, hw⟩ := hw
      refine bj_get (pc := 136) (ci := 7) (k := 24) (fs := fs) (v := .ref v4) d_R_spread_136 rfl (by decide) q_772 hx hv ?_
      refine bj_iload (pc := 139) 0 d_R_spread_139 rfl ?_
      refine bj_aload_n (pc := 141) 1 d_R_spread_141 rfl rfl ?_
      obtain ⟨fs, v5, hx, hv, hw⟩ := hw
      refine bj_get (pc := 142) (ci := 7) (k := 24) (fs := fs) (v := .ref v5) d_R_spread_142 rfl (by decide) q_772 hx hv ?_
      refine bj_iload (pc := 145) 0 d_R_spread_145 rfl ?_
      obtain ⟨n, f, v6, hx, hin, hv, hw⟩ := hw
      refine bj_iald (pc := 147) (n := n) (f := f) d_R_spread_147 hx hin hv ?_
      refine bj_if_ge (pc := 148) (tgt := 162) d_R_spread_148 (by decide) (fun hc => ?_) (fun hc => ?_)
      · replace hw := hw.1 hc
        refine bj_aload_n (pc := 162) 1 d_R_spread_162 rfl rfl ?_
        obtain ⟨fs, v7, hx, hv, hw⟩ := hw
        refine bj_get (pc := 163) (ci := 7) (k := 24) (fs := fs) (v := .ref v7) d_R_spread_163 rfl (by decide) q_772 hx hv ?_
        refine bj_iload (pc := 166) 0 d_R_spread_166 rfl ?_
        obtain ⟨n, f, v8, hx, hin, hv, hw⟩ := hw
        refine bj_iald (pc := 168) (n := n) (f := f) d_R_spread_168 hx hin hv ?_
        refine bj_sub [1, 2, 3, 4] (lo' := [(0, .ref x0), (1, .int x1), (2, .int x2), (3, .int x3)]) rfl ?_
        exact m_R_spread_169 hR hnx2 hnx12 hw
      · replace hw := hw.2 hc
        refine bj_aload_n (pc := 151) 1 d_R_spread_151 rfl rfl ?_
        obtain ⟨fs, v9, hx, hv, hw⟩ := hw
        refine bj_get (pc := 152) (ci := 7) (k := 24) (fs := fs) (v := .ref v9) d_R_spread_152 rfl (by decide) q_772 hx hv ?_
        refine bj_iload_n (pc := 155) 2 d_R_spread_155 rfl rfl ?_
        obtain ⟨n, f, v10, hx, hin, hv, hw⟩ := hw
        refine bj_iald (pc := 156) (n := n) (f := f) d_R_spread_156 hx hin hv ?_
        refine bj_iconst (pc := 157) (v := 1) d_R_spread_157 (by decide) ?_
        refine bj_iadd (pc := 158) d_R_spread_158 ?_
        refine bj_goto (pc := 159) (tgt := 169) d_R_spread_159 (by decide) ?_
        refine bj_sub [1, 2, 3, 4] (lo' := [(0, .ref x0), (1, .int x1), (2, .int x2), (3, .int x3)]) rfl ?_
        exact m_R_spread_169 hR hnx2 hnx12 hw
    · replace hw := hw.2 hc
      refine bj_aload_n (pc := 76) 0 d_R_spread_76 rfl rfl ?_
      refine bj_iload_n (pc := 77) 3 d_R_spread_77 rfl rfl ?_
      refine bj_i2l (pc := 78) d_R_spread_78 ?_
      refine bj_iload (pc := 79) 4 d_R_spread_79 rfl ?_
      obtain ⟨⟨fs, hx⟩, hw⟩ := hw
      refine bj_callV (pc := 81) (np := 2) (K' := K_R_isIn) (argsL := [.long x3.toInt64, .int x4]) (st := []) (d1 := 1) (ci := 7) (fs := fs) rfl d_R_spread_81 (Or.inl q_915) q_917 rfl q_36 c_R_isIn n_R_isIn hR (by decide) (by decide) rfl (Nat.le_of_ble_eq_true rfl) rfl (Nat.le_of_ble_eq_true rfl) hx (fun R' hR' => m_R_isIn hR' hw) (bs_kI_ok fun v11 h12 hw => ?_) (fun _ _ z => z)
      refine bj_if_eq (pc := 84) (tgt := 123) d_R_spread_84 (by decide) (fun hc => ?_) (fun hc => ?_)
      · replace hw := hw.1 hc
        exact m_R_spread_123 hR hnx2 hnx12 hnx65 hw
      · replace hw := hw.2 hc
        refine bj_aload_n (pc := 87) 0 d_R_spread_87 rfl rfl ?_
        obtain ⟨fs, v13, hx, hv, hw⟩ := hw
        refine bj_get (pc := 88) (ci := 7) (k := 25) (fs := fs) (v := .ref v13) d_R_spread_88 rfl (by decide) q_773 hx hv ?_
        refine bj_iload (pc := 91) 4 d_R_spread_91 rfl ?_
        obtain ⟨n, f, v14, hx, hin, hv, hw⟩ := hw
        refine bj_iald (pc := 93) (n := n) (f := f) d_R_spread_93 hx hin hv ?_
        refine bj_istore (pc := 94) (lo' := [(5, .int v14), (0, .ref x0), (1, .int x1), (2, .int x2), (3, .int x3), (4, .int x4)]) d_R_spread_94 (by decide) rfl ?_
        refine bj_aload_n (pc := 96) 1 d_R_spread_96 rfl rfl ?_
        obtain ⟨fs, v15, hx, hv, hw⟩ := hw
        refine bj_get (pc := 97) (ci := 7) (k := 25) (fs := fs) (v := .ref v15) d_R_spread_97 rfl (by decide) q_773 hx hv ?_
        refine bj_iload (pc := 100) 5 d_R_spread_100 rfl ?_
        refine bj_aload_n (pc := 102) 1 d_R_spread_102 rfl rfl ?_
        obtain ⟨fs, v16, hx, hv, hw⟩ := hw
        refine bj_get (pc := 103) (ci := 7) (k := 25) (fs := fs) (v := .ref v16) d_R_spread_103 rfl (by decide) q_773 hx hv ?_
        refine bj_iload (pc := 106) 5 d_R_spread_106 rfl ?_
        refine bj_iload_n (pc := 108) 3 d_R_spread_108 rfl rfl ?_
        refine bj_iadd (pc := 109) d_R_spread_109 ?_
        obtain ⟨n, f, v17, hx, hin, hv, hw⟩ := hw
        refine bj_iald (pc := 110) (n := n) (f := f) d_R_spread_110 hx hin hv ?_
        obtain ⟨n, f, hx, hin, hw⟩ := hw
        refine bj_iast (pc := 111) (n := n) (f := f) d_R_spread_111 hx hin ?_
        refine bj_aload_n (pc := 112) 1 d_R_spread_112 rfl rfl ?_
        obtain ⟨fs, v19, hx, hv, hw⟩ := hw
        refine bj_get (pc := 113) (ci := 7) (k := 25) (fs := fs) (v := .ref v19) d_R_spread_113 rfl (by decide) q_773 hx hv ?_
        refine bj_iload (pc := 116) 5 d_R_spread_116 rfl ?_
        refine bj_iload_n (pc := 118) 3 d_R_spread_118 rfl rfl ?_
        refine bj_iadd (pc := 119) d_R_spread_119 ?_
        refine bj_iload (pc := 120) 0 d_R_spread_120 rfl ?_
        obtain ⟨n, f, hx, hin, hw⟩ := hw
        refine bj_iast (pc := 122) (n := n) (f := f) d_R_spread_122 hx hin ?_
        refine bj_sub [1, 2, 3, 4, 5] (lo' := [(0, .ref x0), (1, .int x1), (2, .int x2), (3, .int x3), (4, .int x4)]) rfl ?_
        exact m_R_spread_123 hR hnx2 hnx12 hnx65 hw
theorem m_R_spread_32 {l : Launch} {R : Room} {Φ : bs_R → bs_H → Prop} (hR : bs_rm 3 R) {nx2 : Nat → Int32 → Int32 → bs_H → Prop} {nx12 : Nat → Int32 → Int32 → Int32 → bs_H → Prop} (hnx2 : ∀ (x0 : Nat) (x1 : Int32) (x2 : Int32) (h : bs_H), nx2 x0 x1 x2 h → bs_J l K_R_spread R Φ 2 [(0, .ref x0), (1, .int x1), (2, .int x2)] [] h) (hnx12 : ∀ (x0 : Nat) (x1 : Int32) (x2 : Int32) (x3 : Int32) (h : bs_H), nx12 x0 x1 x2 x3 h → bs_J l K_R_spread R Φ 12 [(0, .ref x0), (1, .int x1), (2, .int x2), (3, .int x3)] [] h) : ∀ (n : Nat) (x0 : Nat) (x1 : Int32) (x2 : Int32) (x3 : Int32) (x4 : Int32) (h : bs_H), w_R_spread_32 Φ nx2 nx12 n x0 x1 x2 x3 x4 h → bs_J l K_R_spread R Φ 32 [(0, .ref x0), (1, .int x1), (2, .int x2), (3, .int x3), (4, .int x4)] [] h := by
  intro n
  induction n with
  | zero => intro x0 x1 x2 x3 x4 h hw; exact hw.elim
  | succ n ih =>
    have hnx32 := ih
    intro x0 x1 x2 x3 x4 h hw
    replace hw : w_R_spread_32_s Φ nx2 nx12 (w_R_spread_32 Φ nx2 nx12 n) x0 x1 x2 x3 x4 h := hw
    unfold w_R_spread_32_s at hw
    refine bj_iload (pc := 32) 4 d_R_spread_32 rfl ?_
    refine bj_aload_n (pc := 34) 0 d_R_spread_34 rfl rfl ?_
    obtain ⟨fs, v1, hx, hv, hw⟩ := hw
    refine bj_get (pc := 35) (ci := 7) (k := 1) (fs := fs) (v := .int v1) d_R_spread_35 rfl (by decide) q_749 hx hv ?_
    refine bj_icmp_ge (pc := 38) (tgt := 62) d_R_spread_38 (by decide) (fun hc => ?_) (fun hc => ?_)
    · replace hw := hw.1 hc
      refine bj_iconst (pc := 62) (v := 0) d_R_spread_62 (by decide) ?_
      refine bj_istore (pc := 63) (lo' := [(4, .int 0), (0, .ref x0), (1, .int x1), (2, .int x2), (3, .int x3)]) d_R_spread_63 (by decide) rfl ?_
      refine bj_sub [1, 2, 3, 4, 0] (lo' := [(0, .ref x0), (1, .int x1), (2, .int x2), (3, .int x3), (4, .int 0)]) rfl ?_
      exact m_R_spread_65 hR hnx2 hnx12 1000 _ _ _ _ _ _ hw
    · replace hw := hw.2 hc
      refine bj_aload_n (pc := 41) 0 d_R_spread_41 rfl rfl ?_
      obtain ⟨fs, v2, hx, hv, hw⟩ := hw
      refine bj_get (pc := 42) (ci := 7) (k := 25) (fs := fs) (v := .ref v2) d_R_spread_42 rfl (by decide) q_773 hx hv ?_
      refine bj_iload (pc := 45) 4 d_R_spread_45 rfl ?_
      refine bj_iload_n (pc := 47) 1 d_R_spread_47 rfl rfl ?_
      refine bj_iconst (pc := 48) (v := 2) d_R_spread_48 (by decide) ?_
      refine bj_iload (pc := 49) 4 d_R_spread_49 rfl ?_
      refine bj_imul (pc := 51) d_R_spread_51 ?_
      refine bj_ishr (pc := 52) d_R_spread_52 ?_
      refine bj_iconst (pc := 53) (v := 3) d_R_spread_53 (by decide) ?_
      refine bj_iand (pc := 54) d_R_spread_54 ?_
      obtain ⟨n, f, hx, hin, hw⟩ := hw
      refine bj_iast (pc := 55) (n := n) (f := f) d_R_spread_55 hx hin ?_
      refine bj_iinc (pc := 56) (v := (x4 + 1)) (lo' := [(4, .int (x4 + 1)), (0, .ref x0), (1, .int x1), (2, .int x2), (3, .int x3)]) 4 d_R_spread_56 rfl rfl (by decide) rfl ?_
      refine bj_goto (pc := 59) (tgt := 32) d_R_spread_59 (by decide) ?_
      refine bj_sub [1, 2, 3, 4, 0] (lo' := [(0, .ref x0), (1, .int x1), (2, .int x2), (3, .int x3), (4, .int (x4 + 1))]) rfl ?_
      exact hnx32 _ _ _ _ _ _ hw
theorem m_R_spread_12 {l : Launch} {R : Room} {Φ : bs_R → bs_H → Prop} (hR : bs_rm 3 R) {nx2 : Nat → Int32 → Int32 → bs_H → Prop} (hnx2 : ∀ (x0 : Nat) (x1 : Int32) (x2 : Int32) (h : bs_H), nx2 x0 x1 x2 h → bs_J l K_R_spread R Φ 2 [(0, .ref x0), (1, .int x1), (2, .int x2)] [] h) : ∀ (n : Nat) (x0 : Nat) (x1 : Int32) (x2 : Int32) (x3 : Int32) (h : bs_H), w_R_spread_12 Φ nx2 n x0 x1 x2 x3 h → bs_J l K_R_spread R Φ 12 [(0, .ref x0), (1, .int x1), (2, .int x2), (3, .int x3)] [] h := by
  intro n
  induction n with
  | zero => intro x0 x1 x2 x3 h hw; exact hw.elim
  | succ n ih =>
    have hnx12 := ih
    intro x0 x1 x2 x3 h hw
    replace hw : w_R_spread_12_s Φ nx2 (w_R_spread_12 Φ nx2 n) x0 x1 x2 x3 h := hw
    unfold w_R_spread_12_s at hw
    refine bj_iload_n (pc := 12) 3 d_R_spread_12 rfl rfl ?_
    refine bj_bipush (pc := 13) (v := 8) d_R_spread_13 (by decide) ?_
    refine bj_icmp_ge (pc := 15) (tgt := 176) d_R_spread_15 (by decide) (fun hc => ?_) (fun hc => ?_)
    · replace hw := hw.1 hc
      refine bj_iinc (pc := 176) (v := (x2 + 1)) (lo' := [(2, .int (x2 + 1)), (0, .ref x0), (1, .int x1), (3, .int x3)]) 2 d_R_spread_176 rfl rfl (by decide) rfl ?_
      refine bj_goto (pc := 179) (tgt := 2) d_R_spread_179 (by decide) ?_
      refine bj_sub [1, 2, 0] (lo' := [(0, .ref x0), (1, .int x1), (2, .int (x2 + 1))]) rfl ?_
      exact hnx2 _ _ _ _ hw
    · replace hw := hw.2 hc
      refine bj_aload_n (pc := 18) 0 d_R_spread_18 rfl rfl ?_
      refine bj_iconst (pc := 19) (v := 5) d_R_spread_19 (by decide) ?_
      refine bj_iload_n (pc := 20) 2 d_R_spread_20 rfl rfl ?_
      refine bj_iload_n (pc := 21) 3 d_R_spread_21 rfl rfl ?_
      refine bj_i2l (pc := 22) d_R_spread_22 ?_
      obtain ⟨⟨fs, hx⟩, hw⟩ := hw
      refine bj_callV (pc := 23) (np := 3) (K' := K_R_fits) (argsL := [.int 5, .int x2, .long x3.toInt64]) (st := []) (d1 := 2) (ci := 7) (fs := fs) rfl d_R_spread_23 (Or.inl q_911) q_913 rfl q_35 c_R_fits n_R_fits hR (by decide) (by decide) rfl (Nat.le_of_ble_eq_true rfl) rfl (Nat.le_of_ble_eq_true rfl) hx (fun R' hR' => m_R_fits hR' hw) (bs_kI_ok fun v1 h2 hw => ?_) (fun _ _ z => z)
      refine bj_if_eq (pc := 26) (tgt := 170) d_R_spread_26 (by decide) (fun hc => ?_) (fun hc => ?_)
      · replace hw := hw.1 hc
        exact m_R_spread_170 hR hnx2 hnx12 hw
      · replace hw := hw.2 hc
        refine bj_iconst (pc := 29) (v := 0) d_R_spread_29 (by decide) ?_
        refine bj_istore (pc := 30) (lo' := [(4, .int 0), (0, .ref x0), (1, .int x1), (2, .int x2), (3, .int x3)]) d_R_spread_30 (by decide) rfl ?_
        refine bj_sub [1, 2, 3, 4, 0] (lo' := [(0, .ref x0), (1, .int x1), (2, .int x2), (3, .int x3), (4, .int 0)]) rfl ?_
        exact m_R_spread_32 hR hnx2 hnx12 1000 _ _ _ _ _ _ hw
theorem m_R_spread_2 {l : Launch} {R : Room} {Φ : bs_R → bs_H → Prop} (hR : bs_rm 3 R) : ∀ (n : Nat) (x0 : Nat) (x1 : Int32) (x2 : Int32) (h : bs_H), w_R_spread_2 Φ n x0 x1 x2 h → bs_J l K_R_spread R Φ 2 [(0, .ref x0), (1, .int x1), (2, .int x2)] [] h := by
  intro n
  induction n with
  | zero => intro x0 x1 x2 h hw; exact hw.elim
  | succ n ih =>
    have hnx2 := ih
    intro x0 x1 x2 h hw
    replace hw : w_R_spread_2_s Φ (w_R_spread_2 Φ n) x0 x1 x2 h := hw
    unfold w_R_spread_2_s at hw
    refine bj_iload_n (pc := 2) 2 d_R_spread_2 rfl rfl ?_
    refine bj_aload_n (pc := 3) 0 d_R_spread_3 rfl rfl ?_
    obtain ⟨fs, v1, hx, hv, hw⟩ := hw
    refine bj_get (pc := 4) (ci := 7) (k := 1) (fs := fs) (v := .int v1) d_R_spread_4 rfl (by decide) q_749 hx hv ?_
    refine bj_icmp_ge (pc := 7) (tgt := 182) d_R_spread_7 (by decide) (fun hc => ?_) (fun hc => ?_)
    · replace hw := hw.1 hc
      exact bj_vret (pc := 182) d_R_spread_182 rfl hw
    · replace hw := hw.2 hc
      refine bj_iconst (pc := 10) (v := 1) d_R_spread_10 (by decide) ?_
      refine bj_istore_n (pc := 11) (lo' := [(3, .int 1), (0, .ref x0), (1, .int x1), (2, .int x2)]) d_R_spread_11 rfl (by decide) rfl ?_
      refine bj_sub [1, 2, 3, 0] (lo' := [(0, .ref x0), (1, .int x1), (2, .int x2), (3, .int 1)]) rfl ?_
      exact m_R_spread_12 hR hnx2 1000 _ _ _ _ _ hw
theorem m_R_spread {l : Launch} {R : Room} (hR : bs_rm 3 R) {Φ : bs_R → bs_H → Prop} {x0 : Nat} {x1 : Int32} {h : bs_H} (hw : w_R_spread Φ x0 x1 h) : bs_J l K_R_spread R Φ 0 [(0, .ref x0), (1, .int x1)] [] h := by
  unfold w_R_spread at hw
  refine bj_iconst (pc := 0) (v := 1) d_R_spread_0 (by decide) ?_
  refine bj_istore_n (pc := 1) (lo' := [(2, .int 1), (0, .ref x0), (1, .int x1)]) d_R_spread_1 rfl (by decide) rfl ?_
  refine bj_sub [1, 2, 0] (lo' := [(0, .ref x0), (1, .int x1), (2, .int 1)]) rfl ?_
  exact m_R_spread_2 hR 1000 _ _ _ _ hw
theorem d_R_least_0 : decode prog_9_method_42_code 0 = .ok (.aload_n 0, 1) := by decide +kernel
theorem d_R_least_1 : decode prog_9_method_42_code 1 = .ok (.aload_n 0, 1) := by decide +kernel
theorem d_R_least_2 : decode prog_9_method_42_code 2 = .ok (.invokevirtual 118, 3) := by decide +kernel
theorem d_R_least_5 : decode prog_9_method_42_code 5 = .ok (.ifCond .eq 11, 3) := by decide +kernel
theorem d_R_least_8 : decode prog_9_method_42_code 8 = .ok (.aload_n 0, 1) := by decide +kernel
theorem d_R_least_9 : decode prog_9_method_42_code 9 = .ok (.getfield 89, 3) := by decide +kernel
theorem d_R_least_12 : decode prog_9_method_42_code 12 = .ok (.iconst 4, 1) := by decide +kernel
theorem d_R_least_13 : decode prog_9_method_42_code 13 = .ok (.if_icmp .le 7, 3) := by decide +kernel
theorem d_R_least_16 : decode prog_9_method_42_code 16 = .ok (.iconst 1, 1) := by decide +kernel
theorem d_R_least_17 : decode prog_9_method_42_code 17 = .ok (.goto 4, 3) := by decide +kernel
theorem d_R_least_20 : decode prog_9_method_42_code 20 = .ok (.iconst 0, 1) := by decide +kernel
theorem d_R_least_21 : decode prog_9_method_42_code 21 = .ok (.putfield 85, 3) := by decide +kernel
theorem d_R_least_24 : decode prog_9_method_42_code 24 = .ok (.aload_n 0, 1) := by decide +kernel
theorem d_R_least_25 : decode prog_9_method_42_code 25 = .ok (.getfield 85, 3) := by decide +kernel
theorem d_R_least_28 : decode prog_9_method_42_code 28 = .ok (.ifCond .eq 5, 3) := by decide +kernel
theorem d_R_least_31 : decode prog_9_method_42_code 31 = .ok (.iconst 0, 1) := by decide +kernel
theorem d_R_least_32 : decode prog_9_method_42_code 32 = .ok (.ireturn, 1) := by decide +kernel
theorem d_R_least_33 : decode prog_9_method_42_code 33 = .ok (.iconst 0, 1) := by decide +kernel
theorem d_R_least_34 : decode prog_9_method_42_code 34 = .ok (.istore_n 1, 1) := by decide +kernel
theorem d_R_least_35 : decode prog_9_method_42_code 35 = .ok (.iload_n 1, 1) := by decide +kernel
theorem d_R_least_36 : decode prog_9_method_42_code 36 = .ok (.sipush 256, 3) := by decide +kernel
theorem d_R_least_39 : decode prog_9_method_42_code 39 = .ok (.if_icmp .ge 16, 3) := by decide +kernel
theorem d_R_least_42 : decode prog_9_method_42_code 42 = .ok (.aload_n 0, 1) := by decide +kernel
theorem d_R_least_43 : decode prog_9_method_42_code 43 = .ok (.getfield 72, 3) := by decide +kernel
theorem d_R_least_46 : decode prog_9_method_42_code 46 = .ok (.iload_n 1, 1) := by decide +kernel
theorem d_R_least_47 : decode prog_9_method_42_code 47 = .ok (.iconst (-1), 1) := by decide +kernel
theorem d_R_least_48 : decode prog_9_method_42_code 48 = .ok (.iastore, 1) := by decide +kernel
theorem d_R_least_49 : decode prog_9_method_42_code 49 = .ok (.iinc 1 1, 3) := by decide +kernel
theorem d_R_least_52 : decode prog_9_method_42_code 52 = .ok (.goto (-17), 3) := by decide +kernel
theorem d_R_least_55 : decode prog_9_method_42_code 55 = .ok (.iconst 0, 1) := by decide +kernel
theorem d_R_least_56 : decode prog_9_method_42_code 56 = .ok (.istore_n 1, 1) := by decide +kernel
theorem d_R_least_57 : decode prog_9_method_42_code 57 = .ok (.iload_n 1, 1) := by decide +kernel
theorem d_R_least_58 : decode prog_9_method_42_code 58 = .ok (.aload_n 0, 1) := by decide +kernel
theorem d_R_least_59 : decode prog_9_method_42_code 59 = .ok (.getfield 89, 3) := by decide +kernel
theorem d_R_least_62 : decode prog_9_method_42_code 62 = .ok (.if_icmp .ge 16, 3) := by decide +kernel
theorem d_R_least_65 : decode prog_9_method_42_code 65 = .ok (.aload_n 0, 1) := by decide +kernel
theorem d_R_least_66 : decode prog_9_method_42_code 66 = .ok (.getfield 75, 3) := by decide +kernel
theorem d_R_least_69 : decode prog_9_method_42_code 69 = .ok (.iload_n 1, 1) := by decide +kernel
theorem d_R_least_70 : decode prog_9_method_42_code 70 = .ok (.iload_n 1, 1) := by decide +kernel
theorem d_R_least_71 : decode prog_9_method_42_code 71 = .ok (.iastore, 1) := by decide +kernel
theorem d_R_least_72 : decode prog_9_method_42_code 72 = .ok (.iinc 1 1, 3) := by decide +kernel
theorem d_R_least_75 : decode prog_9_method_42_code 75 = .ok (.goto (-18), 3) := by decide +kernel
theorem d_R_least_78 : decode prog_9_method_42_code 78 = .ok (.aload_n 0, 1) := by decide +kernel
theorem d_R_least_79 : decode prog_9_method_42_code 79 = .ok (.getfield 72, 3) := by decide +kernel
theorem d_R_least_82 : decode prog_9_method_42_code 82 = .ok (.aload_n 0, 1) := by decide +kernel
theorem d_R_least_83 : decode prog_9_method_42_code 83 = .ok (.invokevirtual 167, 3) := by decide +kernel
theorem d_R_least_86 : decode prog_9_method_42_code 86 = .ok (.iconst 0, 1) := by decide +kernel
theorem d_R_least_87 : decode prog_9_method_42_code 87 = .ok (.iastore, 1) := by decide +kernel
theorem d_R_least_88 : decode prog_9_method_42_code 88 = .ok (.iconst 0, 1) := by decide +kernel
theorem d_R_least_89 : decode prog_9_method_42_code 89 = .ok (.istore_n 1, 1) := by decide +kernel
theorem d_R_least_90 : decode prog_9_method_42_code 90 = .ok (.iload_n 1, 1) := by decide +kernel
theorem d_R_least_91 : decode prog_9_method_42_code 91 = .ok (.iconst 4, 1) := by decide +kernel
theorem d_R_least_92 : decode prog_9_method_42_code 92 = .ok (.if_icmp .ge 39, 3) := by decide +kernel
theorem d_R_least_95 : decode prog_9_method_42_code 95 = .ok (.iconst 0, 1) := by decide +kernel
theorem d_R_least_96 : decode prog_9_method_42_code 96 = .ok (.istore_n 2, 1) := by decide +kernel
theorem d_R_least_97 : decode prog_9_method_42_code 97 = .ok (.iload_n 2, 1) := by decide +kernel
theorem d_R_least_98 : decode prog_9_method_42_code 98 = .ok (.sipush 256, 3) := by decide +kernel
theorem d_R_least_101 : decode prog_9_method_42_code 101 = .ok (.if_icmp .ge 24, 3) := by decide +kernel
theorem d_R_least_104 : decode prog_9_method_42_code 104 = .ok (.aload_n 0, 1) := by decide +kernel
theorem d_R_least_105 : decode prog_9_method_42_code 105 = .ok (.getfield 72, 3) := by decide +kernel
theorem d_R_least_108 : decode prog_9_method_42_code 108 = .ok (.iload_n 2, 1) := by decide +kernel
theorem d_R_least_109 : decode prog_9_method_42_code 109 = .ok (.iaload, 1) := by decide +kernel
theorem d_R_least_110 : decode prog_9_method_42_code 110 = .ok (.iload_n 1, 1) := by decide +kernel
theorem d_R_least_111 : decode prog_9_method_42_code 111 = .ok (.if_icmp .ne 8, 3) := by decide +kernel
theorem d_R_least_114 : decode prog_9_method_42_code 114 = .ok (.aload_n 0, 1) := by decide +kernel
theorem d_R_least_115 : decode prog_9_method_42_code 115 = .ok (.iload_n 2, 1) := by decide +kernel
theorem d_R_least_116 : decode prog_9_method_42_code 116 = .ok (.invokevirtual 171, 3) := by decide +kernel
theorem d_R_least_119 : decode prog_9_method_42_code 119 = .ok (.iinc 2 1, 3) := by decide +kernel
theorem d_R_least_122 : decode prog_9_method_42_code 122 = .ok (.goto (-25), 3) := by decide +kernel
theorem d_R_least_125 : decode prog_9_method_42_code 125 = .ok (.iinc 1 1, 3) := by decide +kernel
theorem d_R_least_128 : decode prog_9_method_42_code 128 = .ok (.goto (-38), 3) := by decide +kernel
theorem d_R_least_131 : decode prog_9_method_42_code 131 = .ok (.iconst 0, 1) := by decide +kernel
theorem d_R_least_132 : decode prog_9_method_42_code 132 = .ok (.istore_n 1, 1) := by decide +kernel
theorem d_R_least_133 : decode prog_9_method_42_code 133 = .ok (.iload_n 1, 1) := by decide +kernel
theorem d_R_least_134 : decode prog_9_method_42_code 134 = .ok (.aload_n 0, 1) := by decide +kernel
theorem d_R_least_135 : decode prog_9_method_42_code 135 = .ok (.getfield 89, 3) := by decide +kernel
theorem d_R_least_138 : decode prog_9_method_42_code 138 = .ok (.if_icmp .ge 21, 3) := by decide +kernel
theorem d_R_least_141 : decode prog_9_method_42_code 141 = .ok (.aload_n 0, 1) := by decide +kernel
theorem d_R_least_142 : decode prog_9_method_42_code 142 = .ok (.getfield 75, 3) := by decide +kernel
theorem d_R_least_145 : decode prog_9_method_42_code 145 = .ok (.iload_n 1, 1) := by decide +kernel
theorem d_R_least_146 : decode prog_9_method_42_code 146 = .ok (.aload_n 0, 1) := by decide +kernel
theorem d_R_least_147 : decode prog_9_method_42_code 147 = .ok (.getfield 7, 3) := by decide +kernel
theorem d_R_least_150 : decode prog_9_method_42_code 150 = .ok (.iload_n 1, 1) := by decide +kernel
theorem d_R_least_151 : decode prog_9_method_42_code 151 = .ok (.iaload, 1) := by decide +kernel
theorem d_R_least_152 : decode prog_9_method_42_code 152 = .ok (.iastore, 1) := by decide +kernel
theorem d_R_least_153 : decode prog_9_method_42_code 153 = .ok (.iinc 1 1, 3) := by decide +kernel
theorem d_R_least_156 : decode prog_9_method_42_code 156 = .ok (.goto (-23), 3) := by decide +kernel
theorem d_R_least_159 : decode prog_9_method_42_code 159 = .ok (.aload_n 0, 1) := by decide +kernel
theorem d_R_least_160 : decode prog_9_method_42_code 160 = .ok (.getfield 72, 3) := by decide +kernel
theorem d_R_least_163 : decode prog_9_method_42_code 163 = .ok (.aload_n 0, 1) := by decide +kernel
theorem d_R_least_164 : decode prog_9_method_42_code 164 = .ok (.invokevirtual 167, 3) := by decide +kernel
theorem d_R_least_167 : decode prog_9_method_42_code 167 = .ok (.iaload, 1) := by decide +kernel
theorem d_R_least_168 : decode prog_9_method_42_code 168 = .ok (.ireturn, 1) := by decide +kernel
def w_R_least_133_s (Φ : bs_R → bs_H → Prop) (nx133 : Nat → Int32 → bs_H → Prop) (x0 : Nat) (x1 : Int32) (h : bs_H) : Prop :=
  bs_fI h x0 7 1 (fun v1 => bs_if (v1 ≤ x1) (bs_fA h x0 7 24 (fun v2 => bs_on h x0 7 (w_R_code (bs_kI Φ fun v3 h4 => (bs_lI h4 v2 v3 (fun v5 => Φ (.ok (some (.int v5))) h4))) x0 h))) (bs_fA h x0 7 25 (fun v6 => bs_fA h x0 7 2 (fun v7 => bs_lI h v7 x1 (fun v8 => bs_sI h v6 x1 v8 (fun h9 => nx133 x0 (x1 + 1) h9))))))
def w_R_least_133 (Φ : bs_R → bs_H → Prop) : Nat → Nat → Int32 → bs_H → Prop
  | 0 => fun _ _ _ => False
  | n + 1 => fun x0 x1 h => w_R_least_133_s Φ (w_R_least_133 Φ n) x0 x1 h
def w_R_least_119 (Φ : bs_R → bs_H → Prop) (nx90 : Nat → Int32 → bs_H → Prop) (nx97 : Nat → Int32 → Int32 → bs_H → Prop) (x0 : Nat) (x1 : Int32) (x2 : Int32) (h : bs_H) : Prop :=
  nx97 x0 x1 (x2 + 1) h
def w_R_least_97_s (Φ : bs_R → bs_H → Prop) (nx90 : Nat → Int32 → bs_H → Prop) (nx97 : Nat → Int32 → Int32 → bs_H → Prop) (x0 : Nat) (x1 : Int32) (x2 : Int32) (h : bs_H) : Prop :=
  bs_if ((256 : Int32) ≤ x2) (nx90 x0 (x1 + 1) h) (bs_fA h x0 7 24 (fun v1 => bs_lI h v1 x2 (fun v2 => bs_if (v2 = x1) (bs_on h x0 7 (w_R_spread (bs_kV Φ fun h3 => (w_R_least_119 Φ nx90 nx97 x0 x1 x2 h3)) x0 x2 h)) (w_R_least_119 Φ nx90 nx97 x0 x1 x2 h))))
def w_R_least_97 (Φ : bs_R → bs_H → Prop) (nx90 : Nat → Int32 → bs_H → Prop) : Nat → Nat → Int32 → Int32 → bs_H → Prop
  | 0 => fun _ _ _ _ => False
  | n + 1 => fun x0 x1 x2 h => w_R_least_97_s Φ nx90 (w_R_least_97 Φ nx90 n) x0 x1 x2 h
def w_R_least_90_s (Φ : bs_R → bs_H → Prop) (nx90 : Nat → Int32 → bs_H → Prop) (x0 : Nat) (x1 : Int32) (h : bs_H) : Prop :=
  bs_if ((4 : Int32) ≤ x1) (w_R_least_133 Φ 1000 x0 0 h) (w_R_least_97 Φ nx90 1000 x0 x1 0 h)
def w_R_least_90 (Φ : bs_R → bs_H → Prop) : Nat → Nat → Int32 → bs_H → Prop
  | 0 => fun _ _ _ => False
  | n + 1 => fun x0 x1 h => w_R_least_90_s Φ (w_R_least_90 Φ n) x0 x1 h
def w_R_least_57_s (Φ : bs_R → bs_H → Prop) (nx57 : Nat → Int32 → bs_H → Prop) (x0 : Nat) (x1 : Int32) (h : bs_H) : Prop :=
  bs_fI h x0 7 1 (fun v1 => bs_if (v1 ≤ x1) (bs_fA h x0 7 24 (fun v2 => bs_on h x0 7 (w_R_code (bs_kI Φ fun v3 h4 => (bs_sI h4 v2 v3 0 (fun h5 => w_R_least_90 Φ 1000 x0 0 h5))) x0 h))) (bs_fA h x0 7 25 (fun v6 => bs_sI h v6 x1 x1 (fun h7 => nx57 x0 (x1 + 1) h7))))
def w_R_least_57 (Φ : bs_R → bs_H → Prop) : Nat → Nat → Int32 → bs_H → Prop
  | 0 => fun _ _ _ => False
  | n + 1 => fun x0 x1 h => w_R_least_57_s Φ (w_R_least_57 Φ n) x0 x1 h
def w_R_least_35_s (Φ : bs_R → bs_H → Prop) (nx35 : Nat → Int32 → bs_H → Prop) (x0 : Nat) (x1 : Int32) (h : bs_H) : Prop :=
  bs_if ((256 : Int32) ≤ x1) (w_R_least_57 Φ 1000 x0 0 h) (bs_fA h x0 7 24 (fun v1 => bs_sI h v1 x1 (-1) (fun h2 => nx35 x0 (x1 + 1) h2)))
def w_R_least_35 (Φ : bs_R → bs_H → Prop) : Nat → Nat → Int32 → bs_H → Prop
  | 0 => fun _ _ _ => False
  | n + 1 => fun x0 x1 h => w_R_least_35_s Φ (w_R_least_35 Φ n) x0 x1 h
def w_R_least_21 (Φ : bs_R → bs_H → Prop) (x0 : Nat) (s0 : Nat) (s1 : Int32) (h : bs_H) : Prop :=
  bs_p h s0 7 0 (.int s1) (fun h1 => bs_fI h1 x0 7 0 (fun v2 => bs_if (v2 = 0) (w_R_least_35 Φ 1000 x0 0 h1) (Φ (.ok (some (.int 0))) h1)))
def w_R_least_16 (Φ : bs_R → bs_H → Prop) (x0 : Nat) (s0 : Nat) (h : bs_H) : Prop :=
  w_R_least_21 Φ x0 s0 1 h
def w_R_least (Φ : bs_R → bs_H → Prop) (x0 : Nat) (h : bs_H) : Prop :=
  bs_on h x0 7 (w_R_isPermutation (bs_kI Φ fun v1 h2 => (bs_if (v1 = 0) (w_R_least_16 Φ x0 x0 h2) (bs_fI h2 x0 7 1 (fun v3 => bs_if (v3 ≤ 4) (w_R_least_21 Φ x0 x0 0 h2) (w_R_least_16 Φ x0 x0 h2))))) x0 h)
theorem m_R_least_133 {l : Launch} {R : Room} {Φ : bs_R → bs_H → Prop} (hR : bs_rm 4 R) : ∀ (n : Nat) (x0 : Nat) (x1 : Int32) (h : bs_H), w_R_least_133 Φ n x0 x1 h → bs_J l K_R_least R Φ 133 [(0, .ref x0), (1, .int x1)] [] h := by
  intro n
  induction n with
  | zero => intro x0 x1 h hw; exact hw.elim
  | succ n ih =>
    have hnx133 := ih
    intro x0 x1 h hw
    replace hw : w_R_least_133_s Φ (w_R_least_133 Φ n) x0 x1 h := hw
    unfold w_R_least_133_s at hw
    refine bj_iload_n (pc := 133) 1 d_R_least_133 rfl rfl ?_
    refine bj_aload_n (pc := 134) 0 d_R_least_134 rfl rfl ?_
    obtain ⟨fs, v1, hx, hv, hw⟩ := hw
    refine bj_get (pc := 135) (ci := 7) (k := 1) (fs := fs) (v := .int v1) d_R_least_135 rfl (by decide) q_749 hx hv ?_
    refine bj_icmp_ge (pc := 138) (tgt := 159) d_R_least_138 (by decide) (fun hc => ?_) (fun hc => ?_)
    · replace hw := hw.1 hc
      refine bj_aload_n (pc := 159) 0 d_R_least_159 rfl rfl ?_
      obtain ⟨fs, v2, hx, hv, hw⟩ := hw
      refine bj_get (pc := 160) (ci := 7) (k := 24) (fs := fs) (v := .ref v2) d_R_least_160 rfl (by decide) q_772 hx hv ?_
      refine bj_aload_n (pc := 163) 0 d_R_least_163 rfl rfl ?_
      obtain ⟨⟨fs, hx⟩, hw⟩ := hw
      refine bj_callV (pc := 164) (np := 0) (K' := K_R_code) (argsL := []) (st := [.ref v2]) (d1 := 1) (ci := 7) (fs := fs) rfl d_R_least_164 (Or.inl q_983) q_985 rfl q_43 c_R_code n_R_code hR (by decide) (by decide) rfl (Nat.le_of_ble_eq_true rfl) rfl (Nat.le_of_ble_eq_true rfl) hx (fun R' hR' => m_R_code hR' hw) (bs_kI_ok fun v3 h4 hw => ?_) (fun _ _ z => z)
      obtain ⟨n, f, v5, hx, hin, hv, hw⟩ := hw
      refine bj_iald (pc := 167) (n := n) (f := f) d_R_least_167 hx hin hv ?_
      exact bj_iret (pc := 168) d_R_least_168 rfl hw
    · replace hw := hw.2 hc
      refine bj_aload_n (pc := 141) 0 d_R_least_141 rfl rfl ?_
      obtain ⟨fs, v6, hx, hv, hw⟩ := hw
      refine bj_get (pc := 142) (ci := 7) (k := 25) (fs := fs) (v := .ref v6) d_R_least_142 rfl (by decide) q_773 hx hv ?_
      refine bj_iload_n (pc := 145) 1 d_R_least_145 rfl rfl ?_
      refine bj_aload_n (pc := 146) 0 d_R_least_146 rfl rfl ?_
      obtain ⟨fs, v7, hx, hv, hw⟩ := hw
      refine bj_get (pc := 147) (ci := 7) (k := 2) (fs := fs) (v := .ref v7) d_R_least_147 rfl (by decide) q_750 hx hv ?_
      refine bj_iload_n (pc := 150) 1 d_R_least_150 rfl rfl ?_
      obtain ⟨n, f, v8, hx, hin, hv, hw⟩ := hw
      refine bj_iald (pc := 151) (n := n) (f := f) d_R_least_151 hx hin hv ?_
      obtain ⟨n, f, hx, hin, hw⟩ := hw
      refine bj_iast (pc := 152) (n := n) (f := f) d_R_least_152 hx hin ?_
      refine bj_iinc (pc := 153) (v := (x1 + 1)) (lo' := [(1, .int (x1 + 1)), (0, .ref x0)]) 1 d_R_least_153 rfl rfl (by decide) rfl ?_
      refine bj_goto (pc := 156) (tgt := 133) d_R_least_156 (by decide) ?_
      refine bj_sub [1, 0] (lo' := [(0, .ref x0), (1, .int (x1 + 1))]) rfl ?_
      exact hnx133 _ _ _ hw
theorem m_R_least_119 {l : Launch} {R : Room} {Φ : bs_R → bs_H → Prop} (hR : bs_rm 4 R) {nx90 : Nat → Int32 → bs_H → Prop} {nx97 : Nat → Int32 → Int32 → bs_H → Prop} (hnx90 : ∀ (x0 : Nat) (x1 : Int32) (h : bs_H), nx90 x0 x1 h → bs_J l K_R_least R Φ 90 [(0, .ref x0), (1, .int x1)] [] h) (hnx97 : ∀ (x0 : Nat) (x1 : Int32) (x2 : Int32) (h : bs_H), nx97 x0 x1 x2 h → bs_J l K_R_least R Φ 97 [(0, .ref x0), (1, .int x1), (2, .int x2)] [] h) {x0 : Nat} {x1 : Int32} {x2 : Int32} {h : bs_H} (hw : w_R_least_119 Φ nx90 nx97 x0 x1 x2 h) : bs_J l K_R_least R Φ 119 [(0, .ref x0), (1, .int x1), (2, .int x2)] [] h := by
  unfold w_R_least_119 at hw
  refine bj_iinc (pc := 119) (v := (x2 + 1)) (lo' := [(2, .int (x2 + 1)), (0, .ref x0), (1, .int x1)]) 2 d_R_least_119 rfl rfl (by decide) rfl ?_
  refine bj_goto (pc := 122) (tgt := 97) d_R_least_122 (by decide) ?_
  refine bj_sub [1, 2, 0] (lo' := [(0, .ref x0), (1, .int x1), (2, .int (x2 + 1))]) rfl ?_
  exact hnx97 _ _ _ _ hw
theorem m_R_least_97 {l : Launch} {R : Room} {Φ : bs_R → bs_H → Prop} (hR : bs_rm 4 R) {nx90 : Nat → Int32 → bs_H → Prop} (hnx90 : ∀ (x0 : Nat) (x1 : Int32) (h : bs_H), nx90 x0 x1 h → bs_J l K_R_least R Φ 90 [(0, .ref x0), (1, .int x1)] [] h) : ∀ (n : Nat) (x0 : Nat) (x1 : Int32) (x2 : Int32) (h : bs_H), w_R_least_97 Φ nx90 n x0 x1 x2 h → bs_J l K_R_least R Φ 97 [(0, .ref x0), (1, .int x1), (2, .int x2)] [] h := by
  intro n
  induction n with
  | zero => intro x0 x1 x2 h hw; exact hw.elim
  | succ n ih =>
    have hnx97 := ih
    intro x0 x1 x2 h hw
    replace hw : w_R_least_97_s Φ nx90 (w_R_least_97 Φ nx90 n) x0 x1 x2 h := hw
    unfold w_R_least_97_s at hw
    refine bj_iload_n (pc := 97) 2 d_R_least_97 rfl rfl ?_
    refine bj_sipush (pc := 98) (v := 256) d_R_least_98 (by decide) ?_
    refine bj_icmp_ge (pc := 101) (tgt := 125) d_R_least_101 (by decide) (fun hc => ?_) (fun hc => ?_)
    · replace hw := hw.1 hc
      refine bj_iinc (pc := 125) (v := (x1 + 1)) (lo' := [(1, .int (x1 + 1)), (0, .ref x0), (2, .int x2)]) 1 d_R_least_125 rfl rfl (by decide) rfl ?_
      refine bj_goto (pc := 128) (tgt := 90) d_R_least_128 (by decide) ?_
      refine bj_sub [1, 0] (lo' := [(0, .ref x0), (1, .int (x1 + 1))]) rfl ?_
      exact hnx90 _ _ _ hw
    · replace hw := hw.2 hc
      refine bj_aload_n (pc := 104) 0 d_R_least_104 rfl rfl ?_
      obtain ⟨fs, v1, hx, hv, hw⟩ := hw
      refine bj_get (pc := 105) (ci := 7) (k := 24) (fs := fs) (v := .ref v1) d_R_least_105 rfl (by decide) q_772 hx hv ?_
      refine bj_iload_n (pc := 108) 2 d_R_least_108 rfl rfl ?_
      obtain ⟨n, f, v2, hx, hin, hv, hw⟩ := hw
      refine bj_iald (pc := 109) (n := n) (f := f) d_R_least_109 hx hin hv ?_
      refine bj_iload_n (pc := 110) 1 d_R_least_110 rfl rfl ?_
      refine bj_icmp_ne (pc := 111) (tgt := 119) d_R_least_111 (by decide) (fun hc => ?_) (fun hc => ?_)
      · replace hw := hw.2 hc
        exact m_R_least_119 hR hnx90 hnx97 hw
      · replace hw := hw.1 hc
        refine bj_aload_n (pc := 114) 0 d_R_least_114 rfl rfl ?_
        refine bj_iload_n (pc := 115) 2 d_R_least_115 rfl rfl ?_
        obtain ⟨⟨fs, hx⟩, hw⟩ := hw
        refine bj_callV (pc := 116) (np := 1) (K' := K_R_spread) (argsL := [.int x2]) (st := []) (d1 := 3) (ci := 7) (fs := fs) rfl d_R_least_116 (Or.inl q_987) q_989 rfl q_44 c_R_spread n_R_spread hR (by decide) (by decide) rfl (Nat.le_of_ble_eq_true rfl) rfl (Nat.le_of_ble_eq_true rfl) hx (fun R' hR' => m_R_spread hR' hw) (bs_kV_ok fun h3 hw => ?_) (fun _ _ z => z)
        exact m_R_least_119 hR hnx90 hnx97 hw
theorem m_R_least_90 {l : Launch} {R : Room} {Φ : bs_R → bs_H → Prop} (hR : bs_rm 4 R) : ∀ (n : Nat) (x0 : Nat) (x1 : Int32) (h : bs_H), w_R_least_90 Φ n x0 x1 h → bs_J l K_R_least R Φ 90 [(0, .ref x0), (1, .int x1)] [] h := by
  intro n
  induction n with
  | zero => intro x0 x1 h hw; exact hw.elim
  | succ n ih =>
    have hnx90 := ih
    intro x0 x1 h hw
    replace hw : w_R_least_90_s Φ (w_R_least_90 Φ n) x0 x1 h := hw
    unfold w_R_least_90_s at hw
    refine bj_iload_n (pc := 90) 1 d_R_least_90 rfl rfl ?_
    refine bj_iconst (pc := 91) (v := 4) d_R_least_91 (by decide) ?_
    refine bj_icmp_ge (pc := 92) (tgt := 131) d_R_least_92 (by decide) (fun hc => ?_) (fun hc => ?_)
    · replace hw := hw.1 hc
      refine bj_iconst (pc := 131) (v := 0) d_R_least_131 (by decide) ?_
      refine bj_istore_n (pc := 132) (lo' := [(1, .int 0), (0, .ref x0)]) d_R_least_132 rfl (by decide) rfl ?_
      refine bj_sub [1, 0] (lo' := [(0, .ref x0), (1, .int 0)]) rfl ?_
      exact m_R_least_133 hR 1000 _ _ _ hw
    · replace hw := hw.2 hc
      refine bj_iconst (pc := 95) (v := 0) d_R_least_95 (by decide) ?_
      refine bj_istore_n (pc := 96) (lo' := [(2, .int 0), (0, .ref x0), (1, .int x1)]) d_R_least_96 rfl (by decide) rfl ?_
      refine bj_sub [1, 2, 0] (lo' := [(0, .ref x0), (1, .int x1), (2, .int 0)]) rfl ?_
      exact m_R_least_97 hR hnx90 1000 _ _ _ _ hw
theorem m_R_least_57 {l : Launch} {R : Room} {Φ : bs_R → bs_H → Prop} (hR : bs_rm 4 R) : ∀ (n : Nat) (x0 : Nat) (x1 : Int32) (h : bs_H), w_R_least_57 Φ n x0 x1 h → bs_J l K_R_least R Φ 57 [(0, .ref x0), (1, .int x1)] [] h := by
  intro n
  induction n with
  | zero => intro x0 x1 h hw; exact hw.elim
  | succ n ih =>
    have hnx57 := ih
    intro x0 x1 h hw
    replace hw : w_R_least_57_s Φ (w_R_least_57 Φ n) x0 x1 h := hw
    unfold w_R_least_57_s at hw
    refine bj_iload_n (pc := 57) 1 d_R_least_57 rfl rfl ?_
    refine bj_aload_n (pc := 58) 0 d_R_least_58 rfl rfl ?_
    obtain ⟨fs, v1, hx, hv, hw⟩ := hw
    refine bj_get (pc := 59) (ci := 7) (k := 1) (fs := fs) (v := .int v1) d_R_least_59 rfl (by decide) q_749 hx hv ?_
    refine bj_icmp_ge (pc := 62) (tgt := 78) d_R_least_62 (by decide) (fun hc => ?_) (fun hc => ?_)
    · replace hw := hw.1 hc
      refine bj_aload_n (pc := 78) 0 d_R_least_78 rfl rfl ?_
      obtain ⟨fs, v2, hx, hv, hw⟩ := hw
      refine bj_get (pc := 79) (ci := 7) (k := 24) (fs := fs) (v := .ref v2) d_R_least_79 rfl (by decide) q_772 hx hv ?_
      refine bj_aload_n (pc := 82) 0 d_R_least_82 rfl rfl ?_
      obtain ⟨⟨fs, hx⟩, hw⟩ := hw
      refine bj_callV (pc := 83) (np := 0) (K' := K_R_code) (argsL := []) (st := [.ref v2]) (d1 := 1) (ci := 7) (fs := fs) rfl d_R_least_83 (Or.inl q_983) q_985 rfl q_43 c_R_code n_R_code hR (by decide) (by decide) rfl (Nat.le_of_ble_eq_true rfl) rfl (Nat.le_of_ble_eq_true rfl) hx (fun R' hR' => m_R_code hR' hw) (bs_kI_ok fun v3 h4 hw => ?_) (fun _ _ z => z)
      refine bj_iconst (pc := 86) (v := 0) d_R_least_86 (by decide) ?_
      obtain ⟨n, f, hx, hin, hw⟩ := hw
      refine bj_iast (pc := 87) (n := n) (f := f) d_R_least_87 hx hin ?_
      refine bj_iconst (pc := 88) (v := 0) d_R_least_88 (by decide) ?_
      refine bj_istore_n (pc := 89) (lo' := [(1, .int 0), (0, .ref x0)]) d_R_least_89 rfl (by decide) rfl ?_
      refine bj_sub [1, 0] (lo' := [(0, .ref x0), (1, .int 0)]) rfl ?_
      exact m_R_least_90 hR 1000 _ _ _ hw
    · replace hw := hw.2 hc
      refine bj_aload_n (pc := 65) 0 d_R_least_65 rfl rfl ?_
      obtain ⟨fs, v6, hx, hv, hw⟩ := hw
      refine bj_get (pc := 66) (ci := 7) (k := 25) (fs := fs) (v := .ref v6) d_R_least_66 rfl (by decide) q_773 hx hv ?_
      refine bj_iload_n (pc := 69) 1 d_R_least_69 rfl rfl ?_
      refine bj_iload_n (pc := 70) 1 d_R_least_70 rfl rfl ?_
      obtain ⟨n, f, hx, hin, hw⟩ := hw
      refine bj_iast (pc := 71) (n := n) (f := f) d_R_least_71 hx hin ?_
      refine bj_iinc (pc := 72) (v := (x1 + 1)) (lo' := [(1, .int (x1 + 1)), (0, .ref x0)]) 1 d_R_least_72 rfl rfl (by decide) rfl ?_
      refine bj_goto (pc := 75) (tgt := 57) d_R_least_75 (by decide) ?_
      refine bj_sub [1, 0] (lo' := [(0, .ref x0), (1, .int (x1 + 1))]) rfl ?_
      exact hnx57 _ _ _ hw
theorem m_R_least_35 {l : Launch} {R : Room} {Φ : bs_R → bs_H → Prop} (hR : bs_rm 4 R) : ∀ (n : Nat) (x0 : Nat) (x1 : Int32) (h : bs_H), w_R_least_35 Φ n x0 x1 h → bs_J l K_R_least R Φ 35 [(0, .ref x0), (1, .int x1)] [] h := by
  intro n
  induction n with
  | zero => intro x0 x1 h hw; exact hw.elim
  | succ n ih =>
    have hnx35 := ih
    intro x0 x1 h hw
    replace hw : w_R_least_35_s Φ (w_R_least_35 Φ n) x0 x1 h := hw
    unfold w_R_least_35_s at hw
    refine bj_iload_n (pc := 35) 1 d_R_least_35 rfl rfl ?_
    refine bj_sipush (pc := 36) (v := 256) d_R_least_36 (by decide) ?_
    refine bj_icmp_ge (pc := 39) (tgt := 55) d_R_least_39 (by decide) (fun hc => ?_) (fun hc => ?_)
    · replace hw := hw.1 hc
      refine bj_iconst (pc := 55) (v := 0) d_R_least_55 (by decide) ?_
      refine bj_istore_n (pc := 56) (lo' := [(1, .int 0), (0, .ref x0)]) d_R_least_56 rfl (by decide) rfl ?_
      refine bj_sub [1, 0] (lo' := [(0, .ref x0), (1, .int 0)]) rfl ?_
      exact m_R_least_57 hR 1000 _ _ _ hw
    · replace hw := hw.2 hc
      refine bj_aload_n (pc := 42) 0 d_R_least_42 rfl rfl ?_
      obtain ⟨fs, v1, hx, hv, hw⟩ := hw
      refine bj_get (pc := 43) (ci := 7) (k := 24) (fs := fs) (v := .ref v1) d_R_least_43 rfl (by decide) q_772 hx hv ?_
      refine bj_iload_n (pc := 46) 1 d_R_least_46 rfl rfl ?_
      refine bj_iconst (pc := 47) (v := (-1)) d_R_least_47 (by decide) ?_
      obtain ⟨n, f, hx, hin, hw⟩ := hw
      refine bj_iast (pc := 48) (n := n) (f := f) d_R_least_48 hx hin ?_
      refine bj_iinc (pc := 49) (v := (x1 + 1)) (lo' := [(1, .int (x1 + 1)), (0, .ref x0)]) 1 d_R_least_49 rfl rfl (by decide) rfl ?_
      refine bj_goto (pc := 52) (tgt := 35) d_R_least_52 (by decide) ?_
      refine bj_sub [1, 0] (lo' := [(0, .ref x0), (1, .int (x1 + 1))]) rfl ?_
      exact hnx35 _ _ _ hw
theorem m_R_least_21 {l : Launch} {R : Room} {Φ : bs_R → bs_H → Prop} (hR : bs_rm 4 R) {x0 : Nat} {s0 : Nat} {s1 : Int32} {h : bs_H} (hw : w_R_least_21 Φ x0 s0 s1 h) : bs_J l K_R_least R Φ 21 [(0, .ref x0)] [.int s1, .ref s0] h := by
  unfold w_R_least_21 at hw
  obtain ⟨fs, hx, hlen, hw⟩ := hw
  refine bj_put (pc := 21) (ci := 7) (k := 0) (fs := fs) (v := (.int s1)) (ty := .int) d_R_least_21 rfl (by decide) q_748 rfl (by decide +kernel) rfl rfl hx hlen ?_
  refine bj_aload_n (pc := 24) 0 d_R_least_24 rfl rfl ?_
  obtain ⟨fs, v2, hx, hv, hw⟩ := hw
  refine bj_get (pc := 25) (ci := 7) (k := 0) (fs := fs) (v := .int v2) d_R_least_25 rfl (by decide) q_748 hx hv ?_
  refine bj_if_eq (pc := 28) (tgt := 33) d_R_least_28 (by decide) (fun hc => ?_) (fun hc => ?_)
  · replace hw := hw.1 hc
    refine bj_iconst (pc := 33) (v := 0) d_R_least_33 (by decide) ?_
    refine bj_istore_n (pc := 34) (lo' := [(1, .int 0), (0, .ref x0)]) d_R_least_34 rfl (by decide) rfl ?_
    refine bj_sub [1, 0] (lo' := [(0, .ref x0), (1, .int 0)]) rfl ?_
    exact m_R_least_35 hR 1000 _ _ _ hw
  · replace hw := hw.2 hc
    refine bj_iconst (pc := 31) (v := 0) d_R_least_31 (by decide) ?_
    exact bj_iret (pc := 32) d_R_least_32 rfl hw
theorem m_R_least_16 {l : Launch} {R : Room} {Φ : bs_R → bs_H → Prop} (hR : bs_rm 4 R) {x0 : Nat} {s0 : Nat} {h : bs_H} (hw : w_R_least_16 Φ x0 s0 h) : bs_J l K_R_least R Φ 16 [(0, .ref x0)] [.ref s0] h := by
  unfold w_R_least_16 at hw
  refine bj_iconst (pc := 16) (v := 1) d_R_least_16 (by decide) ?_
  refine bj_goto (pc := 17) (tgt := 21) d_R_least_17 (by decide) ?_
  exact m_R_least_21 hR hw
theorem m_R_least {l : Launch} {R : Room} (hR : bs_rm 4 R) {Φ : bs_R → bs_H → Prop} {x0 : Nat} {h : bs_H} (hw : w_R_least Φ x0 h) : bs_J l K_R_least R Φ 0 [(0, .ref x0)] [] h := by
  unfold w_R_least at hw
  refine bj_aload_n (pc := 0) 0 d_R_least_0 rfl rfl ?_
  refine bj_aload_n (pc := 1) 0 d_R_least_1 rfl rfl ?_
  obtain ⟨⟨fs, hx⟩, hw⟩ := hw
  refine bj_callV (pc := 2) (np := 0) (K' := K_R_isPermutation) (argsL := []) (st := [.ref x0]) (d1 := 1) (ci := 7) (fs := fs) rfl d_R_least_2 (Or.inl q_855) q_857 rfl q_25 c_R_isPermutation n_R_isPermutation hR (by decide) (by decide) rfl (Nat.le_of_ble_eq_true rfl) rfl (Nat.le_of_ble_eq_true rfl) hx (fun R' hR' => m_R_isPermutation hR' hw) (bs_kI_ok fun v1 h2 hw => ?_) (fun _ _ z => z)
  refine bj_if_eq (pc := 5) (tgt := 16) d_R_least_5 (by decide) (fun hc => ?_) (fun hc => ?_)
  · replace hw := hw.1 hc
    exact m_R_least_16 hR hw
  · replace hw := hw.2 hc
    refine bj_aload_n (pc := 8) 0 d_R_least_8 rfl rfl ?_
    obtain ⟨fs, v3, hx, hv, hw⟩ := hw
    refine bj_get (pc := 9) (ci := 7) (k := 1) (fs := fs) (v := .int v3) d_R_least_9 rfl (by decide) q_749 hx hv ?_
    refine bj_iconst (pc := 12) (v := 4) d_R_least_12 (by decide) ?_
    refine bj_icmp_le (pc := 13) (tgt := 20) d_R_least_13 (by decide) (fun hc => ?_) (fun hc => ?_)
    · replace hw := hw.1 hc
      refine bj_iconst (pc := 20) (v := 0) d_R_least_20 (by decide) ?_
      exact m_R_least_21 hR hw
    · replace hw := hw.2 hc
      exact m_R_least_16 hR hw
