/-! Decode rows, meanings and rows of: R_keep, M_becomeJoined, B_join, L_join, R_join, M_becomeInverse, B_invert, L_invert, R_invert, B_fieldsOf, B_canArrange, B_fewestSwaps, B_least. Written by program. -/
theorem d_R_keep_0 : decode prog_9_method_37_code 0 = .ok (.aload_n 0, 1) := by decide +kernel
theorem d_R_keep_1 : decode prog_9_method_37_code 1 = .ok (.aload_n 0, 1) := by decide +kernel
theorem d_R_keep_2 : decode prog_9_method_37_code 2 = .ok (.getfield 164, 3) := by decide +kernel
theorem d_R_keep_5 : decode prog_9_method_37_code 5 = .ok (.bipush 8, 2) := by decide +kernel
theorem d_R_keep_7 : decode prog_9_method_37_code 7 = .ok (.if_icmp .ne 7, 3) := by decide +kernel
theorem d_R_keep_10 : decode prog_9_method_37_code 10 = .ok (.iconst 1, 1) := by decide +kernel
theorem d_R_keep_11 : decode prog_9_method_37_code 11 = .ok (.goto 4, 3) := by decide +kernel
theorem d_R_keep_14 : decode prog_9_method_37_code 14 = .ok (.iconst 0, 1) := by decide +kernel
theorem d_R_keep_15 : decode prog_9_method_37_code 15 = .ok (.putfield 85, 3) := by decide +kernel
theorem d_R_keep_18 : decode prog_9_method_37_code 18 = .ok (.aload_n 0, 1) := by decide +kernel
theorem d_R_keep_19 : decode prog_9_method_37_code 19 = .ok (.getfield 85, 3) := by decide +kernel
theorem d_R_keep_22 : decode prog_9_method_37_code 22 = .ok (.ifCond .eq 5, 3) := by decide +kernel
theorem d_R_keep_25 : decode prog_9_method_37_code 25 = .ok (.iconst 0, 1) := by decide +kernel
theorem d_R_keep_26 : decode prog_9_method_37_code 26 = .ok (.ireturn, 1) := by decide +kernel
theorem d_R_keep_27 : decode prog_9_method_37_code 27 = .ok (.aload_n 0, 1) := by decide +kernel
theorem d_R_keep_28 : decode prog_9_method_37_code 28 = .ok (.getfield 23, 3) := by decide +kernel
theorem d_R_keep_31 : decode prog_9_method_37_code 31 = .ok (.aload_n 0, 1) := by decide +kernel
theorem d_R_keep_32 : decode prog_9_method_37_code 32 = .ok (.getfield 164, 3) := by decide +kernel
theorem d_R_keep_35 : decode prog_9_method_37_code 35 = .ok (.aload_n 0, 1) := by decide +kernel
theorem d_R_keep_36 : decode prog_9_method_37_code 36 = .ok (.getfield 89, 3) := by decide +kernel
theorem d_R_keep_39 : decode prog_9_method_37_code 39 = .ok (.iastore, 1) := by decide +kernel
theorem d_R_keep_40 : decode prog_9_method_37_code 40 = .ok (.iconst 0, 1) := by decide +kernel
theorem d_R_keep_41 : decode prog_9_method_37_code 41 = .ok (.istore_n 1, 1) := by decide +kernel
theorem d_R_keep_42 : decode prog_9_method_37_code 42 = .ok (.iload_n 1, 1) := by decide +kernel
theorem d_R_keep_43 : decode prog_9_method_37_code 43 = .ok (.bipush 64, 2) := by decide +kernel
theorem d_R_keep_45 : decode prog_9_method_37_code 45 = .ok (.if_icmp .ge 29, 3) := by decide +kernel
theorem d_R_keep_48 : decode prog_9_method_37_code 48 = .ok (.aload_n 0, 1) := by decide +kernel
theorem d_R_keep_49 : decode prog_9_method_37_code 49 = .ok (.getfield 26, 3) := by decide +kernel
theorem d_R_keep_52 : decode prog_9_method_37_code 52 = .ok (.bipush 64, 2) := by decide +kernel
theorem d_R_keep_54 : decode prog_9_method_37_code 54 = .ok (.aload_n 0, 1) := by decide +kernel
theorem d_R_keep_55 : decode prog_9_method_37_code 55 = .ok (.getfield 164, 3) := by decide +kernel
theorem d_R_keep_58 : decode prog_9_method_37_code 58 = .ok (.imul, 1) := by decide +kernel
theorem d_R_keep_59 : decode prog_9_method_37_code 59 = .ok (.iload_n 1, 1) := by decide +kernel
theorem d_R_keep_60 : decode prog_9_method_37_code 60 = .ok (.iadd, 1) := by decide +kernel
theorem d_R_keep_61 : decode prog_9_method_37_code 61 = .ok (.aload_n 0, 1) := by decide +kernel
theorem d_R_keep_62 : decode prog_9_method_37_code 62 = .ok (.getfield 7, 3) := by decide +kernel
theorem d_R_keep_65 : decode prog_9_method_37_code 65 = .ok (.iload_n 1, 1) := by decide +kernel
theorem d_R_keep_66 : decode prog_9_method_37_code 66 = .ok (.iaload, 1) := by decide +kernel
theorem d_R_keep_67 : decode prog_9_method_37_code 67 = .ok (.iastore, 1) := by decide +kernel
theorem d_R_keep_68 : decode prog_9_method_37_code 68 = .ok (.iinc 1 1, 3) := by decide +kernel
theorem d_R_keep_71 : decode prog_9_method_37_code 71 = .ok (.goto (-29), 3) := by decide +kernel
theorem d_R_keep_74 : decode prog_9_method_37_code 74 = .ok (.aload_n 0, 1) := by decide +kernel
theorem d_R_keep_75 : decode prog_9_method_37_code 75 = .ok (.dup, 1) := by decide +kernel
theorem d_R_keep_76 : decode prog_9_method_37_code 76 = .ok (.getfield 164, 3) := by decide +kernel
theorem d_R_keep_79 : decode prog_9_method_37_code 79 = .ok (.iconst 1, 1) := by decide +kernel
theorem d_R_keep_80 : decode prog_9_method_37_code 80 = .ok (.iadd, 1) := by decide +kernel
theorem d_R_keep_81 : decode prog_9_method_37_code 81 = .ok (.putfield 164, 3) := by decide +kernel
theorem d_R_keep_84 : decode prog_9_method_37_code 84 = .ok (.aload_n 0, 1) := by decide +kernel
theorem d_R_keep_85 : decode prog_9_method_37_code 85 = .ok (.getfield 164, 3) := by decide +kernel
theorem d_R_keep_88 : decode prog_9_method_37_code 88 = .ok (.iconst 1, 1) := by decide +kernel
theorem d_R_keep_89 : decode prog_9_method_37_code 89 = .ok (.isub, 1) := by decide +kernel
theorem d_R_keep_90 : decode prog_9_method_37_code 90 = .ok (.ireturn, 1) := by decide +kernel
def w_R_keep_42_s (Φ : bs_R → bs_H → Prop) (nx42 : Nat → Int32 → bs_H → Prop) (x0 : Nat) (x1 : Int32) (h : bs_H) : Prop :=
  bs_if ((64 : Int32) ≤ x1) (bs_fI h x0 7 7 (fun v1 => bs_p h x0 7 7 (.int (v1 + 1)) (fun h2 => bs_fI h2 x0 7 7 (fun v3 => Φ (.ok (some (.int (v3 - 1)))) h2)))) (bs_fA h x0 7 9 (fun v4 => bs_fI h x0 7 7 (fun v5 => bs_fA h x0 7 2 (fun v6 => bs_lI h v6 x1 (fun v7 => bs_sI h v4 (((64 : Int32) * v5) + x1) v7 (fun h8 => nx42 x0 (x1 + 1) h8))))))
def w_R_keep_42 (Φ : bs_R → bs_H → Prop) : Nat → Nat → Int32 → bs_H → Prop
  | 0 => fun _ _ _ => False
  | n + 1 => fun x0 x1 h => w_R_keep_42_s Φ (w_R_keep_42 Φ n) x0 x1 h
def w_R_keep_15 (Φ : bs_R → bs_H → Prop) (x0 : Nat) (s0 : Nat) (s1 : Int32) (h : bs_H) : Prop :=
  bs_p h s0 7 0 (.int s1) (fun h1 => bs_fI h1 x0 7 0 (fun v2 => bs_if (v2 = 0) (bs_fA h1 x0 7 8 (fun v3 => bs_fI h1 x0 7 7 (fun v4 => bs_fI h1 x0 7 1 (fun v5 => bs_sI h1 v3 v4 v5 (fun h6 => w_R_keep_42 Φ 1000 x0 0 h6))))) (Φ (.ok (some (.int 0))) h1)))
def w_R_keep (Φ : bs_R → bs_H → Prop) (x0 : Nat) (h : bs_H) : Prop :=
  bs_fI h x0 7 7 (fun v1 => bs_if (v1 = 8) (w_R_keep_15 Φ x0 x0 1 h) (w_R_keep_15 Φ x0 x0 0 h))
theorem m_R_keep_42 {l : Launch} {R : Room} {Φ : bs_R → bs_H → Prop} (hR : bs_rm 1 R) : ∀ (n : Nat) (x0 : Nat) (x1 : Int32) (h : bs_H), w_R_keep_42 Φ n x0 x1 h → bs_J l K_R_keep R Φ 42 [(0, .ref x0), (1, .int x1)] [] h := by
  intro n
  induction n with
  | zero => intro x0 x1 h hw; exact hw.elim
  | succ n ih =>
    have hnx42 := ih
    intro x0 x1 h hw
    replace hw : w_R_keep_42_s Φ (w_R_keep_42 Φ n) x0 x1 h := hw
    unfold w_R_keep_42_s at hw
    refine bj_iload_n (pc := 42) 1 d_R_keep_42 rfl rfl ?_
    refine bj_bipush (pc := 43) (v := 64) d_R_keep_43 (by decide) ?_
    refine bj_icmp_ge (pc := 45) (tgt := 74) d_R_keep_45 (by decide) (fun hc => ?_) (fun hc => ?_)
    · replace hw := hw.1 hc
      refine bj_aload_n (pc := 74) 0 d_R_keep_74 rfl rfl ?_
      refine bj_dup (pc := 75) d_R_keep_75 rfl ?_
      obtain ⟨fs, v1, hx, hv, hw⟩ := hw
      refine bj_get (pc := 76) (ci := 7) (k := 7) (fs := fs) (v := .int v1) d_R_keep_76 rfl (by decide) q_755 hx hv ?_
      refine bj_iconst (pc := 79) (v := 1) d_R_keep_79 (by decide) ?_
      refine bj_iadd (pc := 80) d_R_keep_80 ?_
      obtain ⟨fs, hx, hlen, hw⟩ := hw
      refine bj_put (pc := 81) (ci := 7) (k := 7) (fs := fs) (v := (.int (v1 + 1))) (ty := .int) d_R_keep_81 rfl (by decide) q_755 rfl (by decide +kernel) rfl rfl hx hlen ?_
      refine bj_aload_n (pc := 84) 0 d_R_keep_84 rfl rfl ?_
      obtain ⟨fs, v3, hx, hv, hw⟩ := hw
      refine bj_get (pc := 85) (ci := 7) (k := 7) (fs := fs) (v := .int v3) d_R_keep_85 rfl (by decide) q_755 hx hv ?_
      refine bj_iconst (pc := 88) (v := 1) d_R_keep_88 (by decide) ?_
      refine bj_isub (pc := 89) d_R_keep_89 ?_
      exact bj_iret (pc := 90) d_R_keep_90 rfl hw
    · replace hw := hw.2 hc
      refine bj_aload_n (pc := 48) 0 d_R_keep_48 rfl rfl ?_
      obtain ⟨fs, v4, hx, hv, hw⟩ := hw
      refine bj_get (pc := 49) (ci := 7) (k := 9) (fs := fs) (v := .ref v4) d_R_keep_49 rfl (by decide) q_757 hx hv ?_
      refine bj_bipush (pc := 52) (v := 64) d_R_keep_52 (by decide) ?_
      refine bj_aload_n (pc := 54) 0 d_R_keep_54 rfl rfl ?_
      obtain ⟨fs, v5, hx, hv, hw⟩ := hw
      refine bj_get (pc := 55) (ci := 7) (k := 7) (fs := fs) (v := .int v5) d_R_keep_55 rfl (by decide) q_755 hx hv ?_
      refine bj_imul (pc := 58) d_R_keep_58 ?_
      refine bj_iload_n (pc := 59) 1 d_R_keep_59 rfl rfl ?_
      refine bj_iadd (pc := 60) d_R_keep_60 ?_
      refine bj_aload_n (pc := 61) 0 d_R_keep_61 rfl rfl ?_
      obtain ⟨fs, v6, hx, hv, hw⟩ := hw
      refine bj_get (pc := 62) (ci := 7) (k := 2) (fs := fs) (v := .ref v6) d_R_keep_62 rfl (by decide) q_750 hx hv ?_
      refine bj_iload_n (pc := 65) 1 d_R_keep_65 rfl rfl ?_
      obtain ⟨n, f, v7, hx, hin, hv, hw⟩ := hw
      refine bj_iald (pc := 66) (n := n) (f := f) d_R_keep_66 hx hin hv ?_
      obtain ⟨n, f, hx, hin, hw⟩ := hw
      refine bj_iast (pc := 67) (n := n) (f := f) d_R_keep_67 hx hin ?_
      refine bj_iinc (pc := 68) (v := (x1 + 1)) (lo' := [(1, .int (x1 + 1)), (0, .ref x0)]) 1 d_R_keep_68 rfl rfl (by decide) rfl ?_
      refine bj_goto (pc := 71) (tgt := 42) d_R_keep_71 (by decide) ?_
      refine bj_sub [1, 0] (lo' := [(0, .ref x0), (1, .int (x1 + 1))]) rfl ?_
      exact hnx42 _ _ _ hw
theorem m_R_keep_15 {l : Launch} {R : Room} {Φ : bs_R → bs_H → Prop} (hR : bs_rm 1 R) {x0 : Nat} {s0 : Nat} {s1 : Int32} {h : bs_H} (hw : w_R_keep_15 Φ x0 s0 s1 h) : bs_J l K_R_keep R Φ 15 [(0, .ref x0)] [.int s1, .ref s0] h := by
  unfold w_R_keep_15 at hw
  obtain ⟨fs, hx, hlen, hw⟩ := hw
  refine bj_put (pc := 15) (ci := 7) (k := 0) (fs := fs) (v := (.int s1)) (ty := .int) d_R_keep_15 rfl (by decide) q_748 rfl (by decide +kernel) rfl rfl hx hlen ?_
  refine bj_aload_n (pc := 18) 0 d_R_keep_18 rfl rfl ?_
  obtain ⟨fs, v2, hx, hv, hw⟩ := hw
  refine bj_get (pc := 19) (ci := 7) (k := 0) (fs := fs) (v := .int v2) d_R_keep_19 rfl (by decide) q_748 hx hv ?_
  refine bj_if_eq (pc := 22) (tgt := 27) d_R_keep_22 (by decide) (fun hc => ?_) (fun hc => ?_)
  · replace hw := hw.1 hc
    refine bj_aload_n (pc := 27) 0 d_R_keep_27 rfl rfl ?_
    obtain ⟨fs, v3, hx, hv, hw⟩ := hw
    refine bj_get (pc := 28) (ci := 7) (k := 8) (fs := fs) (v := .ref v3) d_R_keep_28 rfl (by decide) q_756 hx hv ?_
    refine bj_aload_n (pc := 31) 0 d_R_keep_31 rfl rfl ?_
    obtain ⟨fs, v4, hx, hv, hw⟩ := hw
    refine bj_get (pc := 32) (ci := 7) (k := 7) (fs := fs) (v := .int v4) d_R_keep_32 rfl (by decide) q_755 hx hv ?_
    refine bj_aload_n (pc := 35) 0 d_R_keep_35 rfl rfl ?_
    obtain ⟨fs, v5, hx, hv, hw⟩ := hw
    refine bj_get (pc := 36) (ci := 7) (k := 1) (fs := fs) (v := .int v5) d_R_keep_36 rfl (by decide) q_749 hx hv ?_
    obtain ⟨n, f, hx, hin, hw⟩ := hw
    refine bj_iast (pc := 39) (n := n) (f := f) d_R_keep_39 hx hin ?_
    refine bj_iconst (pc := 40) (v := 0) d_R_keep_40 (by decide) ?_
    refine bj_istore_n (pc := 41) (lo' := [(1, .int 0), (0, .ref x0)]) d_R_keep_41 rfl (by decide) rfl ?_
    refine bj_sub [1, 0] (lo' := [(0, .ref x0), (1, .int 0)]) rfl ?_
    exact m_R_keep_42 hR 1000 _ _ _ hw
  · replace hw := hw.2 hc
    refine bj_iconst (pc := 25) (v := 0) d_R_keep_25 (by decide) ?_
    exact bj_iret (pc := 26) d_R_keep_26 rfl hw
theorem m_R_keep {l : Launch} {R : Room} (hR : bs_rm 1 R) {Φ : bs_R → bs_H → Prop} {x0 : Nat} {h : bs_H} (hw : w_R_keep Φ x0 h) : bs_J l K_R_keep R Φ 0 [(0, .ref x0)] [] h := by
  unfold w_R_keep at hw
  refine bj_aload_n (pc := 0) 0 d_R_keep_0 rfl rfl ?_
  refine bj_aload_n (pc := 1) 0 d_R_keep_1 rfl rfl ?_
  obtain ⟨fs, v1, hx, hv, hw⟩ := hw
  refine bj_get (pc := 2) (ci := 7) (k := 7) (fs := fs) (v := .int v1) d_R_keep_2 rfl (by decide) q_755 hx hv ?_
  refine bj_bipush (pc := 5) (v := 8) d_R_keep_5 (by decide) ?_
  refine bj_icmp_ne (pc := 7) (tgt := 14) d_R_keep_7 (by decide) (fun hc => ?_) (fun hc => ?_)
  · replace hw := hw.2 hc
    refine bj_iconst (pc := 14) (v := 0) d_R_keep_14 (by decide) ?_
    exact m_R_keep_15 hR hw
  · replace hw := hw.1 hc
    refine bj_iconst (pc := 10) (v := 1) d_R_keep_10 (by decide) ?_
    refine bj_goto (pc := 11) (tgt := 15) d_R_keep_11 (by decide) ?_
    exact m_R_keep_15 hR hw
theorem d_M_becomeJoined_0 : decode prog_2_method_9_code 0 = .ok (.aload_n 0, 1) := by decide +kernel
theorem d_M_becomeJoined_1 : decode prog_2_method_9_code 1 = .ok (.aload_n 2, 1) := by decide +kernel
theorem d_M_becomeJoined_2 : decode prog_2_method_9_code 2 = .ok (.getfield 15, 3) := by decide +kernel
theorem d_M_becomeJoined_5 : decode prog_2_method_9_code 5 = .ok (.putfield 15, 3) := by decide +kernel
theorem d_M_becomeJoined_8 : decode prog_2_method_9_code 8 = .ok (.iconst 0, 1) := by decide +kernel
theorem d_M_becomeJoined_9 : decode prog_2_method_9_code 9 = .ok (.istore_n 3, 1) := by decide +kernel
theorem d_M_becomeJoined_10 : decode prog_2_method_9_code 10 = .ok (.iload_n 3, 1) := by decide +kernel
theorem d_M_becomeJoined_11 : decode prog_2_method_9_code 11 = .ok (.aload_n 0, 1) := by decide +kernel
theorem d_M_becomeJoined_12 : decode prog_2_method_9_code 12 = .ok (.getfield 15, 3) := by decide +kernel
theorem d_M_becomeJoined_15 : decode prog_2_method_9_code 15 = .ok (.if_icmp .ge 43, 3) := by decide +kernel
theorem d_M_becomeJoined_18 : decode prog_2_method_9_code 18 = .ok (.aload_n 0, 1) := by decide +kernel
theorem d_M_becomeJoined_19 : decode prog_2_method_9_code 19 = .ok (.getfield 9, 3) := by decide +kernel
theorem d_M_becomeJoined_22 : decode prog_2_method_9_code 22 = .ok (.iload_n 3, 1) := by decide +kernel
theorem d_M_becomeJoined_23 : decode prog_2_method_9_code 23 = .ok (.aload_n 2, 1) := by decide +kernel
theorem d_M_becomeJoined_24 : decode prog_2_method_9_code 24 = .ok (.iload_n 3, 1) := by decide +kernel
theorem d_M_becomeJoined_25 : decode prog_2_method_9_code 25 = .ok (.invokevirtual 29, 3) := by decide +kernel
theorem d_M_becomeJoined_28 : decode prog_2_method_9_code 28 = .ok (.ifCond .eq 17, 3) := by decide +kernel
theorem d_M_becomeJoined_31 : decode prog_2_method_9_code 31 = .ok (.aload_n 1, 1) := by decide +kernel
theorem d_M_becomeJoined_32 : decode prog_2_method_9_code 32 = .ok (.getfield 9, 3) := by decide +kernel
theorem d_M_becomeJoined_35 : decode prog_2_method_9_code 35 = .ok (.aload_n 2, 1) := by decide +kernel
theorem d_M_becomeJoined_36 : decode prog_2_method_9_code 36 = .ok (.getfield 9, 3) := by decide +kernel
theorem d_M_becomeJoined_39 : decode prog_2_method_9_code 39 = .ok (.iload_n 3, 1) := by decide +kernel
theorem d_M_becomeJoined_40 : decode prog_2_method_9_code 40 = .ok (.iaload, 1) := by decide +kernel
theorem d_M_becomeJoined_41 : decode prog_2_method_9_code 41 = .ok (.iaload, 1) := by decide +kernel
theorem d_M_becomeJoined_42 : decode prog_2_method_9_code 42 = .ok (.goto 9, 3) := by decide +kernel
theorem d_M_becomeJoined_45 : decode prog_2_method_9_code 45 = .ok (.aload_n 2, 1) := by decide +kernel
theorem d_M_becomeJoined_46 : decode prog_2_method_9_code 46 = .ok (.getfield 9, 3) := by decide +kernel
theorem d_M_becomeJoined_49 : decode prog_2_method_9_code 49 = .ok (.iload_n 3, 1) := by decide +kernel
theorem d_M_becomeJoined_50 : decode prog_2_method_9_code 50 = .ok (.iaload, 1) := by decide +kernel
theorem d_M_becomeJoined_51 : decode prog_2_method_9_code 51 = .ok (.iastore, 1) := by decide +kernel
theorem d_M_becomeJoined_52 : decode prog_2_method_9_code 52 = .ok (.iinc 3 1, 3) := by decide +kernel
theorem d_M_becomeJoined_55 : decode prog_2_method_9_code 55 = .ok (.goto (-45), 3) := by decide +kernel
theorem d_M_becomeJoined_58 : decode prog_2_method_9_code 58 = .ok (.return_, 1) := by decide +kernel
def w_M_becomeJoined_51 (Φ : bs_R → bs_H → Prop) (nx10 : Nat → Nat → Nat → Int32 → bs_H → Prop) (x0 : Nat) (x1 : Nat) (x2 : Nat) (x3 : Int32) (s0 : Nat) (s1 : Int32) (s2 : Int32) (h : bs_H) : Prop :=
  bs_sI h s0 s1 s2 (fun h1 => nx10 x0 x1 x2 (x3 + 1) h1)
def w_M_becomeJoined_10_s (Φ : bs_R → bs_H → Prop) (nx10 : Nat → Nat → Nat → Int32 → bs_H → Prop) (x0 : Nat) (x1 : Nat) (x2 : Nat) (x3 : Int32) (h : bs_H) : Prop :=
  bs_fI h x0 1 1 (fun v1 => bs_if (v1 ≤ x3) (Φ (.ok none) h) (bs_fA h x0 1 0 (fun v2 => bs_on h x2 1 (w_M_comesFromWord (bs_kI Φ fun v3 h4 => (bs_if (v3 = 0) (bs_fA h4 x2 1 0 (fun v5 => bs_lI h4 v5 x3 (fun v6 => w_M_becomeJoined_51 Φ nx10 x0 x1 x2 x3 v2 x3 v6 h4))) (bs_fA h4 x1 1 0 (fun v7 => bs_fA h4 x2 1 0 (fun v8 => bs_lI h4 v8 x3 (fun v9 => bs_lI h4 v7 v9 (fun v10 => w_M_becomeJoined_51 Φ nx10 x0 x1 x2 x3 v2 x3 v10 h4))))))) x2 x3 h))))
def w_M_becomeJoined_10 (Φ : bs_R → bs_H → Prop) : Nat → Nat → Nat → Nat → Int32 → bs_H → Prop
  | 0 => fun _ _ _ _ _ => False
  | n + 1 => fun x0 x1 x2 x3 h => w_M_becomeJoined_10_s Φ (w_M_becomeJoined_10 Φ n) x0 x1 x2 x3 h
def w_M_becomeJoined (Φ : bs_R → bs_H → Prop) (x0 : Nat) (x1 : Nat) (x2 : Nat) (h : bs_H) : Prop :=
  bs_fI h x2 1 1 (fun v1 => bs_p h x0 1 1 (.int v1) (fun h2 => w_M_becomeJoined_10 Φ 1000 x0 x1 x2 0 h2))
theorem m_M_becomeJoined_51 {l : Launch} {R : Room} {Φ : bs_R → bs_H → Prop} (hR : bs_rm 2 R) {nx10 : Nat → Nat → Nat → Int32 → bs_H → Prop} (hnx10 : ∀ (x0 : Nat) (x1 : Nat) (x2 : Nat) (x3 : Int32) (h : bs_H), nx10 x0 x1 x2 x3 h → bs_J l K_M_becomeJoined R Φ 10 [(0, .ref x0), (1, .ref x1), (2, .ref x2), (3, .int x3)] [] h) {x0 : Nat} {x1 : Nat} {x2 : Nat} {x3 : Int32} {s0 : Nat} {s1 : Int32} {s2 : Int32} {h : bs_H} (hw : w_M_becomeJoined_51 Φ nx10 x0 x1 x2 x3 s0 s1 s2 h) : bs_J l K_M_becomeJoined R Φ 51 [(0, .ref x0), (1, .ref x1), (2, .ref x2), (3, .int x3)] [.int s2, .int s1, .ref s0] h := by
  unfold w_M_becomeJoined_51 at hw
  obtain ⟨n, f, hx, hin, hw⟩ := hw
  refine bj_iast (pc := 51) (n := n) (f := f) d_M_becomeJoined_51 hx hin ?_
  refine bj_iinc (pc := 52) (v := (x3 + 1)) (lo' := [(3, .int (x3 + 1)), (0, .ref x0), (1, .ref x1), (2, .ref x2)]) 3 d_M_becomeJoined_52 rfl rfl (by decide) rfl ?_
  refine bj_goto (pc := 55) (tgt := 10) d_M_becomeJoined_55 (by decide) ?_
  refine bj_sub [1, 2, 3, 0] (lo' := [(0, .ref x0), (1, .ref x1), (2, .ref x2), (3, .int (x3 + 1))]) rfl ?_
  exact hnx10 _ _ _ _ _ hw
theorem m_M_becomeJoined_10 {l : Launch} {R : Room} {Φ : bs_R → bs_H → Prop} (hR : bs_rm 2 R) : ∀ (n : Nat) (x0 : Nat) (x1 : Nat) (x2 : Nat) (x3 : Int32) (h : bs_H), w_M_becomeJoined_10 Φ n x0 x1 x2 x3 h → bs_J l K_M_becomeJoined R Φ 10 [(0, .ref x0), (1, .ref x1), (2, .ref x2), (3, .int x3)] [] h := by
  intro n
  induction n with
  | zero => intro x0 x1 x2 x3 h hw; exact hw.elim
  | succ n ih =>
    have hnx10 := ih
    intro x0 x1 x2 x3 h hw
    replace hw : w_M_becomeJoined_10_s Φ (w_M_becomeJoined_10 Φ n) x0 x1 x2 x3 h := hw
    unfold w_M_becomeJoined_10_s at hw
    refine bj_iload_n (pc := 10) 3 d_M_becomeJoined_10 rfl rfl ?_
    refine bj_aload_n (pc := 11) 0 d_M_becomeJoined_11 rfl rfl ?_
    obtain ⟨fs, v1, hx, hv, hw⟩ := hw
    refine bj_get (pc := 12) (ci := 1) (k := 1) (fs := fs) (v := .int v1) d_M_becomeJoined_12 rfl (by decide) q_79 hx hv ?_
    refine bj_icmp_ge (pc := 15) (tgt := 58) d_M_becomeJoined_15 (by decide) (fun hc => ?_) (fun hc => ?_)
    · replace hw := hw.1 hc
      exact bj_vret (pc := 58) d_M_becomeJoined_58 rfl hw
    · replace hw := hw.2 hc
      refine bj_aload_n (pc := 18) 0 d_M_becomeJoined_18 rfl rfl ?_
      obtain ⟨fs, v2, hx, hv, hw⟩ := hw
      refine bj_get (pc := 19) (ci := 1) (k := 0) (fs := fs) (v := .ref v2) d_M_becomeJoined_19 rfl (by decide) q_78 hx hv ?_
      refine bj_iload_n (pc := 22) 3 d_M_becomeJoined_22 rfl rfl ?_
      refine bj_aload_n (pc := 23) 2 d_M_becomeJoined_23 rfl rfl ?_
      refine bj_iload_n (pc := 24) 3 d_M_becomeJoined_24 rfl rfl ?_
      obtain ⟨⟨fs, hx⟩, hw⟩ := hw
      refine bj_callV (pc := 25) (np := 1) (K' := K_M_comesFromWord) (argsL := [.int x3]) (st := [.int x3, .ref v2]) (d1 := 1) (ci := 1) (fs := fs) rfl d_M_becomeJoined_25 (Or.inl q_295) q_296 rfl q_297 c_M_comesFromWord n_M_comesFromWord hR (by decide) (by decide) rfl (Nat.le_of_ble_eq_true rfl) rfl (Nat.le_of_ble_eq_true rfl) hx (fun R' hR' => m_M_comesFromWord hR' hw) (bs_kI_ok fun v3 h4 hw => ?_) (fun _ _ z => z)
      refine bj_if_eq (pc := 28) (tgt := 45) d_M_becomeJoined_28 (by decide) (fun hc => ?_) (fun hc => ?_)
      · replace hw := hw.1 hc
        refine bj_aload_n (pc := 45) 2 d_M_becomeJoined_45 rfl rfl ?_
        obtain ⟨fs, v5, hx, hv, hw⟩ := hw
        refine bj_get (pc := 46) (ci := 1) (k := 0) (fs := fs) (v := .ref v5) d_M_becomeJoined_46 rfl (by decide) q_78 hx hv ?_
        refine bj_iload_n (pc := 49) 3 d_M_becomeJoined_49 rfl rfl ?_
        obtain ⟨n, f, v6, hx, hin, hv, hw⟩ := hw
        refine bj_iald (pc := 50) (n := n) (f := f) d_M_becomeJoined_50 hx hin hv ?_
        exact m_M_becomeJoined_51 hR hnx10 hw
      · replace hw := hw.2 hc
        refine bj_aload_n (pc := 31) 1 d_M_becomeJoined_31 rfl rfl ?_
        obtain ⟨fs, v7, hx, hv, hw⟩ := hw
        refine bj_get (pc := 32) (ci := 1) (k := 0) (fs := fs) (v := .ref v7) d_M_becomeJoined_32 rfl (by decide) q_78 hx hv ?_
        refine bj_aload_n (pc := 35) 2 d_M_becomeJoined_35 rfl rfl ?_
        obtain ⟨fs, v8, hx, hv, hw⟩ := hw
        refine bj_get (pc := 36) (ci := 1) (k := 0) (fs := fs) (v := .ref v8) d_M_becomeJoined_36 rfl (by decide) q_78 hx hv ?_
        refine bj_iload_n (pc := 39) 3 d_M_becomeJoined_39 rfl rfl ?_
        obtain ⟨n, f, v9, hx, hin, hv, hw⟩ := hw
        refine bj_iald (pc := 40) (n := n) (f := f) d_M_becomeJoined_40 hx hin hv ?_
        obtain ⟨n, f, v10, hx, hin, hv, hw⟩ := hw
        refine bj_iald (pc := 41) (n := n) (f := f) d_M_becomeJoined_41 hx hin hv ?_
        refine bj_goto (pc := 42) (tgt := 51) d_M_becomeJoined_42 (by decide) ?_
        exact m_M_becomeJoined_51 hR hnx10 hw
theorem m_M_becomeJoined {l : Launch} {R : Room} (hR : bs_rm 2 R) {Φ : bs_R → bs_H → Prop} {x0 : Nat} {x1 : Nat} {x2 : Nat} {h : bs_H} (hw : w_M_becomeJoined Φ x0 x1 x2 h) : bs_J l K_M_becomeJoined R Φ 0 [(0, .ref x0), (1, .ref x1), (2, .ref x2)] [] h := by
  unfold w_M_becomeJoined at hw
  refine bj_aload_n (pc := 0) 0 d_M_becomeJoined_0 rfl rfl ?_
  refine bj_aload_n (pc := 1) 2 d_M_becomeJoined_1 rfl rfl ?_
  obtain ⟨fs, v1, hx, hv, hw⟩ := hw
  refine bj_get (pc := 2) (ci := 1) (k := 1) (fs := fs) (v := .int v1) d_M_becomeJoined_2 rfl (by decide) q_79 hx hv ?_
  obtain ⟨fs, hx, hlen, hw⟩ := hw
  refine bj_put (pc := 5) (ci := 1) (k := 1) (fs := fs) (v := (.int v1)) (ty := .int) d_M_becomeJoined_5 rfl (by decide) q_79 rfl (by decide +kernel) rfl rfl hx hlen ?_
  refine bj_iconst (pc := 8) (v := 0) d_M_becomeJoined_8 (by decide) ?_
  refine bj_istore_n (pc := 9) (lo' := [(3, .int 0), (0, .ref x0), (1, .ref x1), (2, .ref x2)]) d_M_becomeJoined_9 rfl (by decide) rfl ?_
  refine bj_sub [1, 2, 3, 0] (lo' := [(0, .ref x0), (1, .ref x1), (2, .ref x2), (3, .int 0)]) rfl ?_
  exact m_M_becomeJoined_10 hR 1000 _ _ _ _ _ hw
theorem d_B_join_0 : decode prog_1_method_17_code 0 = .ok (.iload_n 1, 1) := by decide +kernel
theorem d_B_join_1 : decode prog_1_method_17_code 1 = .ok (.ifCond .lt 11, 3) := by decide +kernel
theorem d_B_join_4 : decode prog_1_method_17_code 4 = .ok (.iload_n 1, 1) := by decide +kernel
theorem d_B_join_5 : decode prog_1_method_17_code 5 = .ok (.aload_n 0, 1) := by decide +kernel
theorem d_B_join_6 : decode prog_1_method_17_code 6 = .ok (.getfield 23, 3) := by decide +kernel
theorem d_B_join_9 : decode prog_1_method_17_code 9 = .ok (.if_icmp .lt 11, 3) := by decide +kernel
theorem d_B_join_12 : decode prog_1_method_17_code 12 = .ok (.new 66, 3) := by decide +kernel
theorem d_B_join_15 : decode prog_1_method_17_code 15 = .ok (.dup, 1) := by decide +kernel
theorem d_B_join_16 : decode prog_1_method_17_code 16 = .ok (.invokespecial 68, 3) := by decide +kernel
theorem d_B_join_19 : decode prog_1_method_17_code 19 = .ok (.athrow, 1) := by decide +kernel
theorem d_B_join_20 : decode prog_1_method_17_code 20 = .ok (.aload_n 0, 1) := by decide +kernel
theorem d_B_join_21 : decode prog_1_method_17_code 21 = .ok (.getfield 19, 3) := by decide +kernel
theorem d_B_join_24 : decode prog_1_method_17_code 24 = .ok (.iload_n 1, 1) := by decide +kernel
theorem d_B_join_25 : decode prog_1_method_17_code 25 = .ok (.aaload, 1) := by decide +kernel
theorem d_B_join_26 : decode prog_1_method_17_code 26 = .ok (.invokevirtual 91, 3) := by decide +kernel
theorem d_B_join_29 : decode prog_1_method_17_code 29 = .ok (.aload_n 0, 1) := by decide +kernel
theorem d_B_join_30 : decode prog_1_method_17_code 30 = .ok (.getfield 12, 3) := by decide +kernel
theorem d_B_join_33 : decode prog_1_method_17_code 33 = .ok (.invokevirtual 91, 3) := by decide +kernel
theorem d_B_join_36 : decode prog_1_method_17_code 36 = .ok (.if_icmp .eq 11, 3) := by decide +kernel
theorem d_B_join_39 : decode prog_1_method_17_code 39 = .ok (.new 161, 3) := by decide +kernel
theorem d_B_join_42 : decode prog_1_method_17_code 42 = .ok (.dup, 1) := by decide +kernel
theorem d_B_join_43 : decode prog_1_method_17_code 43 = .ok (.invokespecial 163, 3) := by decide +kernel
theorem d_B_join_46 : decode prog_1_method_17_code 46 = .ok (.athrow, 1) := by decide +kernel
theorem d_B_join_47 : decode prog_1_method_17_code 47 = .ok (.aload_n 0, 1) := by decide +kernel
theorem d_B_join_48 : decode prog_1_method_17_code 48 = .ok (.getfield 16, 3) := by decide +kernel
theorem d_B_join_51 : decode prog_1_method_17_code 51 = .ok (.aload_n 0, 1) := by decide +kernel
theorem d_B_join_52 : decode prog_1_method_17_code 52 = .ok (.getfield 12, 3) := by decide +kernel
theorem d_B_join_55 : decode prog_1_method_17_code 55 = .ok (.invokevirtual 164, 3) := by decide +kernel
theorem d_B_join_58 : decode prog_1_method_17_code 58 = .ok (.aload_n 0, 1) := by decide +kernel
theorem d_B_join_59 : decode prog_1_method_17_code 59 = .ok (.getfield 12, 3) := by decide +kernel
theorem d_B_join_62 : decode prog_1_method_17_code 62 = .ok (.aload_n 0, 1) := by decide +kernel
theorem d_B_join_63 : decode prog_1_method_17_code 63 = .ok (.getfield 16, 3) := by decide +kernel
theorem d_B_join_66 : decode prog_1_method_17_code 66 = .ok (.aload_n 0, 1) := by decide +kernel
theorem d_B_join_67 : decode prog_1_method_17_code 67 = .ok (.getfield 19, 3) := by decide +kernel
theorem d_B_join_70 : decode prog_1_method_17_code 70 = .ok (.iload_n 1, 1) := by decide +kernel
theorem d_B_join_71 : decode prog_1_method_17_code 71 = .ok (.aaload, 1) := by decide +kernel
theorem d_B_join_72 : decode prog_1_method_17_code 72 = .ok (.invokevirtual 168, 3) := by decide +kernel
theorem d_B_join_75 : decode prog_1_method_17_code 75 = .ok (.return_, 1) := by decide +kernel
def w_B_join_12 (Φ : bs_R → bs_H → Prop) (h : bs_H) : Prop :=
  bs_th h Φ "java/lang/IllegalArgumentException"
def w_B_join (Φ : bs_R → bs_H → Prop) (x0 : Nat) (x1 : Int32) (h : bs_H) : Prop :=
  bs_if (x1 < 0) (w_B_join_12 Φ h) (bs_fI h x0 0 3 (fun v1 => bs_if (x1 < v1) (bs_fA h x0 0 2 (fun v2 => bs_lA h v2 x1 (fun v3 => bs_on h v3 1 (w_M_bits (bs_kI Φ fun v4 h5 => (bs_fA h5 x0 0 0 (fun v6 => bs_on h5 v6 1 (w_M_bits (bs_kI Φ fun v7 h8 => (bs_if (v4 = v7) (bs_fA h8 x0 0 1 (fun v9 => bs_fA h8 x0 0 0 (fun v10 => bs_on h8 v9 1 (w_M_becomeCopy (bs_kV Φ fun h11 => (bs_fA h11 x0 0 0 (fun v12 => bs_fA h11 x0 0 1 (fun v13 => bs_fA h11 x0 0 2 (fun v14 => bs_lA h11 v14 x1 (fun v15 => bs_on h11 v12 1 (w_M_becomeJoined (bs_kV Φ fun h16 => (Φ (.ok none) h16)) v12 v13 v15 h11))))))) v9 v10 h8)))) (bs_th h8 Φ "java/lang/IllegalStateException"))) v6 h5)))) v3 h)))) (w_B_join_12 Φ h)))
theorem m_B_join_12 {l : Launch} {R : Room} {Φ : bs_R → bs_H → Prop} (hR : bs_rm 3 R) {h : bs_H} (hw : w_B_join_12 Φ h) : bs_J l K_B_join R Φ 12 [] [] h := by
  unfold w_B_join_12 at hw
  obtain ⟨h1, h2, hw⟩ := hw
  exact bj_throw (pc := 12) (names := bs_up2) d_B_join_12 d_B_join_15 d_B_join_16 d_B_join_19 q_381 q_382 q_57 a_B_68 (by decide +kernel) (by decide +kernel) (by decide) rfl hR (Nat.le_of_ble_eq_true rfl) h1 h2 hw
theorem m_B_join {l : Launch} {R : Room} (hR : bs_rm 3 R) {Φ : bs_R → bs_H → Prop} {x0 : Nat} {x1 : Int32} {h : bs_H} (hw : w_B_join Φ x0 x1 h) : bs_J l K_B_join R Φ 0 [(0, .ref x0), (1, .int x1)] [] h := by
  unfold w_B_join at hw
  refine bj_iload_n (pc := 0) 1 d_B_join_0 rfl rfl ?_
  refine bj_if_lt (pc := 1) (tgt := 12) d_B_join_1 (by decide) (fun hc => ?_) (fun hc => ?_)
  · replace hw := hw.1 hc
    refine bj_sub [] (lo' := []) rfl ?_
    exact m_B_join_12 hR hw
  · replace hw := hw.2 hc
    refine bj_iload_n (pc := 4) 1 d_B_join_4 rfl rfl ?_
    refine bj_aload_n (pc := 5) 0 d_B_join_5 rfl rfl ?_
    obtain ⟨fs, v1, hx, hv, hw⟩ := hw
    refine bj_get (pc := 6) (ci := 0) (k := 3) (fs := fs) (v := .int v1) d_B_join_6 rfl (by decide) q_199 hx hv ?_
    refine bj_icmp_lt (pc := 9) (tgt := 20) d_B_join_9 (by decide) (fun hc => ?_) (fun hc => ?_)
    · replace hw := hw.1 hc
      refine bj_aload_n (pc := 20) 0 d_B_join_20 rfl rfl ?_
      obtain ⟨fs, v2, hx, hv, hw⟩ := hw
      refine bj_get (pc := 21) (ci := 0) (k := 2) (fs := fs) (v := .ref v2) d_B_join_21 rfl (by decide) q_198 hx hv ?_
      refine bj_iload_n (pc := 24) 1 d_B_join_24 rfl rfl ?_
      obtain ⟨n, f, v3, hx, hin, hv, hw⟩ := hw
      refine bj_aald (pc := 25) (n := n) (f := f) d_B_join_25 hx hin hv ?_
      obtain ⟨⟨fs, hx⟩, hw⟩ := hw
      refine bj_callV (pc := 26) (np := 0) (K' := K_M_bits) (argsL := []) (st := []) (d1 := 1) (ci := 1) (fs := fs) rfl d_B_join_26 (Or.inl q_236) q_237 rfl q_238 c_M_bits n_M_bits hR (by decide) (by decide) rfl (Nat.le_of_ble_eq_true rfl) rfl (Nat.le_of_ble_eq_true rfl) hx (fun R' hR' => m_M_bits hR' hw) (bs_kI_ok fun v4 h5 hw => ?_) (fun _ _ z => z)
      refine bj_aload_n (pc := 29) 0 d_B_join_29 rfl rfl ?_
      obtain ⟨fs, v6, hx, hv, hw⟩ := hw
      refine bj_get (pc := 30) (ci := 0) (k := 0) (fs := fs) (v := .ref v6) d_B_join_30 rfl (by decide) q_196 hx hv ?_
      obtain ⟨⟨fs, hx⟩, hw⟩ := hw
      refine bj_callV (pc := 33) (np := 0) (K' := K_M_bits) (argsL := []) (st := [.int v4]) (d1 := 1) (ci := 1) (fs := fs) rfl d_B_join_33 (Or.inl q_236) q_237 rfl q_238 c_M_bits n_M_bits hR (by decide) (by decide) rfl (Nat.le_of_ble_eq_true rfl) rfl (Nat.le_of_ble_eq_true rfl) hx (fun R' hR' => m_M_bits hR' hw) (bs_kI_ok fun v7 h8 hw => ?_) (fun _ _ z => z)
      refine bj_icmp_eq (pc := 36) (tgt := 47) d_B_join_36 (by decide) (fun hc => ?_) (fun hc => ?_)
      · replace hw := hw.1 hc
        refine bj_aload_n (pc := 47) 0 d_B_join_47 rfl rfl ?_
        obtain ⟨fs, v9, hx, hv, hw⟩ := hw
        refine bj_get (pc := 48) (ci := 0) (k := 1) (fs := fs) (v := .ref v9) d_B_join_48 rfl (by decide) q_197 hx hv ?_
        refine bj_aload_n (pc := 51) 0 d_B_join_51 rfl rfl ?_
        obtain ⟨fs, v10, hx, hv, hw⟩ := hw
        refine bj_get (pc := 52) (ci := 0) (k := 0) (fs := fs) (v := .ref v10) d_B_join_52 rfl (by decide) q_196 hx hv ?_
        obtain ⟨⟨fs, hx⟩, hw⟩ := hw
        refine bj_callV (pc := 55) (np := 1) (K' := K_M_becomeCopy) (argsL := [.ref v10]) (st := []) (d1 := 1) (ci := 1) (fs := fs) rfl d_B_join_55 (Or.inl q_689) q_690 rfl q_691 c_M_becomeCopy n_M_becomeCopy hR (by decide) (by decide) rfl (Nat.le_of_ble_eq_true rfl) rfl (Nat.le_of_ble_eq_true rfl) hx (fun R' hR' => m_M_becomeCopy hR' hw) (bs_kV_ok fun h11 hw => ?_) (fun _ _ z => z)
        refine bj_aload_n (pc := 58) 0 d_B_join_58 rfl rfl ?_
        obtain ⟨fs, v12, hx, hv, hw⟩ := hw
        refine bj_get (pc := 59) (ci := 0) (k := 0) (fs := fs) (v := .ref v12) d_B_join_59 rfl (by decide) q_196 hx hv ?_
        refine bj_aload_n (pc := 62) 0 d_B_join_62 rfl rfl ?_
        obtain ⟨fs, v13, hx, hv, hw⟩ := hw
        refine bj_get (pc := 63) (ci := 0) (k := 1) (fs := fs) (v := .ref v13) d_B_join_63 rfl (by decide) q_197 hx hv ?_
        refine bj_aload_n (pc := 66) 0 d_B_join_66 rfl rfl ?_
        obtain ⟨fs, v14, hx, hv, hw⟩ := hw
        refine bj_get (pc := 67) (ci := 0) (k := 2) (fs := fs) (v := .ref v14) d_B_join_67 rfl (by decide) q_198 hx hv ?_
        refine bj_iload_n (pc := 70) 1 d_B_join_70 rfl rfl ?_
        obtain ⟨n, f, v15, hx, hin, hv, hw⟩ := hw
        refine bj_aald (pc := 71) (n := n) (f := f) d_B_join_71 hx hin hv ?_
        obtain ⟨⟨fs, hx⟩, hw⟩ := hw
        refine bj_callV (pc := 72) (np := 2) (K' := K_M_becomeJoined) (argsL := [.ref v13, .ref v15]) (st := []) (d1 := 2) (ci := 1) (fs := fs) rfl d_B_join_72 (Or.inl q_703) q_704 rfl q_705 c_M_becomeJoined n_M_becomeJoined hR (by decide) (by decide) rfl (Nat.le_of_ble_eq_true rfl) rfl (Nat.le_of_ble_eq_true rfl) hx (fun R' hR' => m_M_becomeJoined hR' hw) (bs_kV_ok fun h16 hw => ?_) (fun _ _ z => z)
        exact bj_vret (pc := 75) d_B_join_75 rfl hw
      · replace hw := hw.2 hc
        obtain ⟨h1, h2, hw⟩ := hw
        exact bj_throw (pc := 39) (names := bs_up2) d_B_join_39 d_B_join_42 d_B_join_43 d_B_join_46 q_674 q_675 q_62 a_B_163 (by decide +kernel) (by decide +kernel) (by decide) rfl hR (Nat.le_of_ble_eq_true rfl) h1 h2 hw
    · replace hw := hw.2 hc
      refine bj_sub [] (lo' := []) rfl ?_
      exact m_B_join_12 hR hw
theorem d_L_join_0 : decode method_13_code 0 = .ok (.aload_n 0, 1) := by decide +kernel
theorem d_L_join_1 : decode method_13_code 1 = .ok (.iload_n 1, 1) := by decide +kernel
theorem d_L_join_2 : decode method_13_code 2 = .ok (.invokevirtual 55, 3) := by decide +kernel
theorem d_L_join_5 : decode method_13_code 5 = .ok (.goto 9, 3) := by decide +kernel
theorem d_L_join_8 : decode method_13_code 8 = .ok (.astore_n 2, 1) := by decide +kernel
theorem d_L_join_9 : decode method_13_code 9 = .ok (.iconst 1, 1) := by decide +kernel
theorem d_L_join_10 : decode method_13_code 10 = .ok (.ireturn, 1) := by decide +kernel
theorem d_L_join_11 : decode method_13_code 11 = .ok (.astore_n 2, 1) := by decide +kernel
theorem d_L_join_12 : decode method_13_code 12 = .ok (.iconst 2, 1) := by decide +kernel
theorem d_L_join_13 : decode method_13_code 13 = .ok (.ireturn, 1) := by decide +kernel
theorem d_L_join_14 : decode method_13_code 14 = .ok (.iconst 0, 1) := by decide +kernel
theorem d_L_join_15 : decode method_13_code 15 = .ok (.ireturn, 1) := by decide +kernel
def w_L_join_11 (Φ : bs_R → bs_H → Prop) (s0 : Nat) (h : bs_H) : Prop :=
  Φ (.ok (some (.int 2))) h
def w_L_join_8 (Φ : bs_R → bs_H → Prop) (s0 : Nat) (h : bs_H) : Prop :=
  Φ (.ok (some (.int 1))) h
def w_L_join (Φ : bs_R → bs_H → Prop) (x0 : Nat) (x1 : Int32) (h : bs_H) : Prop :=
  bs_on h x0 0 (w_B_join (bs_kV (bs_hd fun E2 h3 => (E2 = "java/lang/IllegalArgumentException" ∧ ∀ a, w_L_join_8 Φ a h3) ∨ (E2 = "java/lang/IllegalStateException" ∧ ∀ a, w_L_join_11 Φ a h3)) fun h1 => (Φ (.ok (some (.int 0))) h1)) x0 x1 h)
theorem m_L_join_11 {l : Launch} {R : Room} {Φ : bs_R → bs_H → Prop} (hR : bs_rm 4 R) {s0 : Nat} {h : bs_H} (hw : w_L_join_11 Φ s0 h) : bs_J l K_L_join R Φ 11 [] [.ref s0] h := by
  unfold w_L_join_11 at hw
  refine bj_astore_n (pc := 11) (lo' := [(2, .ref s0)]) d_L_join_11 rfl (by decide) rfl ?_
  refine bj_iconst (pc := 12) (v := 2) d_L_join_12 (by decide) ?_
  exact bj_iret (pc := 13) d_L_join_13 rfl hw
theorem m_L_join_8 {l : Launch} {R : Room} {Φ : bs_R → bs_H → Prop} (hR : bs_rm 4 R) {s0 : Nat} {h : bs_H} (hw : w_L_join_8 Φ s0 h) : bs_J l K_L_join R Φ 8 [] [.ref s0] h := by
  unfold w_L_join_8 at hw
  refine bj_astore_n (pc := 8) (lo' := [(2, .ref s0)]) d_L_join_8 rfl (by decide) rfl ?_
  refine bj_iconst (pc := 9) (v := 1) d_L_join_9 (by decide) ?_
  exact bj_iret (pc := 10) d_L_join_10 rfl hw
theorem m_L_join {l : Launch} {R : Room} (hR : bs_rm 4 R) {Φ : bs_R → bs_H → Prop} {x0 : Nat} {x1 : Int32} {h : bs_H} (hw : w_L_join Φ x0 x1 h) : bs_J l K_L_join R Φ 0 [(0, .ref x0), (1, .int x1)] [] h := by
  unfold w_L_join at hw
  refine bj_aload_n (pc := 0) 0 d_L_join_0 rfl rfl ?_
  refine bj_iload_n (pc := 1) 1 d_L_join_1 rfl rfl ?_
  obtain ⟨⟨fs, hx⟩, hw⟩ := hw
  refine bj_callVC (pc := 2) (np := 1) (K' := K_B_join) (argsL := [.int x1]) (st := []) (d1 := 3) (ci := 0) (fs := fs) rfl d_L_join_2 (Or.inl q_699) q_700 rfl q_701 c_B_join n_B_join hR (by decide) (by decide) (Nat.le_of_ble_eq_true rfl) rfl (Nat.le_of_ble_eq_true rfl) hx (fun R' hR' => m_B_join hR' hw) (bs_kV_ok fun h1 hw => ?_) ?_
  · refine bj_goto (pc := 5) (tgt := 14) d_L_join_5 (by decide) ?_
    refine bj_iconst (pc := 14) (v := 0) d_L_join_14 (by decide) ?_
    exact bj_iret (pc := 15) d_L_join_15 rfl hw
  · intro E2 h3 hw
    rcases hw with ⟨rfl, hw⟩ | ⟨rfl, hw⟩
    · refine ⟨8, bs_hand1 rfl (by decide) (by decide) q_376 q_383, fun a => ?_⟩
      replace hw := hw a
      refine bj_sub [] (lo' := []) rfl ?_
      exact m_L_join_8 hR hw
    · refine ⟨11, bs_hand2 rfl (by decide) (by decide) (by decide) (by decide) q_376 q_669 q_676 ?_, fun a => ?_⟩
      · exact nc_IllegalStateException_IllegalArgumentException
      replace hw := hw a
      refine bj_sub [] (lo' := []) rfl ?_
      exact m_L_join_11 hR hw
theorem d_R_join_0 : decode prog_9_method_38_code 0 = .ok (.aload_n 0, 1) := by decide +kernel
theorem d_R_join_1 : decode prog_9_method_38_code 1 = .ok (.iload_n 1, 1) := by decide +kernel
theorem d_R_join_2 : decode prog_9_method_38_code 2 = .ok (.ifCond .lt 11, 3) := by decide +kernel
theorem d_R_join_5 : decode prog_9_method_38_code 5 = .ok (.iload_n 1, 1) := by decide +kernel
theorem d_R_join_6 : decode prog_9_method_38_code 6 = .ok (.aload_n 0, 1) := by decide +kernel
theorem d_R_join_7 : decode prog_9_method_38_code 7 = .ok (.getfield 164, 3) := by decide +kernel
theorem d_R_join_10 : decode prog_9_method_38_code 10 = .ok (.if_icmp .lt 7, 3) := by decide +kernel
theorem d_R_join_13 : decode prog_9_method_38_code 13 = .ok (.iconst 1, 1) := by decide +kernel
theorem d_R_join_14 : decode prog_9_method_38_code 14 = .ok (.goto 21, 3) := by decide +kernel
theorem d_R_join_17 : decode prog_9_method_38_code 17 = .ok (.aload_n 0, 1) := by decide +kernel
theorem d_R_join_18 : decode prog_9_method_38_code 18 = .ok (.getfield 23, 3) := by decide +kernel
theorem d_R_join_21 : decode prog_9_method_38_code 21 = .ok (.iload_n 1, 1) := by decide +kernel
theorem d_R_join_22 : decode prog_9_method_38_code 22 = .ok (.iaload, 1) := by decide +kernel
theorem d_R_join_23 : decode prog_9_method_38_code 23 = .ok (.aload_n 0, 1) := by decide +kernel
theorem d_R_join_24 : decode prog_9_method_38_code 24 = .ok (.getfield 89, 3) := by decide +kernel
theorem d_R_join_27 : decode prog_9_method_38_code 27 = .ok (.if_icmp .eq 7, 3) := by decide +kernel
theorem d_R_join_30 : decode prog_9_method_38_code 30 = .ok (.iconst 2, 1) := by decide +kernel
theorem d_R_join_31 : decode prog_9_method_38_code 31 = .ok (.goto 4, 3) := by decide +kernel
theorem d_R_join_34 : decode prog_9_method_38_code 34 = .ok (.iconst 0, 1) := by decide +kernel
theorem d_R_join_35 : decode prog_9_method_38_code 35 = .ok (.putfield 85, 3) := by decide +kernel
theorem d_R_join_38 : decode prog_9_method_38_code 38 = .ok (.aload_n 0, 1) := by decide +kernel
theorem d_R_join_39 : decode prog_9_method_38_code 39 = .ok (.getfield 85, 3) := by decide +kernel
theorem d_R_join_42 : decode prog_9_method_38_code 42 = .ok (.ifCond .eq 4, 3) := by decide +kernel
theorem d_R_join_45 : decode prog_9_method_38_code 45 = .ok (.return_, 1) := by decide +kernel
theorem d_R_join_46 : decode prog_9_method_38_code 46 = .ok (.iconst 0, 1) := by decide +kernel
theorem d_R_join_47 : decode prog_9_method_38_code 47 = .ok (.istore_n 2, 1) := by decide +kernel
theorem d_R_join_48 : decode prog_9_method_38_code 48 = .ok (.iload_n 2, 1) := by decide +kernel
theorem d_R_join_49 : decode prog_9_method_38_code 49 = .ok (.aload_n 0, 1) := by decide +kernel
theorem d_R_join_50 : decode prog_9_method_38_code 50 = .ok (.getfield 89, 3) := by decide +kernel
theorem d_R_join_53 : decode prog_9_method_38_code 53 = .ok (.if_icmp .ge 43, 3) := by decide +kernel
theorem d_R_join_56 : decode prog_9_method_38_code 56 = .ok (.aload_n 0, 1) := by decide +kernel
theorem d_R_join_57 : decode prog_9_method_38_code 57 = .ok (.getfield 26, 3) := by decide +kernel
theorem d_R_join_60 : decode prog_9_method_38_code 60 = .ok (.bipush 64, 2) := by decide +kernel
theorem d_R_join_62 : decode prog_9_method_38_code 62 = .ok (.iload_n 1, 1) := by decide +kernel
theorem d_R_join_63 : decode prog_9_method_38_code 63 = .ok (.imul, 1) := by decide +kernel
theorem d_R_join_64 : decode prog_9_method_38_code 64 = .ok (.iload_n 2, 1) := by decide +kernel
theorem d_R_join_65 : decode prog_9_method_38_code 65 = .ok (.iadd, 1) := by decide +kernel
theorem d_R_join_66 : decode prog_9_method_38_code 66 = .ok (.iaload, 1) := by decide +kernel
theorem d_R_join_67 : decode prog_9_method_38_code 67 = .ok (.istore_n 3, 1) := by decide +kernel
theorem d_R_join_68 : decode prog_9_method_38_code 68 = .ok (.aload_n 0, 1) := by decide +kernel
theorem d_R_join_69 : decode prog_9_method_38_code 69 = .ok (.getfield 45, 3) := by decide +kernel
theorem d_R_join_72 : decode prog_9_method_38_code 72 = .ok (.iload_n 2, 1) := by decide +kernel
theorem d_R_join_73 : decode prog_9_method_38_code 73 = .ok (.iload_n 3, 1) := by decide +kernel
theorem d_R_join_74 : decode prog_9_method_38_code 74 = .ok (.bipush 64, 2) := by decide +kernel
theorem d_R_join_76 : decode prog_9_method_38_code 76 = .ok (.if_icmp .ge 12, 3) := by decide +kernel
theorem d_R_join_79 : decode prog_9_method_38_code 79 = .ok (.aload_n 0, 1) := by decide +kernel
theorem d_R_join_80 : decode prog_9_method_38_code 80 = .ok (.getfield 7, 3) := by decide +kernel
theorem d_R_join_83 : decode prog_9_method_38_code 83 = .ok (.iload_n 3, 1) := by decide +kernel
theorem d_R_join_84 : decode prog_9_method_38_code 84 = .ok (.iaload, 1) := by decide +kernel
theorem d_R_join_85 : decode prog_9_method_38_code 85 = .ok (.goto 4, 3) := by decide +kernel
theorem d_R_join_88 : decode prog_9_method_38_code 88 = .ok (.iload_n 3, 1) := by decide +kernel
theorem d_R_join_89 : decode prog_9_method_38_code 89 = .ok (.iastore, 1) := by decide +kernel
theorem d_R_join_90 : decode prog_9_method_38_code 90 = .ok (.iinc 2 1, 3) := by decide +kernel
theorem d_R_join_93 : decode prog_9_method_38_code 93 = .ok (.goto (-45), 3) := by decide +kernel
theorem d_R_join_96 : decode prog_9_method_38_code 96 = .ok (.iconst 0, 1) := by decide +kernel
theorem d_R_join_97 : decode prog_9_method_38_code 97 = .ok (.istore_n 2, 1) := by decide +kernel
theorem d_R_join_98 : decode prog_9_method_38_code 98 = .ok (.iload_n 2, 1) := by decide +kernel
theorem d_R_join_99 : decode prog_9_method_38_code 99 = .ok (.aload_n 0, 1) := by decide +kernel
theorem d_R_join_100 : decode prog_9_method_38_code 100 = .ok (.getfield 89, 3) := by decide +kernel
theorem d_R_join_103 : decode prog_9_method_38_code 103 = .ok (.if_icmp .ge 21, 3) := by decide +kernel
theorem d_R_join_106 : decode prog_9_method_38_code 106 = .ok (.aload_n 0, 1) := by decide +kernel
theorem d_R_join_107 : decode prog_9_method_38_code 107 = .ok (.getfield 7, 3) := by decide +kernel
theorem d_R_join_110 : decode prog_9_method_38_code 110 = .ok (.iload_n 2, 1) := by decide +kernel
theorem d_R_join_111 : decode prog_9_method_38_code 111 = .ok (.aload_n 0, 1) := by decide +kernel
theorem d_R_join_112 : decode prog_9_method_38_code 112 = .ok (.getfield 45, 3) := by decide +kernel
theorem d_R_join_115 : decode prog_9_method_38_code 115 = .ok (.iload_n 2, 1) := by decide +kernel
theorem d_R_join_116 : decode prog_9_method_38_code 116 = .ok (.iaload, 1) := by decide +kernel
theorem d_R_join_117 : decode prog_9_method_38_code 117 = .ok (.iastore, 1) := by decide +kernel
theorem d_R_join_118 : decode prog_9_method_38_code 118 = .ok (.iinc 2 1, 3) := by decide +kernel
theorem d_R_join_121 : decode prog_9_method_38_code 121 = .ok (.goto (-23), 3) := by decide +kernel
theorem d_R_join_124 : decode prog_9_method_38_code 124 = .ok (.return_, 1) := by decide +kernel
def w_R_join_98_s (Φ : bs_R → bs_H → Prop) (nx98 : Nat → Int32 → bs_H → Prop) (x0 : Nat) (x2 : Int32) (h : bs_H) : Prop :=
  bs_fI h x0 7 1 (fun v1 => bs_if (v1 ≤ x2) (Φ (.ok none) h) (bs_fA h x0 7 2 (fun v2 => bs_fA h x0 7 15 (fun v3 => bs_lI h v3 x2 (fun v4 => bs_sI h v2 x2 v4 (fun h5 => nx98 x0 (x2 + 1) h5))))))
def w_R_join_98 (Φ : bs_R → bs_H → Prop) : Nat → Nat → Int32 → bs_H → Prop
  | 0 => fun _ _ _ => False
  | n + 1 => fun x0 x2 h => w_R_join_98_s Φ (w_R_join_98 Φ n) x0 x2 h
def w_R_join_89 (Φ : bs_R → bs_H → Prop) (nx48 : Nat → Int32 → Int32 → bs_H → Prop) (x0 : Nat) (x1 : Int32) (x2 : Int32) (s0 : Nat) (s1 : Int32) (s2 : Int32) (h : bs_H) : Prop :=
  bs_sI h s0 s1 s2 (fun h1 => nx48 x0 x1 (x2 + 1) h1)
def w_R_join_48_s (Φ : bs_R → bs_H → Prop) (nx48 : Nat → Int32 → Int32 → bs_H → Prop) (x0 : Nat) (x1 : Int32) (x2 : Int32) (h : bs_H) : Prop :=
  bs_fI h x0 7 1 (fun v1 => bs_if (v1 ≤ x2) (w_R_join_98 Φ 1000 x0 0 h) (bs_fA h x0 7 9 (fun v2 => bs_lI h v2 (((64 : Int32) * x1) + x2) (fun v3 => bs_fA h x0 7 15 (fun v4 => bs_if ((64 : Int32) ≤ v3) (w_R_join_89 Φ nx48 x0 x1 x2 v4 x2 v3 h) (bs_fA h x0 7 2 (fun v5 => bs_lI h v5 v3 (fun v6 => w_R_join_89 Φ nx48 x0 x1 x2 v4 x2 v6 h))))))))
def w_R_join_48 (Φ : bs_R → bs_H → Prop) : Nat → Nat → Int32 → Int32 → bs_H → Prop
  | 0 => fun _ _ _ _ => False
  | n + 1 => fun x0 x1 x2 h => w_R_join_48_s Φ (w_R_join_48 Φ n) x0 x1 x2 h
def w_R_join_35 (Φ : bs_R → bs_H → Prop) (x0 : Nat) (x1 : Int32) (s0 : Nat) (s1 : Int32) (h : bs_H) : Prop :=
  bs_p h s0 7 0 (.int s1) (fun h1 => bs_fI h1 x0 7 0 (fun v2 => bs_if (v2 = 0) (w_R_join_48 Φ 1000 x0 x1 0 h1) (Φ (.ok none) h1)))
def w_R_join_13 (Φ : bs_R → bs_H → Prop) (x0 : Nat) (x1 : Int32) (s0 : Nat) (h : bs_H) : Prop :=
  w_R_join_35 Φ x0 x1 s0 1 h
def w_R_join (Φ : bs_R → bs_H → Prop) (x0 : Nat) (x1 : Int32) (h : bs_H) : Prop :=
  bs_if (x1 < 0) (w_R_join_13 Φ x0 x1 x0 h) (bs_fI h x0 7 7 (fun v1 => bs_if (x1 < v1) (bs_fA h x0 7 8 (fun v2 => bs_lI h v2 x1 (fun v3 => bs_fI h x0 7 1 (fun v4 => bs_if (v3 = v4) (w_R_join_35 Φ x0 x1 x0 0 h) (w_R_join_35 Φ x0 x1 x0 2 h))))) (w_R_join_13 Φ x0 x1 x0 h)))
theorem m_R_join_98 {l : Launch} {R : Room} {Φ : bs_R → bs_H → Prop} (hR : bs_rm 1 R) : ∀ (n : Nat) (x0 : Nat) (x2 : Int32) (h : bs_H), w_R_join_98 Φ n x0 x2 h → bs_J l K_R_join R Φ 98 [(0, .ref x0), (2, .int x2)] [] h := by
  intro n
  induction n with
  | zero => intro x0 x2 h hw; exact hw.elim
  | succ n ih =>
    have hnx98 := ih
    intro x0 x2 h hw
    replace hw : w_R_join_98_s Φ (w_R_join_98 Φ n) x0 x2 h := hw
    unfold w_R_join_98_s at hw
    refine bj_iload_n (pc := 98) 1 d_R_join_98 rfl rfl ?_
    refine bj_aload_n (pc := 99) 0 d_R_join_99 rfl rfl ?_
    obtain ⟨fs, v1, hx, hv, hw⟩ := hw
    refine bj_get (pc := 100) (ci := 7) (k := 1) (fs := fs) (v := .int v1) d_R_join_100 rfl (by decide) q_749 hx hv ?_
    refine bj_icmp_ge (pc := 103) (tgt := 124) d_R_join_103 (by decide) (fun hc => ?_) (fun hc => ?_)
    · replace hw := hw.1 hc
      exact bj_vret (pc := 124) d_R_join_124 rfl hw
    · replace hw := hw.2 hc
      refine bj_aload_n (pc := 106) 0 d_R_join_106 rfl rfl ?_
      obtain ⟨fs, v2, hx, hv, hw⟩ := hw
      refine bj_get (pc := 107) (ci := 7) (k := 2) (fs := fs) (v := .ref v2) d_R_join_107 rfl (by decide) q_750 hx hv ?_
      refine bj_iload_n (pc := 110) 1 d_R_join_110 rfl rfl ?_
      refine bj_aload_n (pc := 111) 0 d_R_join_111 rfl rfl ?_
      obtain ⟨fs, v3, hx, hv, hw⟩ := hw
      refine bj_get (pc := 112) (ci := 7) (k := 15) (fs := fs) (v := .ref v3) d_R_join_112 rfl (by decide) q_763 hx hv ?_
      refine bj_iload_n (pc := 115) 1 d_R_join_115 rfl rfl ?_
      obtain ⟨n, f, v4, hx, hin, hv, hw⟩ := hw
      refine bj_iald (pc := 116) (n := n) (f := f) d_R_join_116 hx hin hv ?_
      obtain ⟨n, f, hx, hin, hw⟩ := hw
      refine bj_iast (pc := 117) (n := n) (f := f) d_R_join_117 hx hin ?_
      refine bj_iinc (pc := 118) (v := (x2 + 1)) (lo' := [(2, .int (x2 + 1)), (0, .ref x0)]) 1 d_R_join_118 rfl rfl (by decide) rfl ?_
      refine bj_goto (pc := 121) (tgt := 98) d_R_join_121 (by decide) ?_
      refine bj_sub [1, 0] (lo' := [(0, .ref x0), (2, .int (x2 + 1))]) rfl ?_
      exact hnx98 _ _ _ hw
theorem m_R_join_89 {l : Launch} {R : Room} {Φ : bs_R → bs_H → Prop} (hR : bs_rm 1 R) {nx48 : Nat → Int32 → Int32 → bs_H → Prop} (hnx48 : ∀ (x0 : Nat) (x1 : Int32) (x2 : Int32) (h : bs_H), nx48 x0 x1 x2 h → bs_J l K_R_join R Φ 48 [(0, .ref x0), (1, .int x1), (2, .int x2)] [] h) {x0 : Nat} {x1 : Int32} {x2 : Int32} {s0 : Nat} {s1 : Int32} {s2 : Int32} {h : bs_H} (hw : w_R_join_89 Φ nx48 x0 x1 x2 s0 s1 s2 h) : bs_J l K_R_join R Φ 89 [(0, .ref x0), (1, .int x1), (2, .int x2)] [.int s2, .int s1, .ref s0] h := by
  unfold w_R_join_89 at hw
  obtain ⟨n, f, hx, hin, hw⟩ := hw
  refine bj_iast (pc := 89) (n := n) (f := f) d_R_join_89 hx hin ?_
  refine bj_iinc (pc := 90) (v := (x2 + 1)) (lo' := [(2, .int (x2 + 1)), (0, .ref x0), (1, .int x1)]) 2 d_R_join_90 rfl rfl (by decide) rfl ?_
  refine bj_goto (pc := 93) (tgt := 48) d_R_join_93 (by decide) ?_
  refine bj_sub [1, 2, 0] (lo' := [(0, .ref x0), (1, .int x1), (2, .int (x2 + 1))]) rfl ?_
  exact hnx48 _ _ _ _ hw
theorem m_R_join_48 {l : Launch} {R : Room} {Φ : bs_R → bs_H → Prop} (hR : bs_rm 1 R) : ∀ (n : Nat) (x0 : Nat) (x1 : Int32) (x2 : Int32) (h : bs_H), w_R_join_48 Φ n x0 x1 x2 h → bs_J l K_R_join R Φ 48 [(0, .ref x0), (1, .int x1), (2, .int x2)] [] h := by
  intro n
  induction n with
  | zero => intro x0 x1 x2 h hw; exact hw.elim
  | succ n ih =>
    have hnx48 := ih
    intro x0 x1 x2 h hw
    replace hw : w_R_join_48_s Φ (w_R_join_48 Φ n) x0 x1 x2 h := hw
    unfold w_R_join_48_s at hw
    refine bj_iload_n (pc := 48) 2 d_R_join_48 rfl rfl ?_
    refine bj_aload_n (pc := 49) 0 d_R_join_49 rfl rfl ?_
    obtain ⟨fs, v1, hx, hv, hw⟩ := hw
    refine bj_get (pc := 50) (ci := 7) (k := 1) (fs := fs) (v := .int v1) d_R_join_50 rfl (by decide) q_749 hx hv ?_
    refine bj_icmp_ge (pc := 53) (tgt := 96) d_R_join_53 (by decide) (fun hc => ?_) (fun hc => ?_)
    · replace hw := hw.1 hc
      refine bj_iconst (pc := 96) (v := 0) d_R_join_96 (by decide) ?_
      refine bj_istore_n (pc := 97) (lo' := [(2, .int 0), (0, .ref x0), (1, .int x1)]) d_R_join_97 rfl (by decide) rfl ?_
      refine bj_sub [1, 0] (lo' := [(0, .ref x0), (2, .int 0)]) rfl ?_
      exact m_R_join_98 hR 1000 _ _ _ hw
    · replace hw := hw.2 hc
      refine bj_aload_n (pc := 56) 0 d_R_join_56 rfl rfl ?_
      obtain ⟨fs, v2, hx, hv, hw⟩ := hw
      refine bj_get (pc := 57) (ci := 7) (k := 9) (fs := fs) (v := .ref v2) d_R_join_57 rfl (by decide) q_757 hx hv ?_
      refine bj_bipush (pc := 60) (v := 64) d_R_join_60 (by decide) ?_
      refine bj_iload_n (pc := 62) 1 d_R_join_62 rfl rfl ?_
      refine bj_imul (pc := 63) d_R_join_63 ?_
      refine bj_iload_n (pc := 64) 2 d_R_join_64 rfl rfl ?_
      refine bj_iadd (pc := 65) d_R_join_65 ?_
      obtain ⟨n, f, v3, hx, hin, hv, hw⟩ := hw
      refine bj_iald (pc := 66) (n := n) (f := f) d_R_join_66 hx hin hv ?_
      refine bj_istore_n (pc := 67) (lo' := [(3, .int v3), (0, .ref x0), (1, .int x1), (2, .int x2)]) d_R_join_67 rfl (by decide) rfl ?_
      refine bj_aload_n (pc := 68) 1 d_R_join_68 rfl rfl ?_
      obtain ⟨fs, v4, hx, hv, hw⟩ := hw
      refine bj_get (pc := 69) (ci := 7) (k := 15) (fs := fs) (v := .ref v4) d_R_join_69 rfl (by decide) q_763 hx hv ?_
      refine bj_iload_n (pc := 72) 3 d_R_join_72 rfl rfl ?_
      refine bj_iload_n (pc := 73) 0 d_R_join_73 rfl rfl ?_
      refine bj_bipush (pc := 74) (v := 64) d_R_join_74 (by decide) ?_
      refine bj_icmp_ge (pc := 76) (tgt := 88) d_R_join_76 (by decide) (fun hc => ?_) (fun hc => ?_)
      · replace hw := hw.1 hc
        refine bj_iload_n (pc := 88) 0 d_R_join_88 rfl rfl ?_
        refine bj_sub [1, 2, 3] (lo' := [(0, .ref x0), (1, .int x1), (2, .int x2)]) rfl ?_
        exact m_R_join_89 hR hnx48 hw
      · replace hw := hw.2 hc
        refine bj_aload_n (pc := 79) 1 d_R_join_79 rfl rfl ?_
        obtain ⟨fs, v5, hx, hv, hw⟩ := hw
        refine bj_get (pc := 80) (ci := 7) (k := 2) (fs := fs) (v := .ref v5) d_R_join_80 rfl (by decide) q_750 hx hv ?_
        refine bj_iload_n (pc := 83) 0 d_R_join_83 rfl rfl ?_
        obtain ⟨n, f, v6, hx, hin, hv, hw⟩ := hw
        refine bj_iald (pc := 84) (n := n) (f := f) d_R_join_84 hx hin hv ?_
        refine bj_goto (pc := 85) (tgt := 89) d_R_join_85 (by decide) ?_
        refine bj_sub [1, 2, 3] (lo' := [(0, .ref x0), (1, .int x1), (2, .int x2)]) rfl ?_
        exact m_R_join_89 hR hnx48 hw
theorem m_R_join_35 {l : Launch} {R : Room} {Φ : bs_R → bs_H → Prop} (hR : bs_rm 1 R) {x0 : Nat} {x1 : Int32} {s0 : Nat} {s1 : Int32} {h : bs_H} (hw : w_R_join_35 Φ x0 x1 s0 s1 h) : bs_J l K_R_join R Φ 35 [(0, .ref x0), (1, .int x1)] [.int s1, .ref s0] h := by
  unfold w_R_join_35 at hw
  obtain ⟨fs, hx, hlen, hw⟩ := hw
  refine bj_put (pc := 35) (ci := 7) (k := 0) (fs := fs) (v := (.int s1)) (ty := .int) d_R_join_35 rfl (by decide) q_748 rfl (by decide +kernel) rfl rfl hx hlen ?_
  refine bj_aload_n (pc := 38) 0 d_R_join_38 rfl rfl ?_
  obtain ⟨fs, v2, hx, hv, hw⟩ := hw
  refine bj_get (pc := 39) (ci := 7) (k := 0) (fs := fs) (v := .int v2) d_R_join_39 rfl (by decide) q_748 hx hv ?_
  refine bj_if_eq (pc := 42) (tgt := 46) d_R_join_42 (by decide) (fun hc => ?_) (fun hc => ?_)
  · replace hw := hw.1 hc
    refine bj_iconst (pc := 46) (v := 0) d_R_join_46 (by decide) ?_
    refine bj_istore_n (pc := 47) (lo' := [(2, .int 0), (0, .ref x0), (1, .int x1)]) d_R_join_47 rfl (by decide) rfl ?_
    refine bj_sub [1, 2, 0] (lo' := [(0, .ref x0), (1, .int x1), (2, .int 0)]) rfl ?_
    exact m_R_join_48 hR 1000 _ _ _ _ hw
  · replace hw := hw.2 hc
    exact bj_vret (pc := 45) d_R_join_45 rfl hw
theorem m_R_join_13 {l : Launch} {R : Room} {Φ : bs_R → bs_H → Prop} (hR : bs_rm 1 R) {x0 : Nat} {x1 : Int32} {s0 : Nat} {h : bs_H} (hw : w_R_join_13 Φ x0 x1 s0 h) : bs_J l K_R_join R Φ 13 [(0, .ref x0), (1, .int x1)] [.ref s0] h := by
  unfold w_R_join_13 at hw
  refine bj_iconst (pc := 13) (v := 1) d_R_join_13 (by decide) ?_
  refine bj_goto (pc := 14) (tgt := 35) d_R_join_14 (by decide) ?_
  exact m_R_join_35 hR hw
theorem m_R_join {l : Launch} {R : Room} (hR : bs_rm 1 R) {Φ : bs_R → bs_H → Prop} {x0 : Nat} {x1 : Int32} {h : bs_H} (hw : w_R_join Φ x0 x1 h) : bs_J l K_R_join R Φ 0 [(0, .ref x0), (1, .int x1)] [] h := by
  unfold w_R_join at hw
  refine bj_aload_n (pc := 0) 0 d_R_join_0 rfl rfl ?_
  refine bj_iload_n (pc := 1) 1 d_R_join_1 rfl rfl ?_
  refine bj_if_lt (pc := 2) (tgt := 13) d_R_join_2 (by decide) (fun hc => ?_) (fun hc => ?_)
  · replace hw := hw.1 hc
    exact m_R_join_13 hR hw
  · replace hw := hw.2 hc
    refine bj_iload_n (pc := 5) 1 d_R_join_5 rfl rfl ?_
    refine bj_aload_n (pc := 6) 0 d_R_join_6 rfl rfl ?_
    obtain ⟨fs, v1, hx, hv, hw⟩ := hw
    refine bj_get (pc := 7) (ci := 7) (k := 7) (fs := fs) (v := .int v1) d_R_join_7 rfl (by decide) q_755 hx hv ?_
    refine bj_icmp_lt (pc := 10) (tgt := 17) d_R_join_10 (by decide) (fun hc => ?_) (fun hc => ?_)
    · replace hw := hw.1 hc
      refine bj_aload_n (pc := 17) 0 d_R_join_17 rfl rfl ?_
      obtain ⟨fs, v2, hx, hv, hw⟩ := hw
      refine bj_get (pc := 18) (ci := 7) (k := 8) (fs := fs) (v := .ref v2) d_R_join_18 rfl (by decide) q_756 hx hv ?_
      refine bj_iload_n (pc := 21) 1 d_R_join_21 rfl rfl ?_
      obtain ⟨n, f, v3, hx, hin, hv, hw⟩ := hw
      refine bj_iald (pc := 22) (n := n) (f := f) d_R_join_22 hx hin hv ?_
      refine bj_aload_n (pc := 23) 0 d_R_join_23 rfl rfl ?_
      obtain ⟨fs, v4, hx, hv, hw⟩ := hw
      refine bj_get (pc := 24) (ci := 7) (k := 1) (fs := fs) (v := .int v4) d_R_join_24 rfl (by decide) q_749 hx hv ?_
      refine bj_icmp_eq (pc := 27) (tgt := 34) d_R_join_27 (by decide) (fun hc => ?_) (fun hc => ?_)
      · replace hw := hw.1 hc
        refine bj_iconst (pc := 34) (v := 0) d_R_join_34 (by decide) ?_
        exact m_R_join_35 hR hw
      · replace hw := hw.2 hc
        refine bj_iconst (pc := 30) (v := 2) d_R_join_30 (by decide) ?_
        refine bj_goto (pc := 31) (tgt := 35) d_R_join_31 (by decide) ?_
        exact m_R_join_35 hR hw
    · replace hw := hw.2 hc
      exact m_R_join_13 hR hw
theorem d_M_becomeInverse_0 : decode prog_2_method_10_code 0 = .ok (.aload_n 0, 1) := by decide +kernel
theorem d_M_becomeInverse_1 : decode prog_2_method_10_code 1 = .ok (.aload_n 1, 1) := by decide +kernel
theorem d_M_becomeInverse_2 : decode prog_2_method_10_code 2 = .ok (.getfield 15, 3) := by decide +kernel
theorem d_M_becomeInverse_5 : decode prog_2_method_10_code 5 = .ok (.putfield 15, 3) := by decide +kernel
theorem d_M_becomeInverse_8 : decode prog_2_method_10_code 8 = .ok (.iconst 0, 1) := by decide +kernel
theorem d_M_becomeInverse_9 : decode prog_2_method_10_code 9 = .ok (.istore_n 2, 1) := by decide +kernel
theorem d_M_becomeInverse_10 : decode prog_2_method_10_code 10 = .ok (.iload_n 2, 1) := by decide +kernel
theorem d_M_becomeInverse_11 : decode prog_2_method_10_code 11 = .ok (.aload_n 0, 1) := by decide +kernel
theorem d_M_becomeInverse_12 : decode prog_2_method_10_code 12 = .ok (.getfield 15, 3) := by decide +kernel
theorem d_M_becomeInverse_15 : decode prog_2_method_10_code 15 = .ok (.if_icmp .ge 29, 3) := by decide +kernel
theorem d_M_becomeInverse_18 : decode prog_2_method_10_code 18 = .ok (.aload_n 1, 1) := by decide +kernel
theorem d_M_becomeInverse_19 : decode prog_2_method_10_code 19 = .ok (.iload_n 2, 1) := by decide +kernel
theorem d_M_becomeInverse_20 : decode prog_2_method_10_code 20 = .ok (.invokevirtual 29, 3) := by decide +kernel
theorem d_M_becomeInverse_23 : decode prog_2_method_10_code 23 = .ok (.ifCond .eq 15, 3) := by decide +kernel
theorem d_M_becomeInverse_26 : decode prog_2_method_10_code 26 = .ok (.aload_n 0, 1) := by decide +kernel
theorem d_M_becomeInverse_27 : decode prog_2_method_10_code 27 = .ok (.getfield 9, 3) := by decide +kernel
theorem d_M_becomeInverse_30 : decode prog_2_method_10_code 30 = .ok (.aload_n 1, 1) := by decide +kernel
theorem d_M_becomeInverse_31 : decode prog_2_method_10_code 31 = .ok (.getfield 9, 3) := by decide +kernel
theorem d_M_becomeInverse_34 : decode prog_2_method_10_code 34 = .ok (.iload_n 2, 1) := by decide +kernel
theorem d_M_becomeInverse_35 : decode prog_2_method_10_code 35 = .ok (.iaload, 1) := by decide +kernel
theorem d_M_becomeInverse_36 : decode prog_2_method_10_code 36 = .ok (.iload_n 2, 1) := by decide +kernel
theorem d_M_becomeInverse_37 : decode prog_2_method_10_code 37 = .ok (.iastore, 1) := by decide +kernel
theorem d_M_becomeInverse_38 : decode prog_2_method_10_code 38 = .ok (.iinc 2 1, 3) := by decide +kernel
theorem d_M_becomeInverse_41 : decode prog_2_method_10_code 41 = .ok (.goto (-31), 3) := by decide +kernel
theorem d_M_becomeInverse_44 : decode prog_2_method_10_code 44 = .ok (.return_, 1) := by decide +kernel
def w_M_becomeInverse_38 (Φ : bs_R → bs_H → Prop) (nx10 : Nat → Nat → Int32 → bs_H → Prop) (x0 : Nat) (x1 : Nat) (x2 : Int32) (h : bs_H) : Prop :=
  nx10 x0 x1 (x2 + 1) h
def w_M_becomeInverse_10_s (Φ : bs_R → bs_H → Prop) (nx10 : Nat → Nat → Int32 → bs_H → Prop) (x0 : Nat) (x1 : Nat) (x2 : Int32) (h : bs_H) : Prop :=
  bs_fI h x0 1 1 (fun v1 => bs_if (v1 ≤ x2) (Φ (.ok none) h) (bs_on h x1 1 (w_M_comesFromWord (bs_kI Φ fun v2 h3 => (bs_if (v2 = 0) (w_M_becomeInverse_38 Φ nx10 x0 x1 x2 h3) (bs_fA h3 x0 1 0 (fun v4 => bs_fA h3 x1 1 0 (fun v5 => bs_lI h3 v5 x2 (fun v6 => bs_sI h3 v4 v6 x2 (fun h7 => w_M_becomeInverse_38 Φ nx10 x0 x1 x2 h7))))))) x1 x2 h)))
def w_M_becomeInverse_10 (Φ : bs_R → bs_H → Prop) : Nat → Nat → Nat → Int32 → bs_H → Prop
  | 0 => fun _ _ _ _ => False
  | n + 1 => fun x0 x1 x2 h => w_M_becomeInverse_10_s Φ (w_M_becomeInverse_10 Φ n) x0 x1 x2 h
def w_M_becomeInverse (Φ : bs_R → bs_H → Prop) (x0 : Nat) (x1 : Nat) (h : bs_H) : Prop :=
  bs_fI h x1 1 1 (fun v1 => bs_p h x0 1 1 (.int v1) (fun h2 => w_M_becomeInverse_10 Φ 1000 x0 x1 0 h2))
theorem m_M_becomeInverse_38 {l : Launch} {R : Room} {Φ : bs_R → bs_H → Prop} (hR : bs_rm 2 R) {nx10 : Nat → Nat → Int32 → bs_H → Prop} (hnx10 : ∀ (x0 : Nat) (x1 : Nat) (x2 : Int32) (h : bs_H), nx10 x0 x1 x2 h → bs_J l K_M_becomeInverse R Φ 10 [(0, .ref x0), (1, .ref x1), (2, .int x2)] [] h) {x0 : Nat} {x1 : Nat} {x2 : Int32} {h : bs_H} (hw : w_M_becomeInverse_38 Φ nx10 x0 x1 x2 h) : bs_J l K_M_becomeInverse R Φ 38 [(0, .ref x0), (1, .ref x1), (2, .int x2)] [] h := by
  unfold w_M_becomeInverse_38 at hw
  refine bj_iinc (pc := 38) (v := (x2 + 1)) (lo' := [(2, .int (x2 + 1)), (0, .ref x0), (1, .ref x1)]) 2 d_M_becomeInverse_38 rfl rfl (by decide) rfl ?_
  refine bj_goto (pc := 41) (tgt := 10) d_M_becomeInverse_41 (by decide) ?_
  refine bj_sub [1, 2, 0] (lo' := [(0, .ref x0), (1, .ref x1), (2, .int (x2 + 1))]) rfl ?_
  exact hnx10 _ _ _ _ hw
theorem m_M_becomeInverse_10 {l : Launch} {R : Room} {Φ : bs_R → bs_H → Prop} (hR : bs_rm 2 R) : ∀ (n : Nat) (x0 : Nat) (x1 : Nat) (x2 : Int32) (h : bs_H), w_M_becomeInverse_10 Φ n x0 x1 x2 h → bs_J l K_M_becomeInverse R Φ 10 [(0, .ref x0), (1, .ref x1), (2, .int x2)] [] h := by
  intro n
  induction n with
  | zero => intro x0 x1 x2 h hw; exact hw.elim
  | succ n ih =>
    have hnx10 := ih
    intro x0 x1 x2 h hw
    replace hw : w_M_becomeInverse_10_s Φ (w_M_becomeInverse_10 Φ n) x0 x1 x2 h := hw
    unfold w_M_becomeInverse_10_s at hw
    refine bj_iload_n (pc := 10) 2 d_M_becomeInverse_10 rfl rfl ?_
    refine bj_aload_n (pc := 11) 0 d_M_becomeInverse_11 rfl rfl ?_
    obtain ⟨fs, v1, hx, hv, hw⟩ := hw
    refine bj_get (pc := 12) (ci := 1) (k := 1) (fs := fs) (v := .int v1) d_M_becomeInverse_12 rfl (by decide) q_79 hx hv ?_
    refine bj_icmp_ge (pc := 15) (tgt := 44) d_M_becomeInverse_15 (by decide) (fun hc => ?_) (fun hc => ?_)
    · replace hw := hw.1 hc
      exact bj_vret (pc := 44) d_M_becomeInverse_44 rfl hw
    · replace hw := hw.2 hc
      refine bj_aload_n (pc := 18) 1 d_M_becomeInverse_18 rfl rfl ?_
      refine bj_iload_n (pc := 19) 2 d_M_becomeInverse_19 rfl rfl ?_
      obtain ⟨⟨fs, hx⟩, hw⟩ := hw
      refine bj_callV (pc := 20) (np := 1) (K' := K_M_comesFromWord) (argsL := [.int x2]) (st := []) (d1 := 1) (ci := 1) (fs := fs) rfl d_M_becomeInverse_20 (Or.inl q_295) q_296 rfl q_297 c_M_comesFromWord n_M_comesFromWord hR (by decide) (by decide) rfl (Nat.le_of_ble_eq_true rfl) rfl (Nat.le_of_ble_eq_true rfl) hx (fun R' hR' => m_M_comesFromWord hR' hw) (bs_kI_ok fun v2 h3 hw => ?_) (fun _ _ z => z)
      refine bj_if_eq (pc := 23) (tgt := 38) d_M_becomeInverse_23 (by decide) (fun hc => ?_) (fun hc => ?_)
      · replace hw := hw.1 hc
        exact m_M_becomeInverse_38 hR hnx10 hw
      · replace hw := hw.2 hc
        refine bj_aload_n (pc := 26) 0 d_M_becomeInverse_26 rfl rfl ?_
        obtain ⟨fs, v4, hx, hv, hw⟩ := hw
        refine bj_get (pc := 27) (ci := 1) (k := 0) (fs := fs) (v := .ref v4) d_M_becomeInverse_27 rfl (by decide) q_78 hx hv ?_
        refine bj_aload_n (pc := 30) 1 d_M_becomeInverse_30 rfl rfl ?_
        obtain ⟨fs, v5, hx, hv, hw⟩ := hw
        refine bj_get (pc := 31) (ci := 1) (k := 0) (fs := fs) (v := .ref v5) d_M_becomeInverse_31 rfl (by decide) q_78 hx hv ?_
        refine bj_iload_n (pc := 34) 2 d_M_becomeInverse_34 rfl rfl ?_
        obtain ⟨n, f, v6, hx, hin, hv, hw⟩ := hw
        refine bj_iald (pc := 35) (n := n) (f := f) d_M_becomeInverse_35 hx hin hv ?_
        refine bj_iload_n (pc := 36) 2 d_M_becomeInverse_36 rfl rfl ?_
        obtain ⟨n, f, hx, hin, hw⟩ := hw
        refine bj_iast (pc := 37) (n := n) (f := f) d_M_becomeInverse_37 hx hin ?_
        exact m_M_becomeInverse_38 hR hnx10 hw
theorem m_M_becomeInverse {l : Launch} {R : Room} (hR : bs_rm 2 R) {Φ : bs_R → bs_H → Prop} {x0 : Nat} {x1 : Nat} {h : bs_H} (hw : w_M_becomeInverse Φ x0 x1 h) : bs_J l K_M_becomeInverse R Φ 0 [(0, .ref x0), (1, .ref x1)] [] h := by
  unfold w_M_becomeInverse at hw
  refine bj_aload_n (pc := 0) 0 d_M_becomeInverse_0 rfl rfl ?_
  refine bj_aload_n (pc := 1) 1 d_M_becomeInverse_1 rfl rfl ?_
  obtain ⟨fs, v1, hx, hv, hw⟩ := hw
  refine bj_get (pc := 2) (ci := 1) (k := 1) (fs := fs) (v := .int v1) d_M_becomeInverse_2 rfl (by decide) q_79 hx hv ?_
  obtain ⟨fs, hx, hlen, hw⟩ := hw
  refine bj_put (pc := 5) (ci := 1) (k := 1) (fs := fs) (v := (.int v1)) (ty := .int) d_M_becomeInverse_5 rfl (by decide) q_79 rfl (by decide +kernel) rfl rfl hx hlen ?_
  refine bj_iconst (pc := 8) (v := 0) d_M_becomeInverse_8 (by decide) ?_
  refine bj_istore_n (pc := 9) (lo' := [(2, .int 0), (0, .ref x0), (1, .ref x1)]) d_M_becomeInverse_9 rfl (by decide) rfl ?_
  refine bj_sub [1, 2, 0] (lo' := [(0, .ref x0), (1, .ref x1), (2, .int 0)]) rfl ?_
  exact m_M_becomeInverse_10 hR 1000 _ _ _ _ hw
theorem d_B_invert_0 : decode prog_1_method_18_code 0 = .ok (.aload_n 0, 1) := by decide +kernel
theorem d_B_invert_1 : decode prog_1_method_18_code 1 = .ok (.getfield 12, 3) := by decide +kernel
theorem d_B_invert_4 : decode prog_1_method_18_code 4 = .ok (.invokevirtual 87, 3) := by decide +kernel
theorem d_B_invert_7 : decode prog_1_method_18_code 7 = .ok (.ifCond .ne 11, 3) := by decide +kernel
theorem d_B_invert_10 : decode prog_1_method_18_code 10 = .ok (.new 98, 3) := by decide +kernel
theorem d_B_invert_13 : decode prog_1_method_18_code 13 = .ok (.dup, 1) := by decide +kernel
theorem d_B_invert_14 : decode prog_1_method_18_code 14 = .ok (.invokespecial 100, 3) := by decide +kernel
theorem d_B_invert_17 : decode prog_1_method_18_code 17 = .ok (.athrow, 1) := by decide +kernel
theorem d_B_invert_18 : decode prog_1_method_18_code 18 = .ok (.aload_n 0, 1) := by decide +kernel
theorem d_B_invert_19 : decode prog_1_method_18_code 19 = .ok (.getfield 16, 3) := by decide +kernel
theorem d_B_invert_22 : decode prog_1_method_18_code 22 = .ok (.aload_n 0, 1) := by decide +kernel
theorem d_B_invert_23 : decode prog_1_method_18_code 23 = .ok (.getfield 12, 3) := by decide +kernel
theorem d_B_invert_26 : decode prog_1_method_18_code 26 = .ok (.invokevirtual 164, 3) := by decide +kernel
theorem d_B_invert_29 : decode prog_1_method_18_code 29 = .ok (.aload_n 0, 1) := by decide +kernel
theorem d_B_invert_30 : decode prog_1_method_18_code 30 = .ok (.getfield 12, 3) := by decide +kernel
theorem d_B_invert_33 : decode prog_1_method_18_code 33 = .ok (.aload_n 0, 1) := by decide +kernel
theorem d_B_invert_34 : decode prog_1_method_18_code 34 = .ok (.getfield 16, 3) := by decide +kernel
theorem d_B_invert_37 : decode prog_1_method_18_code 37 = .ok (.invokevirtual 172, 3) := by decide +kernel
theorem d_B_invert_40 : decode prog_1_method_18_code 40 = .ok (.return_, 1) := by decide +kernel
def w_B_invert (Φ : bs_R → bs_H → Prop) (x0 : Nat) (h : bs_H) : Prop :=
  bs_fA h x0 0 0 (fun v1 => bs_on h v1 1 (w_M_isPermutation (bs_kI Φ fun v2 h3 => (bs_if (v2 = 0) (bs_th h3 Φ "java/lang/UnsupportedOperationException") (bs_fA h3 x0 0 1 (fun v4 => bs_fA h3 x0 0 0 (fun v5 => bs_on h3 v4 1 (w_M_becomeCopy (bs_kV Φ fun h6 => (bs_fA h6 x0 0 0 (fun v7 => bs_fA h6 x0 0 1 (fun v8 => bs_on h6 v7 1 (w_M_becomeInverse (bs_kV Φ fun h9 => (Φ (.ok none) h9)) v7 v8 h6))))) v4 v5 h3)))))) v1 h))
theorem m_B_invert {l : Launch} {R : Room} (hR : bs_rm 3 R) {Φ : bs_R → bs_H → Prop} {x0 : Nat} {h : bs_H} (hw : w_B_invert Φ x0 h) : bs_J l K_B_invert R Φ 0 [(0, .ref x0)] [] h := by
  unfold w_B_invert at hw
  refine bj_aload_n (pc := 0) 0 d_B_invert_0 rfl rfl ?_
  obtain ⟨fs, v1, hx, hv, hw⟩ := hw
  refine bj_get (pc := 1) (ci := 0) (k := 0) (fs := fs) (v := .ref v1) d_B_invert_1 rfl (by decide) q_196 hx hv ?_
  obtain ⟨⟨fs, hx⟩, hw⟩ := hw
  refine bj_callV (pc := 4) (np := 0) (K' := K_M_isPermutation) (argsL := []) (st := []) (d1 := 2) (ci := 1) (fs := fs) rfl d_B_invert_4 (Or.inl q_488) q_489 rfl q_490 c_M_isPermutation n_M_isPermutation hR (by decide) (by decide) rfl (Nat.le_of_ble_eq_true rfl) rfl (Nat.le_of_ble_eq_true rfl) hx (fun R' hR' => m_M_isPermutation hR' hw) (bs_kI_ok fun v2 h3 hw => ?_) (fun _ _ z => z)
  refine bj_if_ne (pc := 7) (tgt := 18) d_B_invert_7 (by decide) (fun hc => ?_) (fun hc => ?_)
  · replace hw := hw.2 hc
    refine bj_aload_n (pc := 18) 0 d_B_invert_18 rfl rfl ?_
    obtain ⟨fs, v4, hx, hv, hw⟩ := hw
    refine bj_get (pc := 19) (ci := 0) (k := 1) (fs := fs) (v := .ref v4) d_B_invert_19 rfl (by decide) q_197 hx hv ?_
    refine bj_aload_n (pc := 22) 0 d_B_invert_22 rfl rfl ?_
    obtain ⟨fs, v5, hx, hv, hw⟩ := hw
    refine bj_get (pc := 23) (ci := 0) (k := 0) (fs := fs) (v := .ref v5) d_B_invert_23 rfl (by decide) q_196 hx hv ?_
    obtain ⟨⟨fs, hx⟩, hw⟩ := hw
    refine bj_callV (pc := 26) (np := 1) (K' := K_M_becomeCopy) (argsL := [.ref v5]) (st := []) (d1 := 1) (ci := 1) (fs := fs) rfl d_B_invert_26 (Or.inl q_689) q_690 rfl q_691 c_M_becomeCopy n_M_becomeCopy hR (by decide) (by decide) rfl (Nat.le_of_ble_eq_true rfl) rfl (Nat.le_of_ble_eq_true rfl) hx (fun R' hR' => m_M_becomeCopy hR' hw) (bs_kV_ok fun h6 hw => ?_) (fun _ _ z => z)
    refine bj_aload_n (pc := 29) 0 d_B_invert_29 rfl rfl ?_
    obtain ⟨fs, v7, hx, hv, hw⟩ := hw
    refine bj_get (pc := 30) (ci := 0) (k := 0) (fs := fs) (v := .ref v7) d_B_invert_30 rfl (by decide) q_196 hx hv ?_
    refine bj_aload_n (pc := 33) 0 d_B_invert_33 rfl rfl ?_
    obtain ⟨fs, v8, hx, hv, hw⟩ := hw
    refine bj_get (pc := 34) (ci := 0) (k := 1) (fs := fs) (v := .ref v8) d_B_invert_34 rfl (by decide) q_197 hx hv ?_
    obtain ⟨⟨fs, hx⟩, hw⟩ := hw
    refine bj_callV (pc := 37) (np := 1) (K' := K_M_becomeInverse) (argsL := [.ref v8]) (st := []) (d1 := 2) (ci := 1) (fs := fs) rfl d_B_invert_37 (Or.inl q_714) q_715 rfl q_716 c_M_becomeInverse n_M_becomeInverse hR (by decide) (by decide) rfl (Nat.le_of_ble_eq_true rfl) rfl (Nat.le_of_ble_eq_true rfl) hx (fun R' hR' => m_M_becomeInverse hR' hw) (bs_kV_ok fun h9 hw => ?_) (fun _ _ z => z)
    exact bj_vret (pc := 40) d_B_invert_40 rfl hw
  · replace hw := hw.1 hc
    obtain ⟨h1, h2, hw⟩ := hw
    exact bj_throw (pc := 10) (names := bs_up2) d_B_invert_10 d_B_invert_13 d_B_invert_14 d_B_invert_17 q_501 q_502 q_59 a_B_100 (by decide +kernel) (by decide +kernel) (by decide) rfl hR (Nat.le_of_ble_eq_true rfl) h1 h2 hw
theorem d_L_invert_0 : decode method_14_code 0 = .ok (.aload_n 0, 1) := by decide +kernel
theorem d_L_invert_1 : decode method_14_code 1 = .ok (.invokevirtual 58, 3) := by decide +kernel
theorem d_L_invert_4 : decode method_14_code 4 = .ok (.goto 6, 3) := by decide +kernel
theorem d_L_invert_7 : decode method_14_code 7 = .ok (.astore_n 1, 1) := by decide +kernel
theorem d_L_invert_8 : decode method_14_code 8 = .ok (.iconst 1, 1) := by decide +kernel
theorem d_L_invert_9 : decode method_14_code 9 = .ok (.ireturn, 1) := by decide +kernel
theorem d_L_invert_10 : decode method_14_code 10 = .ok (.iconst 0, 1) := by decide +kernel
theorem d_L_invert_11 : decode method_14_code 11 = .ok (.ireturn, 1) := by decide +kernel
def w_L_invert_7 (Φ : bs_R → bs_H → Prop) (s0 : Nat) (h : bs_H) : Prop :=
  Φ (.ok (some (.int 1))) h
def w_L_invert (Φ : bs_R → bs_H → Prop) (x0 : Nat) (h : bs_H) : Prop :=
  bs_on h x0 0 (w_B_invert (bs_kV (bs_hd fun E2 h3 => (E2 = "java/lang/UnsupportedOperationException" ∧ ∀ a, w_L_invert_7 Φ a h3)) fun h1 => (Φ (.ok (some (.int 0))) h1)) x0 h)
theorem m_L_invert_7 {l : Launch} {R : Room} {Φ : bs_R → bs_H → Prop} (hR : bs_rm 4 R) {s0 : Nat} {h : bs_H} (hw : w_L_invert_7 Φ s0 h) : bs_J l K_L_invert R Φ 7 [] [.ref s0] h := by
  unfold w_L_invert_7 at hw
  refine bj_astore_n (pc := 7) (lo' := [(1, .ref s0)]) d_L_invert_7 rfl (by decide) rfl ?_
  refine bj_iconst (pc := 8) (v := 1) d_L_invert_8 (by decide) ?_
  exact bj_iret (pc := 9) d_L_invert_9 rfl hw
theorem m_L_invert {l : Launch} {R : Room} (hR : bs_rm 4 R) {Φ : bs_R → bs_H → Prop} {x0 : Nat} {h : bs_H} (hw : w_L_invert Φ x0 h) : bs_J l K_L_invert R Φ 0 [(0, .ref x0)] [] h := by
  unfold w_L_invert at hw
  refine bj_aload_n (pc := 0) 0 d_L_invert_0 rfl rfl ?_
  obtain ⟨⟨fs, hx⟩, hw⟩ := hw
  refine bj_callVC (pc := 1) (np := 0) (K' := K_B_invert) (argsL := []) (st := []) (d1 := 3) (ci := 0) (fs := fs) rfl d_L_invert_1 (Or.inl q_710) q_711 rfl q_712 c_B_invert n_B_invert hR (by decide) (by decide) (Nat.le_of_ble_eq_true rfl) rfl (Nat.le_of_ble_eq_true rfl) hx (fun R' hR' => m_B_invert hR' hw) (bs_kV_ok fun h1 hw => ?_) ?_
  · refine bj_goto (pc := 4) (tgt := 10) d_L_invert_4 (by decide) ?_
    refine bj_iconst (pc := 10) (v := 0) d_L_invert_10 (by decide) ?_
    exact bj_iret (pc := 11) d_L_invert_11 rfl hw
  · intro E2 h3 hw
    obtain ⟨rfl, hw⟩ := hw
    refine ⟨7, bs_hand1 rfl (by decide) (by decide) q_483 q_503, fun a => ?_⟩
    replace hw := hw a
    refine bj_sub [] (lo' := []) rfl ?_
    exact m_L_invert_7 hR hw
theorem d_R_invert_0 : decode prog_9_method_39_code 0 = .ok (.aload_n 0, 1) := by decide +kernel
theorem d_R_invert_1 : decode prog_9_method_39_code 1 = .ok (.aload_n 0, 1) := by decide +kernel
theorem d_R_invert_2 : decode prog_9_method_39_code 2 = .ok (.invokevirtual 118, 3) := by decide +kernel
theorem d_R_invert_5 : decode prog_9_method_39_code 5 = .ok (.ifCond .eq 7, 3) := by decide +kernel
theorem d_R_invert_8 : decode prog_9_method_39_code 8 = .ok (.iconst 0, 1) := by decide +kernel
theorem d_R_invert_9 : decode prog_9_method_39_code 9 = .ok (.goto 4, 3) := by decide +kernel
theorem d_R_invert_12 : decode prog_9_method_39_code 12 = .ok (.iconst 1, 1) := by decide +kernel
theorem d_R_invert_13 : decode prog_9_method_39_code 13 = .ok (.putfield 85, 3) := by decide +kernel
theorem d_R_invert_16 : decode prog_9_method_39_code 16 = .ok (.aload_n 0, 1) := by decide +kernel
theorem d_R_invert_17 : decode prog_9_method_39_code 17 = .ok (.getfield 85, 3) := by decide +kernel
theorem d_R_invert_20 : decode prog_9_method_39_code 20 = .ok (.ifCond .eq 4, 3) := by decide +kernel
theorem d_R_invert_23 : decode prog_9_method_39_code 23 = .ok (.return_, 1) := by decide +kernel
theorem d_R_invert_24 : decode prog_9_method_39_code 24 = .ok (.iconst 0, 1) := by decide +kernel
theorem d_R_invert_25 : decode prog_9_method_39_code 25 = .ok (.istore_n 1, 1) := by decide +kernel
theorem d_R_invert_26 : decode prog_9_method_39_code 26 = .ok (.iload_n 1, 1) := by decide +kernel
theorem d_R_invert_27 : decode prog_9_method_39_code 27 = .ok (.aload_n 0, 1) := by decide +kernel
theorem d_R_invert_28 : decode prog_9_method_39_code 28 = .ok (.getfield 89, 3) := by decide +kernel
theorem d_R_invert_31 : decode prog_9_method_39_code 31 = .ok (.if_icmp .ge 21, 3) := by decide +kernel
theorem d_R_invert_34 : decode prog_9_method_39_code 34 = .ok (.aload_n 0, 1) := by decide +kernel
theorem d_R_invert_35 : decode prog_9_method_39_code 35 = .ok (.getfield 45, 3) := by decide +kernel
theorem d_R_invert_38 : decode prog_9_method_39_code 38 = .ok (.aload_n 0, 1) := by decide +kernel
theorem d_R_invert_39 : decode prog_9_method_39_code 39 = .ok (.getfield 7, 3) := by decide +kernel
theorem d_R_invert_42 : decode prog_9_method_39_code 42 = .ok (.iload_n 1, 1) := by decide +kernel
theorem d_R_invert_43 : decode prog_9_method_39_code 43 = .ok (.iaload, 1) := by decide +kernel
theorem d_R_invert_44 : decode prog_9_method_39_code 44 = .ok (.iload_n 1, 1) := by decide +kernel
theorem d_R_invert_45 : decode prog_9_method_39_code 45 = .ok (.iastore, 1) := by decide +kernel
theorem d_R_invert_46 : decode prog_9_method_39_code 46 = .ok (.iinc 1 1, 3) := by decide +kernel
theorem d_R_invert_49 : decode prog_9_method_39_code 49 = .ok (.goto (-23), 3) := by decide +kernel
theorem d_R_invert_52 : decode prog_9_method_39_code 52 = .ok (.iconst 0, 1) := by decide +kernel
theorem d_R_invert_53 : decode prog_9_method_39_code 53 = .ok (.istore_n 1, 1) := by decide +kernel
theorem d_R_invert_54 : decode prog_9_method_39_code 54 = .ok (.iload_n 1, 1) := by decide +kernel
theorem d_R_invert_55 : decode prog_9_method_39_code 55 = .ok (.aload_n 0, 1) := by decide +kernel
theorem d_R_invert_56 : decode prog_9_method_39_code 56 = .ok (.getfield 89, 3) := by decide +kernel
theorem d_R_invert_59 : decode prog_9_method_39_code 59 = .ok (.if_icmp .ge 21, 3) := by decide +kernel
theorem d_R_invert_62 : decode prog_9_method_39_code 62 = .ok (.aload_n 0, 1) := by decide +kernel
theorem d_R_invert_63 : decode prog_9_method_39_code 63 = .ok (.getfield 7, 3) := by decide +kernel
theorem d_R_invert_66 : decode prog_9_method_39_code 66 = .ok (.iload_n 1, 1) := by decide +kernel
theorem d_R_invert_67 : decode prog_9_method_39_code 67 = .ok (.aload_n 0, 1) := by decide +kernel
theorem d_R_invert_68 : decode prog_9_method_39_code 68 = .ok (.getfield 45, 3) := by decide +kernel
theorem d_R_invert_71 : decode prog_9_method_39_code 71 = .ok (.iload_n 1, 1) := by decide +kernel
theorem d_R_invert_72 : decode prog_9_method_39_code 72 = .ok (.iaload, 1) := by decide +kernel
theorem d_R_invert_73 : decode prog_9_method_39_code 73 = .ok (.iastore, 1) := by decide +kernel
theorem d_R_invert_74 : decode prog_9_method_39_code 74 = .ok (.iinc 1 1, 3) := by decide +kernel
theorem d_R_invert_77 : decode prog_9_method_39_code 77 = .ok (.goto (-23), 3) := by decide +kernel
theorem d_R_invert_80 : decode prog_9_method_39_code 80 = .ok (.return_, 1) := by decide +kernel
def w_R_invert_54_s (Φ : bs_R → bs_H → Prop) (nx54 : Nat → Int32 → bs_H → Prop) (x0 : Nat) (x1 : Int32) (h : bs_H) : Prop :=
  bs_fI h x0 7 1 (fun v1 => bs_if (v1 ≤ x1) (Φ (.ok none) h) (bs_fA h x0 7 2 (fun v2 => bs_fA h x0 7 15 (fun v3 => bs_lI h v3 x1 (fun v4 => bs_sI h v2 x1 v4 (fun h5 => nx54 x0 (x1 + 1) h5))))))
def w_R_invert_54 (Φ : bs_R → bs_H → Prop) : Nat → Nat → Int32 → bs_H → Prop
  | 0 => fun _ _ _ => False
  | n + 1 => fun x0 x1 h => w_R_invert_54_s Φ (w_R_invert_54 Φ n) x0 x1 h
def w_R_invert_26_s (Φ : bs_R → bs_H → Prop) (nx26 : Nat → Int32 → bs_H → Prop) (x0 : Nat) (x1 : Int32) (h : bs_H) : Prop :=
  bs_fI h x0 7 1 (fun v1 => bs_if (v1 ≤ x1) (w_R_invert_54 Φ 1000 x0 0 h) (bs_fA h x0 7 15 (fun v2 => bs_fA h x0 7 2 (fun v3 => bs_lI h v3 x1 (fun v4 => bs_sI h v2 v4 x1 (fun h5 => nx26 x0 (x1 + 1) h5))))))
def w_R_invert_26 (Φ : bs_R → bs_H → Prop) : Nat → Nat → Int32 → bs_H → Prop
  | 0 => fun _ _ _ => False
  | n + 1 => fun x0 x1 h => w_R_invert_26_s Φ (w_R_invert_26 Φ n) x0 x1 h
def w_R_invert_13 (Φ : bs_R → bs_H → Prop) (x0 : Nat) (s0 : Nat) (s1 : Int32) (h : bs_H) : Prop :=
  bs_p h s0 7 0 (.int s1) (fun h1 => bs_fI h1 x0 7 0 (fun v2 => bs_if (v2 = 0) (w_R_invert_26 Φ 1000 x0 0 h1) (Φ (.ok none) h1)))
def w_R_invert (Φ : bs_R → bs_H → Prop) (x0 : Nat) (h : bs_H) : Prop :=
  bs_on h x0 7 (w_R_isPermutation (bs_kI Φ fun v1 h2 => (bs_if (v1 = 0) (w_R_invert_13 Φ x0 x0 1 h2) (w_R_invert_13 Φ x0 x0 0 h2))) x0 h)
theorem m_R_invert_54 {l : Launch} {R : Room} {Φ : bs_R → bs_H → Prop} (hR : bs_rm 2 R) : ∀ (n : Nat) (x0 : Nat) (x1 : Int32) (h : bs_H), w_R_invert_54 Φ n x0 x1 h → bs_J l K_R_invert R Φ 54 [(0, .ref x0), (1, .int x1)] [] h := by
  intro n
  induction n with
  | zero => intro x0 x1 h hw; exact hw.elim
  | succ n ih =>
    have hnx54 := ih
    intro x0 x1 h hw
    replace hw : w_R_invert_54_s Φ (w_R_invert_54 Φ n) x0 x1 h := hw
    unfold w_R_invert_54_s at hw
    refine bj_iload_n (pc := 54) 1 d_R_invert_54 rfl rfl ?_
    refine bj_aload_n (pc := 55) 0 d_R_invert_55 rfl rfl ?_
    obtain ⟨fs, v1, hx, hv, hw⟩ := hw
    refine bj_get (pc := 56) (ci := 7) (k := 1) (fs := fs) (v := .int v1) d_R_invert_56 rfl (by decide) q_749 hx hv ?_
    refine bj_icmp_ge (pc := 59) (tgt := 80) d_R_invert_59 (by decide) (fun hc => ?_) (fun hc => ?_)
    · replace hw := hw.1 hc
      exact bj_vret (pc := 80) d_R_invert_80 rfl hw
    · replace hw := hw.2 hc
      refine bj_aload_n (pc := 62) 0 d_R_invert_62 rfl rfl ?_
      obtain ⟨fs, v2, hx, hv, hw⟩ := hw
      refine bj_get (pc := 63) (ci := 7) (k := 2) (fs := fs) (v := .ref v2) d_R_invert_63 rfl (by decide) q_750 hx hv ?_
      refine bj_iload_n (pc := 66) 1 d_R_invert_66 rfl rfl ?_
      refine bj_aload_n (pc := 67) 0 d_R_invert_67 rfl rfl ?_
      obtain ⟨fs, v3, hx, hv, hw⟩ := hw
      refine bj_get (pc := 68) (ci := 7) (k := 15) (fs := fs) (v := .ref v3) d_R_invert_68 rfl (by decide) q_763 hx hv ?_
      refine bj_iload_n (pc := 71) 1 d_R_invert_71 rfl rfl ?_
      obtain ⟨n, f, v4, hx, hin, hv, hw⟩ := hw
      refine bj_iald (pc := 72) (n := n) (f := f) d_R_invert_72 hx hin hv ?_
      obtain ⟨n, f, hx, hin, hw⟩ := hw
      refine bj_iast (pc := 73) (n := n) (f := f) d_R_invert_73 hx hin ?_
      refine bj_iinc (pc := 74) (v := (x1 + 1)) (lo' := [(1, .int (x1 + 1)), (0, .ref x0)]) 1 d_R_invert_74 rfl rfl (by decide) rfl ?_
      refine bj_goto (pc := 77) (tgt := 54) d_R_invert_77 (by decide) ?_
      refine bj_sub [1, 0] (lo' := [(0, .ref x0), (1, .int (x1 + 1))]) rfl ?_
      exact hnx54 _ _ _ hw
theorem m_R_invert_26 {l : Launch} {R : Room} {Φ : bs_R → bs_H → Prop} (hR : bs_rm 2 R) : ∀ (n : Nat) (x0 : Nat) (x1 : Int32) (h : bs_H), w_R_invert_26 Φ n x0 x1 h → bs_J l K_R_invert R Φ 26 [(0, .ref x0), (1, .int x1)] [] h := by
  intro n
  induction n with
  | zero => intro x0 x1 h hw; exact hw.elim
  | succ n ih =>
    have hnx26 := ih
    intro x0 x1 h hw
    replace hw : w_R_invert_26_s Φ (w_R_invert_26 Φ n) x0 x1 h := hw
    unfold w_R_invert_26_s at hw
    refine bj_iload_n (pc := 26) 1 d_R_invert_26 rfl rfl ?_
    refine bj_aload_n (pc := 27) 0 d_R_invert_27 rfl rfl ?_
    obtain ⟨fs, v1, hx, hv, hw⟩ := hw
    refine bj_get (pc := 28) (ci := 7) (k := 1) (fs := fs) (v := .int v1) d_R_invert_28 rfl (by decide) q_749 hx hv ?_
    refine bj_icmp_ge (pc := 31) (tgt := 52) d_R_invert_31 (by decide) (fun hc => ?_) (fun hc => ?_)
    · replace hw := hw.1 hc
      refine bj_iconst (pc := 52) (v := 0) d_R_invert_52 (by decide) ?_
      refine bj_istore_n (pc := 53) (lo' := [(1, .int 0), (0, .ref x0)]) d_R_invert_53 rfl (by decide) rfl ?_
      refine bj_sub [1, 0] (lo' := [(0, .ref x0), (1, .int 0)]) rfl ?_
      exact m_R_invert_54 hR 1000 _ _ _ hw
    · replace hw := hw.2 hc
      refine bj_aload_n (pc := 34) 0 d_R_invert_34 rfl rfl ?_
      obtain ⟨fs, v2, hx, hv, hw⟩ := hw
      refine bj_get (pc := 35) (ci := 7) (k := 15) (fs := fs) (v := .ref v2) d_R_invert_35 rfl (by decide) q_763 hx hv ?_
      refine bj_aload_n (pc := 38) 0 d_R_invert_38 rfl rfl ?_
      obtain ⟨fs, v3, hx, hv, hw⟩ := hw
      refine bj_get (pc := 39) (ci := 7) (k := 2) (fs := fs) (v := .ref v3) d_R_invert_39 rfl (by decide) q_750 hx hv ?_
      refine bj_iload_n (pc := 42) 1 d_R_invert_42 rfl rfl ?_
      obtain ⟨n, f, v4, hx, hin, hv, hw⟩ := hw
      refine bj_iald (pc := 43) (n := n) (f := f) d_R_invert_43 hx hin hv ?_
      refine bj_iload_n (pc := 44) 1 d_R_invert_44 rfl rfl ?_
      obtain ⟨n, f, hx, hin, hw⟩ := hw
      refine bj_iast (pc := 45) (n := n) (f := f) d_R_invert_45 hx hin ?_
      refine bj_iinc (pc := 46) (v := (x1 + 1)) (lo' := [(1, .int (x1 + 1)), (0, .ref x0)]) 1 d_R_invert_46 rfl rfl (by decide) rfl ?_
      refine bj_goto (pc := 49) (tgt := 26) d_R_invert_49 (by decide) ?_
      refine bj_sub [1, 0] (lo' := [(0, .ref x0), (1, .int (x1 + 1))]) rfl ?_
      exact hnx26 _ _ _ hw
theorem m_R_invert_13 {l : Launch} {R : Room} {Φ : bs_R → bs_H → Prop} (hR : bs_rm 2 R) {x0 : Nat} {s0 : Nat} {s1 : Int32} {h : bs_H} (hw : w_R_invert_13 Φ x0 s0 s1 h) : bs_J l K_R_invert R Φ 13 [(0, .ref x0)] [.int s1, .ref s0] h := by
  unfold w_R_invert_13 at hw
  obtain ⟨fs, hx, hlen, hw⟩ := hw
  refine bj_put (pc := 13) (ci := 7) (k := 0) (fs := fs) (v := (.int s1)) (ty := .int) d_R_invert_13 rfl (by decide) q_748 rfl (by decide +kernel) rfl rfl hx hlen ?_
  refine bj_aload_n (pc := 16) 0 d_R_invert_16 rfl rfl ?_
  obtain ⟨fs, v2, hx, hv, hw⟩ := hw
  refine bj_get (pc := 17) (ci := 7) (k := 0) (fs := fs) (v := .int v2) d_R_invert_17 rfl (by decide) q_748 hx hv ?_
  refine bj_if_eq (pc := 20) (tgt := 24) d_R_invert_20 (by decide) (fun hc => ?_) (fun hc => ?_)
  · replace hw := hw.1 hc
    refine bj_iconst (pc := 24) (v := 0) d_R_invert_24 (by decide) ?_
    refine bj_istore_n (pc := 25) (lo' := [(1, .int 0), (0, .ref x0)]) d_R_invert_25 rfl (by decide) rfl ?_
    refine bj_sub [1, 0] (lo' := [(0, .ref x0), (1, .int 0)]) rfl ?_
    exact m_R_invert_26 hR 1000 _ _ _ hw
  · replace hw := hw.2 hc
    exact bj_vret (pc := 23) d_R_invert_23 rfl hw
theorem m_R_invert {l : Launch} {R : Room} (hR : bs_rm 2 R) {Φ : bs_R → bs_H → Prop} {x0 : Nat} {h : bs_H} (hw : w_R_invert Φ x0 h) : bs_J l K_R_invert R Φ 0 [(0, .ref x0)] [] h := by
  unfold w_R_invert at hw
  refine bj_aload_n (pc := 0) 0 d_R_invert_0 rfl rfl ?_
  refine bj_aload_n (pc := 1) 0 d_R_invert_1 rfl rfl ?_
  obtain ⟨⟨fs, hx⟩, hw⟩ := hw
  refine bj_callV (pc := 2) (np := 0) (K' := K_R_isPermutation) (argsL := []) (st := [.ref x0]) (d1 := 1) (ci := 7) (fs := fs) rfl d_R_invert_2 (Or.inl q_855) q_857 rfl q_25 c_R_isPermutation n_R_isPermutation hR (by decide) (by decide) rfl (Nat.le_of_ble_eq_true rfl) rfl (Nat.le_of_ble_eq_true rfl) hx (fun R' hR' => m_R_isPermutation hR' hw) (bs_kI_ok fun v1 h2 hw => ?_) (fun _ _ z => z)
  refine bj_if_eq (pc := 5) (tgt := 12) d_R_invert_5 (by decide) (fun hc => ?_) (fun hc => ?_)
  · replace hw := hw.1 hc
    refine bj_iconst (pc := 12) (v := 1) d_R_invert_12 (by decide) ?_
    exact m_R_invert_13 hR hw
  · replace hw := hw.2 hc
    refine bj_iconst (pc := 8) (v := 0) d_R_invert_8 (by decide) ?_
    refine bj_goto (pc := 9) (tgt := 13) d_R_invert_9 (by decide) ?_
    exact m_R_invert_13 hR hw
theorem d_B_fieldsOf_0 : decode prog_1_method_26_code 0 = .ok (.lconst 0, 1) := by decide +kernel
theorem d_B_fieldsOf_1 : decode prog_1_method_26_code 1 = .ok (.lstore_n 2, 1) := by decide +kernel
theorem d_B_fieldsOf_2 : decode prog_1_method_26_code 2 = .ok (.iconst 0, 1) := by decide +kernel
theorem d_B_fieldsOf_3 : decode prog_1_method_26_code 3 = .ok (.istore 4, 2) := by decide +kernel
theorem d_B_fieldsOf_5 : decode prog_1_method_26_code 5 = .ok (.iload 4, 2) := by decide +kernel
theorem d_B_fieldsOf_7 : decode prog_1_method_26_code 7 = .ok (.iconst 4, 1) := by decide +kernel
theorem d_B_fieldsOf_8 : decode prog_1_method_26_code 8 = .ok (.if_icmp .ge 29, 3) := by decide +kernel
theorem d_B_fieldsOf_11 : decode prog_1_method_26_code 11 = .ok (.lload_n 0, 1) := by decide +kernel
theorem d_B_fieldsOf_12 : decode prog_1_method_26_code 12 = .ok (.iload 4, 2) := by decide +kernel
theorem d_B_fieldsOf_14 : decode prog_1_method_26_code 14 = .ok (.invokestatic 216, 3) := by decide +kernel
theorem d_B_fieldsOf_17 : decode prog_1_method_26_code 17 = .ok (.ifCond .eq 14, 3) := by decide +kernel
theorem d_B_fieldsOf_20 : decode prog_1_method_26_code 20 = .ok (.lload_n 2, 1) := by decide +kernel
theorem d_B_fieldsOf_21 : decode prog_1_method_26_code 21 = .ok (.ldc2_w 220, 3) := by decide +kernel
theorem d_B_fieldsOf_24 : decode prog_1_method_26_code 24 = .ok (.iconst 4, 1) := by decide +kernel
theorem d_B_fieldsOf_25 : decode prog_1_method_26_code 25 = .ok (.iload 4, 2) := by decide +kernel
theorem d_B_fieldsOf_27 : decode prog_1_method_26_code 27 = .ok (.imul, 1) := by decide +kernel
theorem d_B_fieldsOf_28 : decode prog_1_method_26_code 28 = .ok (.lshl, 1) := by decide +kernel
theorem d_B_fieldsOf_29 : decode prog_1_method_26_code 29 = .ok (.lor, 1) := by decide +kernel
theorem d_B_fieldsOf_30 : decode prog_1_method_26_code 30 = .ok (.lstore_n 2, 1) := by decide +kernel
theorem d_B_fieldsOf_31 : decode prog_1_method_26_code 31 = .ok (.iinc 4 1, 3) := by decide +kernel
theorem d_B_fieldsOf_34 : decode prog_1_method_26_code 34 = .ok (.goto (-29), 3) := by decide +kernel
theorem d_B_fieldsOf_37 : decode prog_1_method_26_code 37 = .ok (.lload_n 2, 1) := by decide +kernel
theorem d_B_fieldsOf_38 : decode prog_1_method_26_code 38 = .ok (.lreturn, 1) := by decide +kernel
def w_B_fieldsOf_31 (Φ : bs_R → bs_H → Prop) (nx5 : Int64 → Int64 → Int32 → bs_H → Prop) (x0 : Int64) (x2 : Int64) (x4 : Int32) (h : bs_H) : Prop :=
  nx5 x0 x2 (x4 + 1) h
def w_B_fieldsOf_5_s (Φ : bs_R → bs_H → Prop) (nx5 : Int64 → Int64 → Int32 → bs_H → Prop) (x0 : Int64) (x2 : Int64) (x4 : Int32) (h : bs_H) : Prop :=
  bs_if ((4 : Int32) ≤ x4) (Φ (.ok (some (.long x2))) h) (w_B_holds (bs_kI Φ fun v1 h2 => (bs_if (v1 = 0) (w_B_fieldsOf_31 Φ nx5 x0 x2 x4 h2) (w_B_fieldsOf_31 Φ nx5 x0 (x2 ||| (bs_shl 15 ((4 : Int32) * x4))) x4 h2))) x0 x4 h)
def w_B_fieldsOf_5 (Φ : bs_R → bs_H → Prop) : Nat → Int64 → Int64 → Int32 → bs_H → Prop
  | 0 => fun _ _ _ _ => False
  | n + 1 => fun x0 x2 x4 h => w_B_fieldsOf_5_s Φ (w_B_fieldsOf_5 Φ n) x0 x2 x4 h
def w_B_fieldsOf (Φ : bs_R → bs_H → Prop) (x0 : Int64) (h : bs_H) : Prop :=
  w_B_fieldsOf_5 Φ 1000 x0 0 0 h
theorem m_B_fieldsOf_31 {l : Launch} {R : Room} {Φ : bs_R → bs_H → Prop} (hR : bs_rm 2 R) {nx5 : Int64 → Int64 → Int32 → bs_H → Prop} (hnx5 : ∀ (x0 : Int64) (x2 : Int64) (x4 : Int32) (h : bs_H), nx5 x0 x2 x4 h → bs_J l K_B_fieldsOf R Φ 5 [(0, .long x0), (2, .long x2), (4, .int x4)] [] h) {x0 : Int64} {x2 : Int64} {x4 : Int32} {h : bs_H} (hw : w_B_fieldsOf_31 Φ nx5 x0 x2 x4 h) : bs_J l K_B_fieldsOf R Φ 31 [(0, .long x0), (2, .long x2), (4, .int x4)] [] h := by
  unfold w_B_fieldsOf_31 at hw
  refine bj_iinc (pc := 31) (v := (x4 + 1)) (lo' := [(4, .int (x4 + 1)), (0, .long x0), (2, .long x2)]) 2 d_B_fieldsOf_31 rfl rfl (by decide) rfl ?_
  refine bj_goto (pc := 34) (tgt := 5) d_B_fieldsOf_34 (by decide) ?_
  refine bj_sub [1, 2, 0] (lo' := [(0, .long x0), (2, .long x2), (4, .int (x4 + 1))]) rfl ?_
  exact hnx5 _ _ _ _ hw
theorem m_B_fieldsOf_5 {l : Launch} {R : Room} {Φ : bs_R → bs_H → Prop} (hR : bs_rm 2 R) : ∀ (n : Nat) (x0 : Int64) (x2 : Int64) (x4 : Int32) (h : bs_H), w_B_fieldsOf_5 Φ n x0 x2 x4 h → bs_J l K_B_fieldsOf R Φ 5 [(0, .long x0), (2, .long x2), (4, .int x4)] [] h := by
  intro n
  induction n with
  | zero => intro x0 x2 x4 h hw; exact hw.elim
  | succ n ih =>
    have hnx5 := ih
    intro x0 x2 x4 h hw
    replace hw : w_B_fieldsOf_5_s Φ (w_B_fieldsOf_5 Φ n) x0 x2 x4 h := hw
    unfold w_B_fieldsOf_5_s at hw
    refine bj_iload (pc := 5) 2 d_B_fieldsOf_5 rfl ?_
    refine bj_iconst (pc := 7) (v := 4) d_B_fieldsOf_7 (by decide) ?_
    refine bj_icmp_ge (pc := 8) (tgt := 37) d_B_fieldsOf_8 (by decide) (fun hc => ?_) (fun hc => ?_)
    · replace hw := hw.1 hc
      refine bj_lload_n (pc := 37) 1 d_B_fieldsOf_37 rfl rfl ?_
      exact bj_lret (pc := 38) d_B_fieldsOf_38 rfl hw
    · replace hw := hw.2 hc
      refine bj_lload_n (pc := 11) 0 d_B_fieldsOf_11 rfl rfl ?_
      refine bj_iload (pc := 12) 2 d_B_fieldsOf_12 rfl ?_
      refine bj_callS (pc := 14) (np := 2) (K' := K_B_holds) (argsL := [.long x0, .int x4]) (st := []) (d1 := 1) rfl d_B_fieldsOf_14 (Or.inl q_735) q_277 q_46 c_B_holds n_B_holds hR (by decide) (by decide) rfl (Nat.le_of_ble_eq_true rfl) rfl (Nat.le_of_ble_eq_true rfl) (fun R' hR' => m_B_holds hR' hw) (bs_kI_ok fun v1 h2 hw => ?_) (fun _ _ z => z)
      refine bj_if_eq (pc := 17) (tgt := 31) d_B_fieldsOf_17 (by decide) (fun hc => ?_) (fun hc => ?_)
      · replace hw := hw.1 hc
        exact m_B_fieldsOf_31 hR hnx5 hw
      · replace hw := hw.2 hc
        refine bj_lload_n (pc := 20) 1 d_B_fieldsOf_20 rfl rfl ?_
        refine bj_ldc2 (pc := 21) (v := 15) d_B_fieldsOf_21 q_736 ?_
        refine bj_iconst (pc := 24) (v := 4) d_B_fieldsOf_24 (by decide) ?_
        refine bj_iload (pc := 25) 2 d_B_fieldsOf_25 rfl ?_
        refine bj_imul (pc := 27) d_B_fieldsOf_27 ?_
        refine bj_lshl (pc := 28) d_B_fieldsOf_28 ?_
        refine bj_lor (pc := 29) d_B_fieldsOf_29 ?_
        refine bj_lstore_n (pc := 30) (lo' := [(2, .long (x2 ||| (bs_shl 15 ((4 : Int32) * x4)))), (0, .long x0), (4, .int x4)]) d_B_fieldsOf_30 rfl (by decide) rfl ?_
        refine bj_sub [1, 0, 2] (lo' := [(0, .long x0), (2, .long (x2 ||| (bs_shl 15 ((4 : Int32) * x4)))), (4, .int x4)]) rfl ?_
        exact m_B_fieldsOf_31 hR hnx5 hw
theorem m_B_fieldsOf {l : Launch} {R : Room} (hR : bs_rm 2 R) {Φ : bs_R → bs_H → Prop} {x0 : Int64} {h : bs_H} (hw : w_B_fieldsOf Φ x0 h) : bs_J l K_B_fieldsOf R Φ 0 [(0, .long x0)] [] h := by
  unfold w_B_fieldsOf at hw
  refine bj_lconst (pc := 0) (v := 0) d_B_fieldsOf_0 (by decide) ?_
  refine bj_lstore_n (pc := 1) (lo' := [(2, .long 0), (0, .long x0)]) d_B_fieldsOf_1 rfl (by decide) rfl ?_
  refine bj_iconst (pc := 2) (v := 0) d_B_fieldsOf_2 (by decide) ?_
  refine bj_istore (pc := 3) (lo' := [(4, .int 0), (2, .long 0), (0, .long x0)]) d_B_fieldsOf_3 (by decide) rfl ?_
  refine bj_sub [2, 1, 0] (lo' := [(0, .long x0), (2, .long 0), (4, .int 0)]) rfl ?_
  exact m_B_fieldsOf_5 hR 1000 _ _ _ _ hw
theorem d_B_canArrange_0 : decode prog_1_method_25_code 0 = .ok (.lload_n 0, 1) := by decide +kernel
theorem d_B_canArrange_1 : decode prog_1_method_25_code 1 = .ok (.lload_n 2, 1) := by decide +kernel
theorem d_B_canArrange_2 : decode prog_1_method_25_code 2 = .ok (.lcmp, 1) := by decide +kernel
theorem d_B_canArrange_3 : decode prog_1_method_25_code 3 = .ok (.ifCond .ne 5, 3) := by decide +kernel
theorem d_B_canArrange_6 : decode prog_1_method_25_code 6 = .ok (.iconst 1, 1) := by decide +kernel
theorem d_B_canArrange_7 : decode prog_1_method_25_code 7 = .ok (.ireturn, 1) := by decide +kernel
theorem d_B_canArrange_8 : decode prog_1_method_25_code 8 = .ok (.iload 5, 2) := by decide +kernel
theorem d_B_canArrange_10 : decode prog_1_method_25_code 10 = .ok (.ifCond .gt 5, 3) := by decide +kernel
theorem d_B_canArrange_13 : decode prog_1_method_25_code 13 = .ok (.iconst 0, 1) := by decide +kernel
theorem d_B_canArrange_14 : decode prog_1_method_25_code 14 = .ok (.ireturn, 1) := by decide +kernel
theorem d_B_canArrange_15 : decode prog_1_method_25_code 15 = .ok (.iconst 1, 1) := by decide +kernel
theorem d_B_canArrange_16 : decode prog_1_method_25_code 16 = .ok (.istore 6, 2) := by decide +kernel
theorem d_B_canArrange_18 : decode prog_1_method_25_code 18 = .ok (.iload 6, 2) := by decide +kernel
theorem d_B_canArrange_20 : decode prog_1_method_25_code 20 = .ok (.iload 4, 2) := by decide +kernel
theorem d_B_canArrange_22 : decode prog_1_method_25_code 22 = .ok (.if_icmp .ge 67, 3) := by decide +kernel
theorem d_B_canArrange_25 : decode prog_1_method_25_code 25 = .ok (.iconst 1, 1) := by decide +kernel
theorem d_B_canArrange_26 : decode prog_1_method_25_code 26 = .ok (.istore 7, 2) := by decide +kernel
theorem d_B_canArrange_28 : decode prog_1_method_25_code 28 = .ok (.iload 7, 2) := by decide +kernel
theorem d_B_canArrange_30 : decode prog_1_method_25_code 30 = .ok (.bipush 16, 2) := by decide +kernel
theorem d_B_canArrange_32 : decode prog_1_method_25_code 32 = .ok (.if_icmp .ge 51, 3) := by decide +kernel
theorem d_B_canArrange_35 : decode prog_1_method_25_code 35 = .ok (.iload 6, 2) := by decide +kernel
theorem d_B_canArrange_37 : decode prog_1_method_25_code 37 = .ok (.iload 7, 2) := by decide +kernel
theorem d_B_canArrange_39 : decode prog_1_method_25_code 39 = .ok (.i2l, 1) := by decide +kernel
theorem d_B_canArrange_40 : decode prog_1_method_25_code 40 = .ok (.iload 4, 2) := by decide +kernel
theorem d_B_canArrange_42 : decode prog_1_method_25_code 42 = .ok (.invokestatic 205, 3) := by decide +kernel
theorem d_B_canArrange_45 : decode prog_1_method_25_code 45 = .ok (.ifCond .eq 32, 3) := by decide +kernel
theorem d_B_canArrange_48 : decode prog_1_method_25_code 48 = .ok (.lload_n 0, 1) := by decide +kernel
theorem d_B_canArrange_49 : decode prog_1_method_25_code 49 = .ok (.iconst 4, 1) := by decide +kernel
theorem d_B_canArrange_50 : decode prog_1_method_25_code 50 = .ok (.iload 6, 2) := by decide +kernel
theorem d_B_canArrange_52 : decode prog_1_method_25_code 52 = .ok (.imul, 1) := by decide +kernel
theorem d_B_canArrange_53 : decode prog_1_method_25_code 53 = .ok (.iload 7, 2) := by decide +kernel
theorem d_B_canArrange_55 : decode prog_1_method_25_code 55 = .ok (.i2l, 1) := by decide +kernel
theorem d_B_canArrange_56 : decode prog_1_method_25_code 56 = .ok (.invokestatic 209, 3) := by decide +kernel
theorem d_B_canArrange_59 : decode prog_1_method_25_code 59 = .ok (.invokestatic 212, 3) := by decide +kernel
theorem d_B_canArrange_62 : decode prog_1_method_25_code 62 = .ok (.lload_n 2, 1) := by decide +kernel
theorem d_B_canArrange_63 : decode prog_1_method_25_code 63 = .ok (.iload 4, 2) := by decide +kernel
theorem d_B_canArrange_65 : decode prog_1_method_25_code 65 = .ok (.iload 5, 2) := by decide +kernel
theorem d_B_canArrange_67 : decode prog_1_method_25_code 67 = .ok (.iconst 1, 1) := by decide +kernel
theorem d_B_canArrange_68 : decode prog_1_method_25_code 68 = .ok (.isub, 1) := by decide +kernel
theorem d_B_canArrange_69 : decode prog_1_method_25_code 69 = .ok (.invokestatic 201, 3) := by decide +kernel
theorem d_B_canArrange_72 : decode prog_1_method_25_code 72 = .ok (.ifCond .eq 5, 3) := by decide +kernel
theorem d_B_canArrange_75 : decode prog_1_method_25_code 75 = .ok (.iconst 1, 1) := by decide +kernel
theorem d_B_canArrange_76 : decode prog_1_method_25_code 76 = .ok (.ireturn, 1) := by decide +kernel
theorem d_B_canArrange_77 : decode prog_1_method_25_code 77 = .ok (.iinc 7 1, 3) := by decide +kernel
theorem d_B_canArrange_80 : decode prog_1_method_25_code 80 = .ok (.goto (-52), 3) := by decide +kernel
theorem d_B_canArrange_83 : decode prog_1_method_25_code 83 = .ok (.iinc 6 1, 3) := by decide +kernel
theorem d_B_canArrange_86 : decode prog_1_method_25_code 86 = .ok (.goto (-68), 3) := by decide +kernel
theorem d_B_canArrange_89 : decode prog_1_method_25_code 89 = .ok (.iconst 0, 1) := by decide +kernel
theorem d_B_canArrange_90 : decode prog_1_method_25_code 90 = .ok (.ireturn, 1) := by decide +kernel
def w_B_canArrange_77 (rec : (bs_R → bs_H → Prop) → Int64 → Int64 → Int32 → Int32 → bs_H → Prop) (Φ : bs_R → bs_H → Prop) (nx18 : Int64 → Int64 → Int32 → Int32 → Int32 → bs_H → Prop) (nx28 : Int64 → Int64 → Int32 → Int32 → Int32 → Int32 → bs_H → Prop) (x0 : Int64) (x2 : Int64) (x4 : Int32) (x5 : Int32) (x6 : Int32) (x7 : Int32) (h : bs_H) : Prop :=
  nx28 x0 x2 x4 x5 x6 (x7 + 1) h
def w_B_canArrange_28_s (rec : (bs_R → bs_H → Prop) → Int64 → Int64 → Int32 → Int32 → bs_H → Prop) (Φ : bs_R → bs_H → Prop) (nx18 : Int64 → Int64 → Int32 → Int32 → Int32 → bs_H → Prop) (nx28 : Int64 → Int64 → Int32 → Int32 → Int32 → Int32 → bs_H → Prop) (x0 : Int64) (x2 : Int64) (x4 : Int32) (x5 : Int32) (x6 : Int32) (x7 : Int32) (h : bs_H) : Prop :=
  bs_if ((16 : Int32) ≤ x7) (nx18 x0 x2 x4 x5 (x6 + 1) h) (w_B_fitsSwap (bs_kI Φ fun v1 h2 => (bs_if (v1 = 0) (w_B_canArrange_77 rec Φ nx18 nx28 x0 x2 x4 x5 x6 x7 h2) (w_B_fieldsOf (bs_kL Φ fun v3 h4 => (w_B_exchanged (bs_kL Φ fun v5 h6 => (rec (bs_kI Φ fun v7 h8 => (bs_if (v7 = 0) (w_B_canArrange_77 rec Φ nx18 nx28 x0 x2 x4 x5 x6 x7 h8) (bs_rZ Φ 1 h8))) v5 x2 x4 (x5 - 1) h6)) x0 ((4 : Int32) * x6) v3 h4)) x7.toInt64 h2))) x6 x7.toInt64 x4 h)
def w_B_canArrange_28 (rec : (bs_R → bs_H → Prop) → Int64 → Int64 → Int32 → Int32 → bs_H → Prop) (Φ : bs_R → bs_H → Prop) (nx18 : Int64 → Int64 → Int32 → Int32 → Int32 → bs_H → Prop) : Nat → Int64 → Int64 → Int32 → Int32 → Int32 → Int32 → bs_H → Prop
  | 0 => fun _ _ _ _ _ _ _ => False
  | n + 1 => fun x0 x2 x4 x5 x6 x7 h => w_B_canArrange_28_s rec Φ nx18 (w_B_canArrange_28 rec Φ nx18 n) x0 x2 x4 x5 x6 x7 h
def w_B_canArrange_18_s (rec : (bs_R → bs_H → Prop) → Int64 → Int64 → Int32 → Int32 → bs_H → Prop) (Φ : bs_R → bs_H → Prop) (nx18 : Int64 → Int64 → Int32 → Int32 → Int32 → bs_H → Prop) (x0 : Int64) (x2 : Int64) (x4 : Int32) (x5 : Int32) (x6 : Int32) (h : bs_H) : Prop :=
  bs_if (x4 ≤ x6) (bs_rZ Φ 0 h) (w_B_canArrange_28 rec Φ nx18 1000 x0 x2 x4 x5 x6 1 h)
def w_B_canArrange_18 (rec : (bs_R → bs_H → Prop) → Int64 → Int64 → Int32 → Int32 → bs_H → Prop) (Φ : bs_R → bs_H → Prop) : Nat → Int64 → Int64 → Int32 → Int32 → Int32 → bs_H → Prop
  | 0 => fun _ _ _ _ _ _ => False
  | n + 1 => fun x0 x2 x4 x5 x6 h => w_B_canArrange_18_s rec Φ (w_B_canArrange_18 rec Φ n) x0 x2 x4 x5 x6 h
def w_B_canArrange_s (rec : (bs_R → bs_H → Prop) → Int64 → Int64 → Int32 → Int32 → bs_H → Prop) (Φ : bs_R → bs_H → Prop) (x0 : Int64) (x2 : Int64) (x4 : Int32) (x5 : Int32) (h : bs_H) : Prop :=
  bs_if (x0 = x2) (bs_rZ Φ 1 h) (bs_if ((0 : Int32) < x5) (w_B_canArrange_18 rec Φ 1000 x0 x2 x4 x5 1 h) (bs_rZ Φ 0 h))
def w_B_canArrange : Nat → (bs_R → bs_H → Prop) → Int64 → Int64 → Int32 → Int32 → bs_H → Prop
  | 0 => fun _ _ _ _ _ _ => False
  | n + 1 => fun Φ x0 x2 x4 x5 h => w_B_canArrange_s (w_B_canArrange n) Φ x0 x2 x4 x5 h
theorem m_B_canArrange_77 {l : Launch} {R : Room} {Φ : bs_R → bs_H → Prop} {rec : (bs_R → bs_H → Prop) → Int64 → Int64 → Int32 → Int32 → bs_H → Prop} {dd : Nat} (hrec : ∀ R' : Room, bs_rm (4 + dd) R' → ∀ (Φ : bs_R → bs_H → Prop) (a0 : Int64) (a2 : Int64) (a4 : Int32) (a5 : Int32) (h : bs_H), rec Φ a0 a2 a4 a5 h → bs_J l K_B_canArrange R' Φ 0 [(0, .long a0), (2, .long a2), (4, .int a4), (5, .int a5)] [] h) (hR : bs_rm (4 + dd + 1) R) {nx18 : Int64 → Int64 → Int32 → Int32 → Int32 → bs_H → Prop} {nx28 : Int64 → Int64 → Int32 → Int32 → Int32 → Int32 → bs_H → Prop} (hnx18 : ∀ (x0 : Int64) (x2 : Int64) (x4 : Int32) (x5 : Int32) (x6 : Int32) (h : bs_H), nx18 x0 x2 x4 x5 x6 h → bs_J l K_B_canArrange R Φ 18 [(0, .long x0), (2, .long x2), (4, .int x4), (5, .int x5), (6, .int x6)] [] h) (hnx28 : ∀ (x0 : Int64) (x2 : Int64) (x4 : Int32) (x5 : Int32) (x6 : Int32) (x7 : Int32) (h : bs_H), nx28 x0 x2 x4 x5 x6 x7 h → bs_J l K_B_canArrange R Φ 28 [(0, .long x0), (2, .long x2), (4, .int x4), (5, .int x5), (6, .int x6), (7, .int x7)] [] h) {x0 : Int64} {x2 : Int64} {x4 : Int32} {x5 : Int32} {x6 : Int32} {x7 : Int32} {h : bs_H} (hw : w_B_canArrange_77 rec Φ nx18 nx28 x0 x2 x4 x5 x6 x7 h) : bs_J l K_B_canArrange R Φ 77 [(0, .long x0), (2, .long x2), (4, .int x4), (5, .int x5), (6, .int x6), (7, .int x7)] [] h := by
  unfold w_B_canArrange_77 at hw
  refine bj_iinc (pc := 77) (v := (x7 + 1)) (lo' := [(7, .int (x7 + 1)), (0, .long x0), (2, .long x2), (4, .int x4), (5, .int x5), (6, .int x6)]) 5 d_B_canArrange_77 rfl rfl (by decide) rfl ?_
  refine bj_goto (pc := 80) (tgt := 28) d_B_canArrange_80 (by decide) ?_
  refine bj_sub [1, 2, 3, 4, 5, 0] (lo' := [(0, .long x0), (2, .long x2), (4, .int x4), (5, .int x5), (6, .int x6), (7, .int (x7 + 1))]) rfl ?_
  exact hnx28 _ _ _ _ _ _ _ hw
theorem m_B_canArrange_28 {l : Launch} {R : Room} {Φ : bs_R → bs_H → Prop} {rec : (bs_R → bs_H → Prop) → Int64 → Int64 → Int32 → Int32 → bs_H → Prop} {dd : Nat} (hrec : ∀ R' : Room, bs_rm (4 + dd) R' → ∀ (Φ : bs_R → bs_H → Prop) (a0 : Int64) (a2 : Int64) (a4 : Int32) (a5 : Int32) (h : bs_H), rec Φ a0 a2 a4 a5 h → bs_J l K_B_canArrange R' Φ 0 [(0, .long a0), (2, .long a2), (4, .int a4), (5, .int a5)] [] h) (hR : bs_rm (4 + dd + 1) R) {nx18 : Int64 → Int64 → Int32 → Int32 → Int32 → bs_H → Prop} (hnx18 : ∀ (x0 : Int64) (x2 : Int64) (x4 : Int32) (x5 : Int32) (x6 : Int32) (h : bs_H), nx18 x0 x2 x4 x5 x6 h → bs_J l K_B_canArrange R Φ 18 [(0, .long x0), (2, .long x2), (4, .int x4), (5, .int x5), (6, .int x6)] [] h) : ∀ (n : Nat) (x0 : Int64) (x2 : Int64) (x4 : Int32) (x5 : Int32) (x6 : Int32) (x7 : Int32) (h : bs_H), w_B_canArrange_28 rec Φ nx18 n x0 x2 x4 x5 x6 x7 h → bs_J l K_B_canArrange R Φ 28 [(0, .long x0), (2, .long x2), (4, .int x4), (5, .int x5), (6, .int x6), (7, .int x7)] [] h := by
  intro n
  induction n with
  | zero => intro x0 x2 x4 x5 x6 x7 h hw; exact hw.elim
  | succ n ih =>
    have hnx28 := ih
    intro x0 x2 x4 x5 x6 x7 h hw
    replace hw : w_B_canArrange_28_s rec Φ nx18 (w_B_canArrange_28 rec Φ nx18 n) x0 x2 x4 x5 x6 x7 h := hw
    unfold w_B_canArrange_28_s at hw
    refine bj_iload (pc := 28) 5 d_B_canArrange_28 rfl ?_
    refine bj_bipush (pc := 30) (v := 16) d_B_canArrange_30 (by decide) ?_
    refine bj_icmp_ge (pc := 32) (tgt := 83) d_B_canArrange_32 (by decide) (fun hc => ?_) (fun hc => ?_)
    · replace hw := hw.1 hc
      refine bj_iinc (pc := 83) (v := (x6 + 1)) (lo' := [(6, .int (x6 + 1)), (0, .long x0), (2, .long x2), (4, .int x4), (5, .int x5), (7, .int x7)]) 4 d_B_canArrange_83 rfl rfl (by decide) rfl ?_
      refine bj_goto (pc := 86) (tgt := 18) d_B_canArrange_86 (by decide) ?_
      refine bj_sub [1, 2, 3, 4, 0] (lo' := [(0, .long x0), (2, .long x2), (4, .int x4), (5, .int x5), (6, .int (x6 + 1))]) rfl ?_
      exact hnx18 _ _ _ _ _ _ hw
    · replace hw := hw.2 hc
      refine bj_iload (pc := 35) 4 d_B_canArrange_35 rfl ?_
      refine bj_iload (pc := 37) 5 d_B_canArrange_37 rfl ?_
      refine bj_i2l (pc := 39) d_B_canArrange_39 ?_
      refine bj_iload (pc := 40) 2 d_B_canArrange_40 rfl ?_
      refine bj_callS (pc := 42) (np := 3) (K' := K_B_fitsSwap) (argsL := [.int x6, .long x7.toInt64, .int x4]) (st := []) (d1 := 3) rfl d_B_canArrange_42 (Or.inl q_639) q_640 q_46 c_B_fitsSwap n_B_fitsSwap hR (by omega) (by decide) rfl (Nat.le_of_ble_eq_true rfl) rfl (Nat.le_of_ble_eq_true rfl) (fun R' hR' => m_B_fitsSwap hR' hw) (bs_kI_ok fun v1 h2 hw => ?_) (fun _ _ z => z)
      refine bj_if_eq (pc := 45) (tgt := 77) d_B_canArrange_45 (by decide) (fun hc => ?_) (fun hc => ?_)
      · replace hw := hw.1 hc
        exact m_B_canArrange_77 hrec hR hnx18 hnx28 hw
      · replace hw := hw.2 hc
        refine bj_lload_n (pc := 48) 0 d_B_canArrange_48 rfl rfl ?_
        refine bj_iconst (pc := 49) (v := 4) d_B_canArrange_49 (by decide) ?_
        refine bj_iload (pc := 50) 4 d_B_canArrange_50 rfl ?_
        refine bj_imul (pc := 52) d_B_canArrange_52 ?_
        refine bj_iload (pc := 53) 5 d_B_canArrange_53 rfl ?_
        refine bj_i2l (pc := 55) d_B_canArrange_55 ?_
        refine bj_callS (pc := 56) (np := 1) (K' := K_B_fieldsOf) (argsL := [.long x7.toInt64]) (st := [.int ((4 : Int32) * x6), .long x0]) (d1 := 2) rfl d_B_canArrange_56 (Or.inl q_732) q_733 q_46 c_B_fieldsOf n_B_fieldsOf hR (by omega) (by decide) rfl (Nat.le_of_ble_eq_true rfl) rfl (Nat.le_of_ble_eq_true rfl) (fun R' hR' => m_B_fieldsOf hR' hw) (bs_kL_ok fun v3 h4 hw => ?_) (fun _ _ z => z)
        refine bj_callS (pc := 59) (np := 3) (K' := K_B_exchanged) (argsL := [.long x0, .int ((4 : Int32) * x6), .long v3]) (st := []) (d1 := 1) rfl d_B_canArrange_59 (Or.inl q_737) q_270 q_46 c_B_exchanged n_B_exchanged hR (by omega) (by decide) rfl (Nat.le_of_ble_eq_true rfl) rfl (Nat.le_of_ble_eq_true rfl) (fun R' hR' => m_B_exchanged hR' hw) (bs_kL_ok fun v5 h6 hw => ?_) (fun _ _ z => z)
        refine bj_lload_n (pc := 62) 1 d_B_canArrange_62 rfl rfl ?_
        refine bj_iload (pc := 63) 2 d_B_canArrange_63 rfl ?_
        refine bj_iload (pc := 65) 3 d_B_canArrange_65 rfl ?_
        refine bj_iconst (pc := 67) (v := 1) d_B_canArrange_67 (by decide) ?_
        refine bj_isub (pc := 68) d_B_canArrange_68 ?_
        refine bj_callS (pc := 69) (np := 4) (K' := K_B_canArrange) (argsL := [.long v5, .long x2, .int x4, .int (x5 - 1)]) (st := []) (d1 := 4 + dd) rfl d_B_canArrange_69 (Or.inl q_729) q_730 q_46 c_B_canArrange n_B_canArrange hR (by omega) (by decide) rfl (Nat.le_of_ble_eq_true rfl) rfl (Nat.le_of_ble_eq_true rfl) (fun R' hR' => hrec R' hR' _ _ _ _ _ _ hw) (bs_kI_ok fun v7 h8 hw => ?_) (fun _ _ z => z)
        refine bj_if_eq (pc := 72) (tgt := 77) d_B_canArrange_72 (by decide) (fun hc => ?_) (fun hc => ?_)
        · replace hw := hw.1 hc
          exact m_B_canArrange_77 hrec hR hnx18 hnx28 hw
        · replace hw := hw.2 hc
          refine bj_iconst (pc := 75) (v := 1) d_B_canArrange_75 (by decide) ?_
          exact bj_zret (pc := 76) d_B_canArrange_76 rfl hw.1 hw.2
theorem m_B_canArrange_18 {l : Launch} {R : Room} {Φ : bs_R → bs_H → Prop} {rec : (bs_R → bs_H → Prop) → Int64 → Int64 → Int32 → Int32 → bs_H → Prop} {dd : Nat} (hrec : ∀ R' : Room, bs_rm (4 + dd) R' → ∀ (Φ : bs_R → bs_H → Prop) (a0 : Int64) (a2 : Int64) (a4 : Int32) (a5 : Int32) (h : bs_H), rec Φ a0 a2 a4 a5 h → bs_J l K_B_canArrange R' Φ 0 [(0, .long a0), (2, .long a2), (4, .int a4), (5, .int a5)] [] h) (hR : bs_rm (4 + dd + 1) R) : ∀ (n : Nat) (x0 : Int64) (x2 : Int64) (x4 : Int32) (x5 : Int32) (x6 : Int32) (h : bs_H), w_B_canArrange_18 rec Φ n x0 x2 x4 x5 x6 h → bs_J l K_B_canArrange R Φ 18 [(0, .long x0), (2, .long x2), (4, .int x4), (5, .int x5), (6, .int x6)] [] h := by
  intro n
  induction n with
  | zero => intro x0 x2 x4 x5 x6 h hw; exact hw.elim
  | succ n ih =>
    have hnx18 := ih
    intro x0 x2 x4 x5 x6 h hw
    replace hw : w_B_canArrange_18_s rec Φ (w_B_canArrange_18 rec Φ n) x0 x2 x4 x5 x6 h := hw
    unfold w_B_canArrange_18_s at hw
    refine bj_iload (pc := 18) 4 d_B_canArrange_18 rfl ?_
    refine bj_iload (pc := 20) 2 d_B_canArrange_20 rfl ?_
    refine bj_icmp_ge (pc := 22) (tgt := 89) d_B_canArrange_22 (by decide) (fun hc => ?_) (fun hc => ?_)
    · replace hw := hw.1 hc
      refine bj_iconst (pc := 89) (v := 0) d_B_canArrange_89 (by decide) ?_
      exact bj_zret (pc := 90) d_B_canArrange_90 rfl hw.1 hw.2
    · replace hw := hw.2 hc
      refine bj_iconst (pc := 25) (v := 1) d_B_canArrange_25 (by decide) ?_
      refine bj_istore (pc := 26) (lo' := [(7, .int 1), (0, .long x0), (2, .long x2), (4, .int x4), (5, .int x5), (6, .int x6)]) d_B_canArrange_26 (by decide) rfl ?_
      refine bj_sub [1, 2, 3, 4, 5, 0] (lo' := [(0, .long x0), (2, .long x2), (4, .int x4), (5, .int x5), (6, .int x6), (7, .int 1)]) rfl ?_
      exact m_B_canArrange_28 hrec hR hnx18 1000 _ _ _ _ _ _ _ hw
theorem m_B_canArrange_s {l : Launch} {R : Room} {Φ : bs_R → bs_H → Prop} {rec : (bs_R → bs_H → Prop) → Int64 → Int64 → Int32 → Int32 → bs_H → Prop} {dd : Nat} (hrec : ∀ R' : Room, bs_rm (4 + dd) R' → ∀ (Φ : bs_R → bs_H → Prop) (a0 : Int64) (a2 : Int64) (a4 : Int32) (a5 : Int32) (h : bs_H), rec Φ a0 a2 a4 a5 h → bs_J l K_B_canArrange R' Φ 0 [(0, .long a0), (2, .long a2), (4, .int a4), (5, .int a5)] [] h) (hR : bs_rm (4 + dd + 1) R) {x0 : Int64} {x2 : Int64} {x4 : Int32} {x5 : Int32} {h : bs_H} (hw : w_B_canArrange_s rec Φ x0 x2 x4 x5 h) : bs_J l K_B_canArrange R Φ 0 [(0, .long x0), (2, .long x2), (4, .int x4), (5, .int x5)] [] h := by
  unfold w_B_canArrange_s at hw
  refine bj_lload_n (pc := 0) 0 d_B_canArrange_0 rfl rfl ?_
  refine bj_lload_n (pc := 1) 1 d_B_canArrange_1 rfl rfl ?_
  refine bj_lc_ne (pc := 2) (tgt := 8) d_B_canArrange_2 d_B_canArrange_3 (by decide) (fun hc => ?_) (fun hc => ?_)
  · replace hw := hw.2 hc
    refine bj_iload (pc := 8) 3 d_B_canArrange_8 rfl ?_
    refine bj_if_gt (pc := 10) (tgt := 15) d_B_canArrange_10 (by decide) (fun hc => ?_) (fun hc => ?_)
    · replace hw := hw.1 hc
      refine bj_iconst (pc := 15) (v := 1) d_B_canArrange_15 (by decide) ?_
      refine bj_istore (pc := 16) (lo' := [(6, .int 1), (0, .long x0), (2, .long x2), (4, .int x4), (5, .int x5)]) d_B_canArrange_16 (by decide) rfl ?_
      refine bj_sub [1, 2, 3, 4, 0] (lo' := [(0, .long x0), (2, .long x2), (4, .int x4), (5, .int x5), (6, .int 1)]) rfl ?_
      exact m_B_canArrange_18 hrec hR 1000 _ _ _ _ _ _ hw
    · replace hw := hw.2 hc
      refine bj_iconst (pc := 13) (v := 0) d_B_canArrange_13 (by decide) ?_
      exact bj_zret (pc := 14) d_B_canArrange_14 rfl hw.1 hw.2
  · replace hw := hw.1 hc
    refine bj_iconst (pc := 6) (v := 1) d_B_canArrange_6 (by decide) ?_
    exact bj_zret (pc := 7) d_B_canArrange_7 rfl hw.1 hw.2
theorem m_B_canArrange {l : Launch} : ∀ (n : Nat) {R : Room} (hR : bs_rm (4 + n) R) {Φ : bs_R → bs_H → Prop} {x0 : Int64} {x2 : Int64} {x4 : Int32} {x5 : Int32} {h : bs_H} (hw : w_B_canArrange n Φ x0 x2 x4 x5 h), bs_J l K_B_canArrange R Φ 0 [(0, .long x0), (2, .long x2), (4, .int x4), (5, .int x5)] [] h := by
  intro n
  induction n with
  | zero => intro R hR Φ x0 x2 x4 x5 h hw; exact hw.elim
  | succ n ih =>
    intro R hR Φ x0 x2 x4 x5 h hw
    exact m_B_canArrange_s (dd := n) (fun R' hR' Φ a0 a2 a4 a5 h hz => ih hR' hz) hR hw
theorem d_B_fewestSwaps_0 : decode prog_1_method_24_code 0 = .ok (.lconst 0, 1) := by decide +kernel
theorem d_B_fewestSwaps_1 : decode prog_1_method_24_code 1 = .ok (.lstore_n 1, 1) := by decide +kernel
theorem d_B_fewestSwaps_2 : decode prog_1_method_24_code 2 = .ok (.lconst 0, 1) := by decide +kernel
theorem d_B_fewestSwaps_3 : decode prog_1_method_24_code 3 = .ok (.lstore_n 3, 1) := by decide +kernel
theorem d_B_fewestSwaps_4 : decode prog_1_method_24_code 4 = .ok (.iconst 0, 1) := by decide +kernel
theorem d_B_fewestSwaps_5 : decode prog_1_method_24_code 5 = .ok (.istore 5, 2) := by decide +kernel
theorem d_B_fewestSwaps_7 : decode prog_1_method_24_code 7 = .ok (.iload 5, 2) := by decide +kernel
theorem d_B_fewestSwaps_9 : decode prog_1_method_24_code 9 = .ok (.aload_n 0, 1) := by decide +kernel
theorem d_B_fewestSwaps_10 : decode prog_1_method_24_code 10 = .ok (.getfield 12, 3) := by decide +kernel
theorem d_B_fewestSwaps_13 : decode prog_1_method_24_code 13 = .ok (.invokevirtual 91, 3) := by decide +kernel
theorem d_B_fewestSwaps_16 : decode prog_1_method_24_code 16 = .ok (.if_icmp .ge 38, 3) := by decide +kernel
theorem d_B_fewestSwaps_19 : decode prog_1_method_24_code 19 = .ok (.lload_n 1, 1) := by decide +kernel
theorem d_B_fewestSwaps_20 : decode prog_1_method_24_code 20 = .ok (.iload 5, 2) := by decide +kernel
theorem d_B_fewestSwaps_22 : decode prog_1_method_24_code 22 = .ok (.i2l, 1) := by decide +kernel
theorem d_B_fewestSwaps_23 : decode prog_1_method_24_code 23 = .ok (.iconst 4, 1) := by decide +kernel
theorem d_B_fewestSwaps_24 : decode prog_1_method_24_code 24 = .ok (.iload 5, 2) := by decide +kernel
theorem d_B_fewestSwaps_26 : decode prog_1_method_24_code 26 = .ok (.imul, 1) := by decide +kernel
theorem d_B_fewestSwaps_27 : decode prog_1_method_24_code 27 = .ok (.lshl, 1) := by decide +kernel
theorem d_B_fewestSwaps_28 : decode prog_1_method_24_code 28 = .ok (.lor, 1) := by decide +kernel
theorem d_B_fewestSwaps_29 : decode prog_1_method_24_code 29 = .ok (.lstore_n 1, 1) := by decide +kernel
theorem d_B_fewestSwaps_30 : decode prog_1_method_24_code 30 = .ok (.lload_n 3, 1) := by decide +kernel
theorem d_B_fewestSwaps_31 : decode prog_1_method_24_code 31 = .ok (.aload_n 0, 1) := by decide +kernel
theorem d_B_fewestSwaps_32 : decode prog_1_method_24_code 32 = .ok (.getfield 12, 3) := by decide +kernel
theorem d_B_fewestSwaps_35 : decode prog_1_method_24_code 35 = .ok (.iload 5, 2) := by decide +kernel
theorem d_B_fewestSwaps_37 : decode prog_1_method_24_code 37 = .ok (.invokevirtual 83, 3) := by decide +kernel
theorem d_B_fewestSwaps_40 : decode prog_1_method_24_code 40 = .ok (.i2l, 1) := by decide +kernel
theorem d_B_fewestSwaps_41 : decode prog_1_method_24_code 41 = .ok (.iconst 4, 1) := by decide +kernel
theorem d_B_fewestSwaps_42 : decode prog_1_method_24_code 42 = .ok (.iload 5, 2) := by decide +kernel
theorem d_B_fewestSwaps_44 : decode prog_1_method_24_code 44 = .ok (.imul, 1) := by decide +kernel
theorem d_B_fewestSwaps_45 : decode prog_1_method_24_code 45 = .ok (.lshl, 1) := by decide +kernel
theorem d_B_fewestSwaps_46 : decode prog_1_method_24_code 46 = .ok (.lor, 1) := by decide +kernel
theorem d_B_fewestSwaps_47 : decode prog_1_method_24_code 47 = .ok (.lstore_n 3, 1) := by decide +kernel
theorem d_B_fewestSwaps_48 : decode prog_1_method_24_code 48 = .ok (.iinc 5 1, 3) := by decide +kernel
theorem d_B_fewestSwaps_51 : decode prog_1_method_24_code 51 = .ok (.goto (-44), 3) := by decide +kernel
theorem d_B_fewestSwaps_54 : decode prog_1_method_24_code 54 = .ok (.iconst 0, 1) := by decide +kernel
theorem d_B_fewestSwaps_55 : decode prog_1_method_24_code 55 = .ok (.istore 5, 2) := by decide +kernel
theorem d_B_fewestSwaps_57 : decode prog_1_method_24_code 57 = .ok (.iload 5, 2) := by decide +kernel
theorem d_B_fewestSwaps_59 : decode prog_1_method_24_code 59 = .ok (.iconst 3, 1) := by decide +kernel
theorem d_B_fewestSwaps_60 : decode prog_1_method_24_code 60 = .ok (.if_icmp .ge 29, 3) := by decide +kernel
theorem d_B_fewestSwaps_63 : decode prog_1_method_24_code 63 = .ok (.lload_n 1, 1) := by decide +kernel
theorem d_B_fewestSwaps_64 : decode prog_1_method_24_code 64 = .ok (.lload_n 3, 1) := by decide +kernel
theorem d_B_fewestSwaps_65 : decode prog_1_method_24_code 65 = .ok (.aload_n 0, 1) := by decide +kernel
theorem d_B_fewestSwaps_66 : decode prog_1_method_24_code 66 = .ok (.getfield 12, 3) := by decide +kernel
theorem d_B_fewestSwaps_69 : decode prog_1_method_24_code 69 = .ok (.invokevirtual 91, 3) := by decide +kernel
theorem d_B_fewestSwaps_72 : decode prog_1_method_24_code 72 = .ok (.iload 5, 2) := by decide +kernel
theorem d_B_fewestSwaps_74 : decode prog_1_method_24_code 74 = .ok (.invokestatic 201, 3) := by decide +kernel
theorem d_B_fewestSwaps_77 : decode prog_1_method_24_code 77 = .ok (.ifCond .eq 6, 3) := by decide +kernel
theorem d_B_fewestSwaps_80 : decode prog_1_method_24_code 80 = .ok (.iload 5, 2) := by decide +kernel
theorem d_B_fewestSwaps_82 : decode prog_1_method_24_code 82 = .ok (.ireturn, 1) := by decide +kernel
theorem d_B_fewestSwaps_83 : decode prog_1_method_24_code 83 = .ok (.iinc 5 1, 3) := by decide +kernel
theorem d_B_fewestSwaps_86 : decode prog_1_method_24_code 86 = .ok (.goto (-29), 3) := by decide +kernel
theorem d_B_fewestSwaps_89 : decode prog_1_method_24_code 89 = .ok (.iconst 3, 1) := by decide +kernel
theorem d_B_fewestSwaps_90 : decode prog_1_method_24_code 90 = .ok (.ireturn, 1) := by decide +kernel
def w_B_fewestSwaps_57_s (Φ : bs_R → bs_H → Prop) (nx57 : Nat → Int64 → Int64 → Int32 → bs_H → Prop) (x0 : Nat) (x1 : Int64) (x3 : Int64) (x5 : Int32) (h : bs_H) : Prop :=
  bs_if ((3 : Int32) ≤ x5) (Φ (.ok (some (.int 3))) h) (bs_fA h x0 0 0 (fun v1 => bs_on h v1 1 (w_M_bits (bs_kI Φ fun v2 h3 => (w_B_canArrange 5 (bs_kI Φ fun v4 h5 => (bs_if (v4 = 0) (nx57 x0 x1 x3 (x5 + 1) h5) (Φ (.ok (some (.int x5))) h5))) x1 x3 v2 x5 h3)) v1 h)))
def w_B_fewestSwaps_57 (Φ : bs_R → bs_H → Prop) : Nat → Nat → Int64 → Int64 → Int32 → bs_H → Prop
  | 0 => fun _ _ _ _ _ => False
  | n + 1 => fun x0 x1 x3 x5 h => w_B_fewestSwaps_57_s Φ (w_B_fewestSwaps_57 Φ n) x0 x1 x3 x5 h
def w_B_fewestSwaps_7_s (Φ : bs_R → bs_H → Prop) (nx7 : Nat → Int64 → Int64 → Int32 → bs_H → Prop) (x0 : Nat) (x1 : Int64) (x3 : Int64) (x5 : Int32) (h : bs_H) : Prop :=
  bs_fA h x0 0 0 (fun v1 => bs_on h v1 1 (w_M_bits (bs_kI Φ fun v2 h3 => (bs_if (v2 ≤ x5) (w_B_fewestSwaps_57 Φ 1000 x0 x1 x3 0 h3) (bs_fA h3 x0 0 0 (fun v4 => bs_on h3 v4 1 (w_M_sourceOf (bs_kI Φ fun v5 h6 => (nx7 x0 (x1 ||| (bs_shl x5.toInt64 ((4 : Int32) * x5))) (x3 ||| (bs_shl v5.toInt64 ((4 : Int32) * x5))) (x5 + 1) h6)) v4 x5 h3))))) v1 h))
def w_B_fewestSwaps_7 (Φ : bs_R → bs_H → Prop) : Nat → Nat → Int64 → Int64 → Int32 → bs_H → Prop
  | 0 => fun _ _ _ _ _ => False
  | n + 1 => fun x0 x1 x3 x5 h => w_B_fewestSwaps_7_s Φ (w_B_fewestSwaps_7 Φ n) x0 x1 x3 x5 h
def w_B_fewestSwaps (Φ : bs_R → bs_H → Prop) (x0 : Nat) (h : bs_H) : Prop :=
  w_B_fewestSwaps_7 Φ 1000 x0 0 0 0 h
theorem m_B_fewestSwaps_57 {l : Launch} {R : Room} {Φ : bs_R → bs_H → Prop} (hR : bs_rm 10 R) : ∀ (n : Nat) (x0 : Nat) (x1 : Int64) (x3 : Int64) (x5 : Int32) (h : bs_H), w_B_fewestSwaps_57 Φ n x0 x1 x3 x5 h → bs_J l K_B_fewestSwaps R Φ 57 [(0, .ref x0), (1, .long x1), (3, .long x3), (5, .int x5)] [] h := by
  intro n
  induction n with
  | zero => intro x0 x1 x3 x5 h hw; exact hw.elim
  | succ n ih =>
    have hnx57 := ih
    intro x0 x1 x3 x5 h hw
    replace hw : w_B_fewestSwaps_57_s Φ (w_B_fewestSwaps_57 Φ n) x0 x1 x3 x5 h := hw
    unfold w_B_fewestSwaps_57_s at hw
    refine bj_iload (pc := 57) 3 d_B_fewestSwaps_57 rfl ?_
    refine bj_iconst (pc := 59) (v := 3) d_B_fewestSwaps_59 (by decide) ?_
    refine bj_icmp_ge (pc := 60) (tgt := 89) d_B_fewestSwaps_60 (by decide) (fun hc => ?_) (fun hc => ?_)
    · replace hw := hw.1 hc
      refine bj_iconst (pc := 89) (v := 3) d_B_fewestSwaps_89 (by decide) ?_
      exact bj_iret (pc := 90) d_B_fewestSwaps_90 rfl hw
    · replace hw := hw.2 hc
      refine bj_lload_n (pc := 63) 1 d_B_fewestSwaps_63 rfl rfl ?_
      refine bj_lload_n (pc := 64) 2 d_B_fewestSwaps_64 rfl rfl ?_
      refine bj_aload_n (pc := 65) 0 d_B_fewestSwaps_65 rfl rfl ?_
      obtain ⟨fs, v1, hx, hv, hw⟩ := hw
      refine bj_get (pc := 66) (ci := 0) (k := 0) (fs := fs) (v := .ref v1) d_B_fewestSwaps_66 rfl (by decide) q_196 hx hv ?_
      obtain ⟨⟨fs, hx⟩, hw⟩ := hw
      refine bj_callV (pc := 69) (np := 0) (K' := K_M_bits) (argsL := []) (st := [.long x3, .long x1]) (d1 := 1) (ci := 1) (fs := fs) rfl d_B_fewestSwaps_69 (Or.inl q_236) q_237 rfl q_238 c_M_bits n_M_bits hR (by decide) (by decide) rfl (Nat.le_of_ble_eq_true rfl) rfl (Nat.le_of_ble_eq_true rfl) hx (fun R' hR' => m_M_bits hR' hw) (bs_kI_ok fun v2 h3 hw => ?_) (fun _ _ z => z)
      refine bj_iload (pc := 72) 3 d_B_fewestSwaps_72 rfl ?_
      refine bj_callS (pc := 74) (np := 4) (K' := K_B_canArrange) (argsL := [.long x1, .long x3, .int v2, .int x5]) (st := []) (d1 := 9) rfl d_B_fewestSwaps_74 (Or.inl q_729) q_730 q_46 c_B_canArrange n_B_canArrange hR (by decide) (by decide) rfl (Nat.le_of_ble_eq_true rfl) rfl (Nat.le_of_ble_eq_true rfl) (fun R' hR' => m_B_canArrange 5 hR' hw) (bs_kI_ok fun v4 h5 hw => ?_) (fun _ _ z => z)
      refine bj_if_eq (pc := 77) (tgt := 83) d_B_fewestSwaps_77 (by decide) (fun hc => ?_) (fun hc => ?_)
      · replace hw := hw.1 hc
        refine bj_iinc (pc := 83) (v := (x5 + 1)) (lo' := [(5, .int (x5 + 1)), (0, .ref x0), (1, .long x1), (3, .long x3)]) 3 d_B_fewestSwaps_83 rfl rfl (by decide) rfl ?_
        refine bj_goto (pc := 86) (tgt := 57) d_B_fewestSwaps_86 (by decide) ?_
        refine bj_sub [1, 2, 3, 0] (lo' := [(0, .ref x0), (1, .long x1), (3, .long x3), (5, .int (x5 + 1))]) rfl ?_
        exact hnx57 _ _ _ _ _ hw
      · replace hw := hw.2 hc
        refine bj_iload (pc := 80) 3 d_B_fewestSwaps_80 rfl ?_
        exact bj_iret (pc := 82) d_B_fewestSwaps_82 rfl hw
theorem m_B_fewestSwaps_7 {l : Launch} {R : Room} {Φ : bs_R → bs_H → Prop} (hR : bs_rm 10 R) : ∀ (n : Nat) (x0 : Nat) (x1 : Int64) (x3 : Int64) (x5 : Int32) (h : bs_H), w_B_fewestSwaps_7 Φ n x0 x1 x3 x5 h → bs_J l K_B_fewestSwaps R Φ 7 [(0, .ref x0), (1, .long x1), (3, .long x3), (5, .int x5)] [] h := by
  intro n
  induction n with
  | zero => intro x0 x1 x3 x5 h hw; exact hw.elim
  | succ n ih =>
    have hnx7 := ih
    intro x0 x1 x3 x5 h hw
    replace hw : w_B_fewestSwaps_7_s Φ (w_B_fewestSwaps_7 Φ n) x0 x1 x3 x5 h := hw
    unfold w_B_fewestSwaps_7_s at hw
    refine bj_iload (pc := 7) 3 d_B_fewestSwaps_7 rfl ?_
    refine bj_aload_n (pc := 9) 0 d_B_fewestSwaps_9 rfl rfl ?_
    obtain ⟨fs, v1, hx, hv, hw⟩ := hw
    refine bj_get (pc := 10) (ci := 0) (k := 0) (fs := fs) (v := .ref v1) d_B_fewestSwaps_10 rfl (by decide) q_196 hx hv ?_
    obtain ⟨⟨fs, hx⟩, hw⟩ := hw
    refine bj_callV (pc := 13) (np := 0) (K' := K_M_bits) (argsL := []) (st := [.int x5]) (d1 := 1) (ci := 1) (fs := fs) rfl d_B_fewestSwaps_13 (Or.inl q_236) q_237 rfl q_238 c_M_bits n_M_bits hR (by decide) (by decide) rfl (Nat.le_of_ble_eq_true rfl) rfl (Nat.le_of_ble_eq_true rfl) hx (fun R' hR' => m_M_bits hR' hw) (bs_kI_ok fun v2 h3 hw => ?_) (fun _ _ z => z)
    refine bj_icmp_ge (pc := 16) (tgt := 54) d_B_fewestSwaps_16 (by decide) (fun hc => ?_) (fun hc => ?_)
    · replace hw := hw.1 hc
      refine bj_iconst (pc := 54) (v := 0) d_B_fewestSwaps_54 (by decide) ?_
      refine bj_istore (pc := 55) (lo' := [(5, .int 0), (0, .ref x0), (1, .long x1), (3, .long x3)]) d_B_fewestSwaps_55 (by decide) rfl ?_
      refine bj_sub [1, 2, 3, 0] (lo' := [(0, .ref x0), (1, .long x1), (3, .long x3), (5, .int 0)]) rfl ?_
      exact m_B_fewestSwaps_57 hR 1000 _ _ _ _ _ hw
    · replace hw := hw.2 hc
      refine bj_lload_n (pc := 19) 1 d_B_fewestSwaps_19 rfl rfl ?_
      refine bj_iload (pc := 20) 3 d_B_fewestSwaps_20 rfl ?_
      refine bj_i2l (pc := 22) d_B_fewestSwaps_22 ?_
      refine bj_iconst (pc := 23) (v := 4) d_B_fewestSwaps_23 (by decide) ?_
      refine bj_iload (pc := 24) 3 d_B_fewestSwaps_24 rfl ?_
      refine bj_imul (pc := 26) d_B_fewestSwaps_26 ?_
      refine bj_lshl (pc := 27) d_B_fewestSwaps_27 ?_
      refine bj_lor (pc := 28) d_B_fewestSwaps_28 ?_
      refine bj_lstore_n (pc := 29) (lo' := [(1, .long (x1 ||| (bs_shl x5.toInt64 ((4 : Int32) * x5)))), (0, .ref x0), (3, .long x3), (5, .int x5)]) d_B_fewestSwaps_29 rfl (by decide) rfl ?_
      refine bj_lload_n (pc := 30) 2 d_B_fewestSwaps_30 rfl rfl ?_
      refine bj_aload_n (pc := 31) 1 d_B_fewestSwaps_31 rfl rfl ?_
      obtain ⟨fs, v4, hx, hv, hw⟩ := hw
      refine bj_get (pc := 32) (ci := 0) (k := 0) (fs := fs) (v := .ref v4) d_B_fewestSwaps_32 rfl (by decide) q_196 hx hv ?_
      refine bj_iload (pc := 35) 3 d_B_fewestSwaps_35 rfl ?_
      obtain ⟨⟨fs, hx⟩, hw⟩ := hw
      refine bj_callV (pc := 37) (np := 1) (K' := K_M_sourceOf) (argsL := [.int x5]) (st := [.long x3]) (d1 := 1) (ci := 1) (fs := fs) rfl d_B_fewestSwaps_37 (Or.inl q_351) q_352 rfl q_353 c_M_sourceOf n_M_sourceOf hR (by decide) (by decide) rfl (Nat.le_of_ble_eq_true rfl) rfl (Nat.le_of_ble_eq_true rfl) hx (fun R' hR' => m_M_sourceOf hR' hw) (bs_kI_ok fun v5 h6 hw => ?_) (fun _ _ z => z)
      refine bj_i2l (pc := 40) d_B_fewestSwaps_40 ?_
      refine bj_iconst (pc := 41) (v := 4) d_B_fewestSwaps_41 (by decide) ?_
      refine bj_iload (pc := 42) 3 d_B_fewestSwaps_42 rfl ?_
      refine bj_imul (pc := 44) d_B_fewestSwaps_44 ?_
      refine bj_lshl (pc := 45) d_B_fewestSwaps_45 ?_
      refine bj_lor (pc := 46) d_B_fewestSwaps_46 ?_
      refine bj_lstore_n (pc := 47) (lo' := [(3, .long (x3 ||| (bs_shl v5.toInt64 ((4 : Int32) * x5)))), (1, .long (x1 ||| (bs_shl x5.toInt64 ((4 : Int32) * x5)))), (0, .ref x0), (5, .int x5)]) d_B_fewestSwaps_47 rfl (by decide) rfl ?_
      refine bj_iinc (pc := 48) (v := (x5 + 1)) (lo' := [(5, .int (x5 + 1)), (3, .long (x3 ||| (bs_shl v5.toInt64 ((4 : Int32) * x5)))), (1, .long (x1 ||| (bs_shl x5.toInt64 ((4 : Int32) * x5)))), (0, .ref x0)]) 3 d_B_fewestSwaps_48 rfl rfl (by decide) rfl ?_
      refine bj_goto (pc := 51) (tgt := 7) d_B_fewestSwaps_51 (by decide) ?_
      refine bj_sub [3, 2, 1, 0] (lo' := [(0, .ref x0), (1, .long (x1 ||| (bs_shl x5.toInt64 ((4 : Int32) * x5)))), (3, .long (x3 ||| (bs_shl v5.toInt64 ((4 : Int32) * x5)))), (5, .int (x5 + 1))]) rfl ?_
      exact hnx7 _ _ _ _ _ hw
theorem m_B_fewestSwaps {l : Launch} {R : Room} (hR : bs_rm 10 R) {Φ : bs_R → bs_H → Prop} {x0 : Nat} {h : bs_H} (hw : w_B_fewestSwaps Φ x0 h) : bs_J l K_B_fewestSwaps R Φ 0 [(0, .ref x0)] [] h := by
  unfold w_B_fewestSwaps at hw
  refine bj_lconst (pc := 0) (v := 0) d_B_fewestSwaps_0 (by decide) ?_
  refine bj_lstore_n (pc := 1) (lo' := [(1, .long 0), (0, .ref x0)]) d_B_fewestSwaps_1 rfl (by decide) rfl ?_
  refine bj_lconst (pc := 2) (v := 0) d_B_fewestSwaps_2 (by decide) ?_
  refine bj_lstore_n (pc := 3) (lo' := [(3, .long 0), (1, .long 0), (0, .ref x0)]) d_B_fewestSwaps_3 rfl (by decide) rfl ?_
  refine bj_iconst (pc := 4) (v := 0) d_B_fewestSwaps_4 (by decide) ?_
  refine bj_istore (pc := 5) (lo' := [(5, .int 0), (3, .long 0), (1, .long 0), (0, .ref x0)]) d_B_fewestSwaps_5 (by decide) rfl ?_
  refine bj_sub [3, 2, 1, 0] (lo' := [(0, .ref x0), (1, .long 0), (3, .long 0), (5, .int 0)]) rfl ?_
  exact m_B_fewestSwaps_7 hR 1000 _ _ _ _ _ hw
theorem d_B_least_0 : decode prog_1_method_19_code 0 = .ok (.aload_n 0, 1) := by decide +kernel
theorem d_B_least_1 : decode prog_1_method_19_code 1 = .ok (.getfield 12, 3) := by decide +kernel
theorem d_B_least_4 : decode prog_1_method_19_code 4 = .ok (.invokevirtual 91, 3) := by decide +kernel
theorem d_B_least_7 : decode prog_1_method_19_code 7 = .ok (.iconst 4, 1) := by decide +kernel
theorem d_B_least_8 : decode prog_1_method_19_code 8 = .ok (.if_icmp .gt 13, 3) := by decide +kernel
theorem d_B_least_11 : decode prog_1_method_19_code 11 = .ok (.aload_n 0, 1) := by decide +kernel
theorem d_B_least_12 : decode prog_1_method_19_code 12 = .ok (.getfield 12, 3) := by decide +kernel
theorem d_B_least_15 : decode prog_1_method_19_code 15 = .ok (.invokevirtual 87, 3) := by decide +kernel
theorem d_B_least_18 : decode prog_1_method_19_code 18 = .ok (.ifCond .ne 11, 3) := by decide +kernel
theorem d_B_least_21 : decode prog_1_method_19_code 21 = .ok (.new 98, 3) := by decide +kernel
theorem d_B_least_24 : decode prog_1_method_19_code 24 = .ok (.dup, 1) := by decide +kernel
theorem d_B_least_25 : decode prog_1_method_19_code 25 = .ok (.invokespecial 100, 3) := by decide +kernel
theorem d_B_least_28 : decode prog_1_method_19_code 28 = .ok (.athrow, 1) := by decide +kernel
theorem d_B_least_29 : decode prog_1_method_19_code 29 = .ok (.aload_n 0, 1) := by decide +kernel
theorem d_B_least_30 : decode prog_1_method_19_code 30 = .ok (.invokevirtual 175, 3) := by decide +kernel
theorem d_B_least_33 : decode prog_1_method_19_code 33 = .ok (.ireturn, 1) := by decide +kernel
def w_B_least_21 (Φ : bs_R → bs_H → Prop) (h : bs_H) : Prop :=
  bs_th h Φ "java/lang/UnsupportedOperationException"
def w_B_least (Φ : bs_R → bs_H → Prop) (x0 : Nat) (h : bs_H) : Prop :=
  bs_fA h x0 0 0 (fun v1 => bs_on h v1 1 (w_M_bits (bs_kI Φ fun v2 h3 => (bs_if ((4 : Int32) < v2) (w_B_least_21 Φ h3) (bs_fA h3 x0 0 0 (fun v4 => bs_on h3 v4 1 (w_M_isPermutation (bs_kI Φ fun v5 h6 => (bs_if (v5 = 0) (w_B_least_21 Φ h6) (bs_on h6 x0 0 (w_B_fewestSwaps (bs_kI Φ fun v7 h8 => (Φ (.ok (some (.int v7))) h8)) x0 h6)))) v4 h3))))) v1 h))
theorem m_B_least_21 {l : Launch} {R : Room} {Φ : bs_R → bs_H → Prop} (hR : bs_rm 11 R) {h : bs_H} (hw : w_B_least_21 Φ h) : bs_J l K_B_least R Φ 21 [] [] h := by
  unfold w_B_least_21 at hw
  obtain ⟨h1, h2, hw⟩ := hw
  exact bj_throw (pc := 21) (names := bs_up2) d_B_least_21 d_B_least_24 d_B_least_25 d_B_least_28 q_501 q_502 q_59 a_B_100 (by decide +kernel) (by decide +kernel) (by decide) rfl hR (Nat.le_of_ble_eq_true rfl) h1 h2 hw
theorem m_B_least {l : Launch} {R : Room} (hR : bs_rm 11 R) {Φ : bs_R → bs_H → Prop} {x0 : Nat} {h : bs_H} (hw : w_B_least Φ x0 h) : bs_J l K_B_least R Φ 0 [(0, .ref x0)] [] h := by
  unfold w_B_least at hw
  refine bj_aload_n (pc := 0) 0 d_B_least_0 rfl rfl ?_
  obtain ⟨fs, v1, hx, hv, hw⟩ := hw
  refine bj_get (pc := 1) (ci := 0) (k := 0) (fs := fs) (v := .ref v1) d_B_least_1 rfl (by decide) q_196 hx hv ?_
  obtain ⟨⟨fs, hx⟩, hw⟩ := hw
  refine bj_callV (pc := 4) (np := 0) (K' := K_M_bits) (argsL := []) (st := []) (d1 := 1) (ci := 1) (fs := fs) rfl d_B_least_4 (Or.inl q_236) q_237 rfl q_238 c_M_bits n_M_bits hR (by decide) (by decide) rfl (Nat.le_of_ble_eq_true rfl) rfl (Nat.le_of_ble_eq_true rfl) hx (fun R' hR' => m_M_bits hR' hw) (bs_kI_ok fun v2 h3 hw => ?_) (fun _ _ z => z)
  refine bj_iconst (pc := 7) (v := 4) d_B_least_7 (by decide) ?_
  refine bj_icmp_gt (pc := 8) (tgt := 21) d_B_least_8 (by decide) (fun hc => ?_) (fun hc => ?_)
  · replace hw := hw.1 hc
    refine bj_sub [] (lo' := []) rfl ?_
    exact m_B_least_21 hR hw
  · replace hw := hw.2 hc
    refine bj_aload_n (pc := 11) 0 d_B_least_11 rfl rfl ?_
    obtain ⟨fs, v4, hx, hv, hw⟩ := hw
    refine bj_get (pc := 12) (ci := 0) (k := 0) (fs := fs) (v := .ref v4) d_B_least_12 rfl (by decide) q_196 hx hv ?_
    obtain ⟨⟨fs, hx⟩, hw⟩ := hw
    refine bj_callV (pc := 15) (np := 0) (K' := K_M_isPermutation) (argsL := []) (st := []) (d1 := 2) (ci := 1) (fs := fs) rfl d_B_least_15 (Or.inl q_488) q_489 rfl q_490 c_M_isPermutation n_M_isPermutation hR (by decide) (by decide) rfl (Nat.le_of_ble_eq_true rfl) rfl (Nat.le_of_ble_eq_true rfl) hx (fun R' hR' => m_M_isPermutation hR' hw) (bs_kI_ok fun v5 h6 hw => ?_) (fun _ _ z => z)
    refine bj_if_ne (pc := 18) (tgt := 29) d_B_least_18 (by decide) (fun hc => ?_) (fun hc => ?_)
    · replace hw := hw.2 hc
      refine bj_aload_n (pc := 29) 0 d_B_least_29 rfl rfl ?_
      obtain ⟨⟨fs, hx⟩, hw⟩ := hw
      refine bj_callV (pc := 30) (np := 0) (K' := K_B_fewestSwaps) (argsL := []) (st := []) (d1 := 10) (ci := 0) (fs := fs) rfl d_B_least_30 (Or.inl q_725) q_727 rfl q_22 c_B_fewestSwaps n_B_fewestSwaps hR (by decide) (by decide) rfl (Nat.le_of_ble_eq_true rfl) rfl (Nat.le_of_ble_eq_true rfl) hx (fun R' hR' => m_B_fewestSwaps hR' hw) (bs_kI_ok fun v7 h8 hw => ?_) (fun _ _ z => z)
      exact bj_iret (pc := 33) d_B_least_33 rfl hw
    · replace hw := hw.1 hc
      refine bj_sub [] (lo' := []) rfl ?_
      exact m_B_least_21 hR hw
