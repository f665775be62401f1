/-! Decode rows, meanings and rows of: R_goAll, R_run, M_imageOf, B_direct, R_direct, S_shift, S_rotate, S_clearOutside, S_addToResult, S_swap, S_gather, JL_bitCount, S_scatter. Written by program. -/
theorem d_R_goAll_0 : decode prog_9_method_30_code 0 = .ok (.iconst 0, 1) := by decide +kernel
theorem d_R_goAll_1 : decode prog_9_method_30_code 1 = .ok (.istore_n 1, 1) := by decide +kernel
theorem d_R_goAll_2 : decode prog_9_method_30_code 2 = .ok (.iload_n 1, 1) := by decide +kernel
theorem d_R_goAll_3 : decode prog_9_method_30_code 3 = .ok (.aload_n 0, 1) := by decide +kernel
theorem d_R_goAll_4 : decode prog_9_method_30_code 4 = .ok (.getfield 89, 3) := by decide +kernel
theorem d_R_goAll_7 : decode prog_9_method_30_code 7 = .ok (.if_icmp .ge 39, 3) := by decide +kernel
theorem d_R_goAll_10 : decode prog_9_method_30_code 10 = .ok (.aload_n 0, 1) := by decide +kernel
theorem d_R_goAll_11 : decode prog_9_method_30_code 11 = .ok (.getfield 29, 3) := by decide +kernel
theorem d_R_goAll_14 : decode prog_9_method_30_code 14 = .ok (.iload_n 1, 1) := by decide +kernel
theorem d_R_goAll_15 : decode prog_9_method_30_code 15 = .ok (.lconst 1, 1) := by decide +kernel
theorem d_R_goAll_16 : decode prog_9_method_30_code 16 = .ok (.iload_n 1, 1) := by decide +kernel
theorem d_R_goAll_17 : decode prog_9_method_30_code 17 = .ok (.lshl, 1) := by decide +kernel
theorem d_R_goAll_18 : decode prog_9_method_30_code 18 = .ok (.lastore, 1) := by decide +kernel
theorem d_R_goAll_19 : decode prog_9_method_30_code 19 = .ok (.aload_n 0, 1) := by decide +kernel
theorem d_R_goAll_20 : decode prog_9_method_30_code 20 = .ok (.getfield 32, 3) := by decide +kernel
theorem d_R_goAll_23 : decode prog_9_method_30_code 23 = .ok (.iload_n 1, 1) := by decide +kernel
theorem d_R_goAll_24 : decode prog_9_method_30_code 24 = .ok (.lconst 0, 1) := by decide +kernel
theorem d_R_goAll_25 : decode prog_9_method_30_code 25 = .ok (.lastore, 1) := by decide +kernel
theorem d_R_goAll_26 : decode prog_9_method_30_code 26 = .ok (.aload_n 0, 1) := by decide +kernel
theorem d_R_goAll_27 : decode prog_9_method_30_code 27 = .ok (.getfield 35, 3) := by decide +kernel
theorem d_R_goAll_30 : decode prog_9_method_30_code 30 = .ok (.iload_n 1, 1) := by decide +kernel
theorem d_R_goAll_31 : decode prog_9_method_30_code 31 = .ok (.lconst 0, 1) := by decide +kernel
theorem d_R_goAll_32 : decode prog_9_method_30_code 32 = .ok (.lastore, 1) := by decide +kernel
theorem d_R_goAll_33 : decode prog_9_method_30_code 33 = .ok (.aload_n 0, 1) := by decide +kernel
theorem d_R_goAll_34 : decode prog_9_method_30_code 34 = .ok (.getfield 38, 3) := by decide +kernel
theorem d_R_goAll_37 : decode prog_9_method_30_code 37 = .ok (.iload_n 1, 1) := by decide +kernel
theorem d_R_goAll_38 : decode prog_9_method_30_code 38 = .ok (.iconst 0, 1) := by decide +kernel
theorem d_R_goAll_39 : decode prog_9_method_30_code 39 = .ok (.bastore, 1) := by decide +kernel
theorem d_R_goAll_40 : decode prog_9_method_30_code 40 = .ok (.iinc 1 1, 3) := by decide +kernel
theorem d_R_goAll_43 : decode prog_9_method_30_code 43 = .ok (.goto (-41), 3) := by decide +kernel
theorem d_R_goAll_46 : decode prog_9_method_30_code 46 = .ok (.iconst 0, 1) := by decide +kernel
theorem d_R_goAll_47 : decode prog_9_method_30_code 47 = .ok (.istore_n 1, 1) := by decide +kernel
theorem d_R_goAll_48 : decode prog_9_method_30_code 48 = .ok (.iload_n 1, 1) := by decide +kernel
theorem d_R_goAll_49 : decode prog_9_method_30_code 49 = .ok (.aload_n 0, 1) := by decide +kernel
theorem d_R_goAll_50 : decode prog_9_method_30_code 50 = .ok (.getfield 92, 3) := by decide +kernel
theorem d_R_goAll_53 : decode prog_9_method_30_code 53 = .ok (.if_icmp .ge 14, 3) := by decide +kernel
theorem d_R_goAll_56 : decode prog_9_method_30_code 56 = .ok (.aload_n 0, 1) := by decide +kernel
theorem d_R_goAll_57 : decode prog_9_method_30_code 57 = .ok (.iload_n 1, 1) := by decide +kernel
theorem d_R_goAll_58 : decode prog_9_method_30_code 58 = .ok (.invokevirtual 158, 3) := by decide +kernel
theorem d_R_goAll_61 : decode prog_9_method_30_code 61 = .ok (.iinc 1 1, 3) := by decide +kernel
theorem d_R_goAll_64 : decode prog_9_method_30_code 64 = .ok (.goto (-16), 3) := by decide +kernel
theorem d_R_goAll_67 : decode prog_9_method_30_code 67 = .ok (.return_, 1) := by decide +kernel
def w_R_goAll_48_s (Φ : bs_R → bs_H → Prop) (nx48 : Nat → Int32 → bs_H → Prop) (x0 : Nat) (x1 : Int32) (h : bs_H) : Prop :=
  bs_fI h x0 7 3 (fun v1 => bs_if (v1 ≤ x1) (Φ (.ok none) h) (bs_on h x0 7 (w_R_go (bs_kV Φ fun h2 => (nx48 x0 (x1 + 1) h2)) x0 x1 h)))
def w_R_goAll_48 (Φ : bs_R → bs_H → Prop) : Nat → Nat → Int32 → bs_H → Prop
  | 0 => fun _ _ _ => False
  | n + 1 => fun x0 x1 h => w_R_goAll_48_s Φ (w_R_goAll_48 Φ n) x0 x1 h
def w_R_goAll_2_s (Φ : bs_R → bs_H → Prop) (nx2 : Nat → Int32 → bs_H → Prop) (x0 : Nat) (x1 : Int32) (h : bs_H) : Prop :=
  bs_fI h x0 7 1 (fun v1 => bs_if (v1 ≤ x1) (w_R_goAll_48 Φ 1000 x0 0 h) (bs_fA h x0 7 10 (fun v2 => bs_sL h v2 x1 (bs_shl 1 x1) (fun h3 => bs_fA h3 x0 7 11 (fun v4 => bs_sL h3 v4 x1 0 (fun h5 => bs_fA h5 x0 7 12 (fun v6 => bs_sL h5 v6 x1 0 (fun h7 => bs_fA h7 x0 7 13 (fun v8 => bs_sZ h7 v8 x1 0 (fun h9 => nx2 x0 (x1 + 1) h9))))))))))
def w_R_goAll_2 (Φ : bs_R → bs_H → Prop) : Nat → Nat → Int32 → bs_H → Prop
  | 0 => fun _ _ _ => False
  | n + 1 => fun x0 x1 h => w_R_goAll_2_s Φ (w_R_goAll_2 Φ n) x0 x1 h
def w_R_goAll (Φ : bs_R → bs_H → Prop) (x0 : Nat) (h : bs_H) : Prop :=
  w_R_goAll_2 Φ 1000 x0 0 h
theorem m_R_goAll_48 {l : Launch} {R : Room} {Φ : bs_R → bs_H → Prop} (hR : bs_rm 4 R) : ∀ (n : Nat) (x0 : Nat) (x1 : Int32) (h : bs_H), w_R_goAll_48 Φ n x0 x1 h → bs_J l K_R_goAll R Φ 48 [(0, .ref x0), (1, .int x1)] [] h := by
  intro n
  induction n with
  | zero => intro x0 x1 h hw; exact hw.elim
  | succ n ih =>
    have hnx48 := ih
    intro x0 x1 h hw
    replace hw : w_R_goAll_48_s Φ (w_R_goAll_48 Φ n) x0 x1 h := hw
    unfold w_R_goAll_48_s at hw
    refine bj_iload_n (pc := 48) 1 d_R_goAll_48 rfl rfl ?_
    refine bj_aload_n (pc := 49) 0 d_R_goAll_49 rfl rfl ?_
    obtain ⟨fs, v1, hx, hv, hw⟩ := hw
    refine bj_get (pc := 50) (ci := 7) (k := 3) (fs := fs) (v := .int v1) d_R_goAll_50 rfl (by decide) q_751 hx hv ?_
    refine bj_icmp_ge (pc := 53) (tgt := 67) d_R_goAll_53 (by decide) (fun hc => ?_) (fun hc => ?_)
    · replace hw := hw.1 hc
      exact bj_vret (pc := 67) d_R_goAll_67 rfl hw
    · replace hw := hw.2 hc
      refine bj_aload_n (pc := 56) 0 d_R_goAll_56 rfl rfl ?_
      refine bj_iload_n (pc := 57) 1 d_R_goAll_57 rfl rfl ?_
      obtain ⟨⟨fs, hx⟩, hw⟩ := hw
      refine bj_callV (pc := 58) (np := 1) (K' := K_R_go) (argsL := [.int x1]) (st := []) (d1 := 3) (ci := 7) (fs := fs) rfl d_R_goAll_58 (Or.inl q_927) q_929 rfl q_38 c_R_go n_R_go hR (by decide) (by decide) rfl (Nat.le_of_ble_eq_true rfl) rfl (Nat.le_of_ble_eq_true rfl) hx (fun R' hR' => m_R_go hR' hw) (bs_kV_ok fun h2 hw => ?_) (fun _ _ z => z)
      refine bj_iinc (pc := 61) (v := (x1 + 1)) (lo' := [(1, .int (x1 + 1)), (0, .ref x0)]) 1 d_R_goAll_61 rfl rfl (by decide) rfl ?_
      refine bj_goto (pc := 64) (tgt := 48) d_R_goAll_64 (by decide) ?_
      refine bj_sub [1, 0] (lo' := [(0, .ref x0), (1, .int (x1 + 1))]) rfl ?_
      exact hnx48 _ _ _ hw
theorem m_R_goAll_2 {l : Launch} {R : Room} {Φ : bs_R → bs_H → Prop} (hR : bs_rm 4 R) : ∀ (n : Nat) (x0 : Nat) (x1 : Int32) (h : bs_H), w_R_goAll_2 Φ n x0 x1 h → bs_J l K_R_goAll R Φ 2 [(0, .ref x0), (1, .int x1)] [] h := by
  intro n
  induction n with
  | zero => intro x0 x1 h hw; exact hw.elim
  | succ n ih =>
    have hnx2 := ih
    intro x0 x1 h hw
    replace hw : w_R_goAll_2_s Φ (w_R_goAll_2 Φ n) x0 x1 h := hw
    unfold w_R_goAll_2_s at hw
    refine bj_iload_n (pc := 2) 1 d_R_goAll_2 rfl rfl ?_
    refine bj_aload_n (pc := 3) 0 d_R_goAll_3 rfl rfl ?_
    obtain ⟨fs, v1, hx, hv, hw⟩ := hw
    refine bj_get (pc := 4) (ci := 7) (k := 1) (fs := fs) (v := .int v1) d_R_goAll_4 rfl (by decide) q_749 hx hv ?_
    refine bj_icmp_ge (pc := 7) (tgt := 46) d_R_goAll_7 (by decide) (fun hc => ?_) (fun hc => ?_)
    · replace hw := hw.1 hc
      refine bj_iconst (pc := 46) (v := 0) d_R_goAll_46 (by decide) ?_
      refine bj_istore_n (pc := 47) (lo' := [(1, .int 0), (0, .ref x0)]) d_R_goAll_47 rfl (by decide) rfl ?_
      refine bj_sub [1, 0] (lo' := [(0, .ref x0), (1, .int 0)]) rfl ?_
      exact m_R_goAll_48 hR 1000 _ _ _ hw
    · replace hw := hw.2 hc
      refine bj_aload_n (pc := 10) 0 d_R_goAll_10 rfl rfl ?_
      obtain ⟨fs, v2, hx, hv, hw⟩ := hw
      refine bj_get (pc := 11) (ci := 7) (k := 10) (fs := fs) (v := .ref v2) d_R_goAll_11 rfl (by decide) q_758 hx hv ?_
      refine bj_iload_n (pc := 14) 1 d_R_goAll_14 rfl rfl ?_
      refine bj_lconst (pc := 15) (v := 1) d_R_goAll_15 (by decide) ?_
      refine bj_iload_n (pc := 16) 1 d_R_goAll_16 rfl rfl ?_
      refine bj_lshl (pc := 17) d_R_goAll_17 ?_
      obtain ⟨n, f, hx, hin, hw⟩ := hw
      refine bj_last (pc := 18) (n := n) (f := f) d_R_goAll_18 hx hin ?_
      refine bj_aload_n (pc := 19) 0 d_R_goAll_19 rfl rfl ?_
      obtain ⟨fs, v4, hx, hv, hw⟩ := hw
      refine bj_get (pc := 20) (ci := 7) (k := 11) (fs := fs) (v := .ref v4) d_R_goAll_20 rfl (by decide) q_759 hx hv ?_
      refine bj_iload_n (pc := 23) 1 d_R_goAll_23 rfl rfl ?_
      refine bj_lconst (pc := 24) (v := 0) d_R_goAll_24 (by decide) ?_
      obtain ⟨n, f, hx, hin, hw⟩ := hw
      refine bj_last (pc := 25) (n := n) (f := f) d_R_goAll_25 hx hin ?_
      refine bj_aload_n (pc := 26) 0 d_R_goAll_26 rfl rfl ?_
      obtain ⟨fs, v6, hx, hv, hw⟩ := hw
      refine bj_get (pc := 27) (ci := 7) (k := 12) (fs := fs) (v := .ref v6) d_R_goAll_27 rfl (by decide) q_760 hx hv ?_
      refine bj_iload_n (pc := 30) 1 d_R_goAll_30 rfl rfl ?_
      refine bj_lconst (pc := 31) (v := 0) d_R_goAll_31 (by decide) ?_
      obtain ⟨n, f, hx, hin, hw⟩ := hw
      refine bj_last (pc := 32) (n := n) (f := f) d_R_goAll_32 hx hin ?_
      refine bj_aload_n (pc := 33) 0 d_R_goAll_33 rfl rfl ?_
      obtain ⟨fs, v8, hx, hv, hw⟩ := hw
      refine bj_get (pc := 34) (ci := 7) (k := 13) (fs := fs) (v := .ref v8) d_R_goAll_34 rfl (by decide) q_761 hx hv ?_
      refine bj_iload_n (pc := 37) 1 d_R_goAll_37 rfl rfl ?_
      refine bj_iconst (pc := 38) (v := 0) d_R_goAll_38 (by decide) ?_
      obtain ⟨n, f, hx, hin, hn, hw⟩ := hw
      refine bj_zast (pc := 39) (n := n) (f := f) d_R_goAll_39 hx hin hn ?_
      refine bj_iinc (pc := 40) (v := (x1 + 1)) (lo' := [(1, .int (x1 + 1)), (0, .ref x0)]) 1 d_R_goAll_40 rfl rfl (by decide) rfl ?_
      refine bj_goto (pc := 43) (tgt := 2) d_R_goAll_43 (by decide) ?_
      refine bj_sub [1, 0] (lo' := [(0, .ref x0), (1, .int (x1 + 1))]) rfl ?_
      exact hnx2 _ _ _ hw
theorem m_R_goAll {l : Launch} {R : Room} (hR : bs_rm 4 R) {Φ : bs_R → bs_H → Prop} {x0 : Nat} {h : bs_H} (hw : w_R_goAll Φ x0 h) : bs_J l K_R_goAll R Φ 0 [(0, .ref x0)] [] h := by
  unfold w_R_goAll at hw
  refine bj_iconst (pc := 0) (v := 0) d_R_goAll_0 (by decide) ?_
  refine bj_istore_n (pc := 1) (lo' := [(1, .int 0), (0, .ref x0)]) d_R_goAll_1 rfl (by decide) rfl ?_
  refine bj_sub [1, 0] (lo' := [(0, .ref x0), (1, .int 0)]) rfl ?_
  exact m_R_goAll_2 hR 1000 _ _ _ hw
theorem d_R_run_0 : decode prog_9_method_31_code 0 = .ok (.aload_n 0, 1) := by decide +kernel
theorem d_R_run_1 : decode prog_9_method_31_code 1 = .ok (.iconst 0, 1) := by decide +kernel
theorem d_R_run_2 : decode prog_9_method_31_code 2 = .ok (.putfield 85, 3) := by decide +kernel
theorem d_R_run_5 : decode prog_9_method_31_code 5 = .ok (.aload_n 0, 1) := by decide +kernel
theorem d_R_run_6 : decode prog_9_method_31_code 6 = .ok (.invokevirtual 161, 3) := by decide +kernel
theorem d_R_run_9 : decode prog_9_method_31_code 9 = .ok (.lconst 0, 1) := by decide +kernel
theorem d_R_run_10 : decode prog_9_method_31_code 10 = .ok (.lstore_n 3, 1) := by decide +kernel
theorem d_R_run_11 : decode prog_9_method_31_code 11 = .ok (.iconst 0, 1) := by decide +kernel
theorem d_R_run_12 : decode prog_9_method_31_code 12 = .ok (.istore 5, 2) := by decide +kernel
theorem d_R_run_14 : decode prog_9_method_31_code 14 = .ok (.iload 5, 2) := by decide +kernel
theorem d_R_run_16 : decode prog_9_method_31_code 16 = .ok (.aload_n 0, 1) := by decide +kernel
theorem d_R_run_17 : decode prog_9_method_31_code 17 = .ok (.getfield 89, 3) := by decide +kernel
theorem d_R_run_20 : decode prog_9_method_31_code 20 = .ok (.if_icmp .ge 44, 3) := by decide +kernel
theorem d_R_run_23 : decode prog_9_method_31_code 23 = .ok (.aload_n 0, 1) := by decide +kernel
theorem d_R_run_24 : decode prog_9_method_31_code 24 = .ok (.getfield 35, 3) := by decide +kernel
theorem d_R_run_27 : decode prog_9_method_31_code 27 = .ok (.iload 5, 2) := by decide +kernel
theorem d_R_run_29 : decode prog_9_method_31_code 29 = .ok (.laload, 1) := by decide +kernel
theorem d_R_run_30 : decode prog_9_method_31_code 30 = .ok (.lload_n 1, 1) := by decide +kernel
theorem d_R_run_31 : decode prog_9_method_31_code 31 = .ok (.land, 1) := by decide +kernel
theorem d_R_run_32 : decode prog_9_method_31_code 32 = .ok (.lconst 0, 1) := by decide +kernel
theorem d_R_run_33 : decode prog_9_method_31_code 33 = .ok (.lcmp, 1) := by decide +kernel
theorem d_R_run_34 : decode prog_9_method_31_code 34 = .ok (.ifCond .ne 13, 3) := by decide +kernel
theorem d_R_run_37 : decode prog_9_method_31_code 37 = .ok (.aload_n 0, 1) := by decide +kernel
theorem d_R_run_38 : decode prog_9_method_31_code 38 = .ok (.getfield 38, 3) := by decide +kernel
theorem d_R_run_41 : decode prog_9_method_31_code 41 = .ok (.iload 5, 2) := by decide +kernel
theorem d_R_run_43 : decode prog_9_method_31_code 43 = .ok (.baload, 1) := by decide +kernel
theorem d_R_run_44 : decode prog_9_method_31_code 44 = .ok (.ifCond .eq 12, 3) := by decide +kernel
theorem d_R_run_47 : decode prog_9_method_31_code 47 = .ok (.lload_n 3, 1) := by decide +kernel
theorem d_R_run_48 : decode prog_9_method_31_code 48 = .ok (.lconst 1, 1) := by decide +kernel
theorem d_R_run_49 : decode prog_9_method_31_code 49 = .ok (.iload 5, 2) := by decide +kernel
theorem d_R_run_51 : decode prog_9_method_31_code 51 = .ok (.lshl, 1) := by decide +kernel
theorem d_R_run_52 : decode prog_9_method_31_code 52 = .ok (.lor, 1) := by decide +kernel
theorem d_R_run_53 : decode prog_9_method_31_code 53 = .ok (.goto 4, 3) := by decide +kernel
theorem d_R_run_56 : decode prog_9_method_31_code 56 = .ok (.lload_n 3, 1) := by decide +kernel
theorem d_R_run_57 : decode prog_9_method_31_code 57 = .ok (.lstore_n 3, 1) := by decide +kernel
theorem d_R_run_58 : decode prog_9_method_31_code 58 = .ok (.iinc 5 1, 3) := by decide +kernel
theorem d_R_run_61 : decode prog_9_method_31_code 61 = .ok (.goto (-47), 3) := by decide +kernel
theorem d_R_run_64 : decode prog_9_method_31_code 64 = .ok (.lload_n 3, 1) := by decide +kernel
theorem d_R_run_65 : decode prog_9_method_31_code 65 = .ok (.lreturn, 1) := by decide +kernel
def w_R_run_57 (Φ : bs_R → bs_H → Prop) (nx14 : Nat → Int64 → Int64 → Int32 → bs_H → Prop) (x0 : Nat) (x1 : Int64) (x5 : Int32) (s0 : Int64) (h : bs_H) : Prop :=
  nx14 x0 x1 s0 (x5 + 1) h
def w_R_run_47 (Φ : bs_R → bs_H → Prop) (nx14 : Nat → Int64 → Int64 → Int32 → bs_H → Prop) (x0 : Nat) (x1 : Int64) (x3 : Int64) (x5 : Int32) (h : bs_H) : Prop :=
  w_R_run_57 Φ nx14 x0 x1 x5 (x3 ||| (bs_shl 1 x5)) h
def w_R_run_14_s (Φ : bs_R → bs_H → Prop) (nx14 : Nat → Int64 → Int64 → Int32 → bs_H → Prop) (x0 : Nat) (x1 : Int64) (x3 : Int64) (x5 : Int32) (h : bs_H) : Prop :=
  bs_fI h x0 7 1 (fun v1 => bs_if (v1 ≤ x5) (Φ (.ok (some (.long x3))) h) (bs_fA h x0 7 12 (fun v2 => bs_lL h v2 x5 (fun v3 => bs_if ((v3 &&& x1) = 0) (bs_fA h x0 7 13 (fun v4 => bs_lZ h v4 x5 (fun v5 => bs_if (v5 = 0) (w_R_run_57 Φ nx14 x0 x1 x5 x3 h) (w_R_run_47 Φ nx14 x0 x1 x3 x5 h)))) (w_R_run_47 Φ nx14 x0 x1 x3 x5 h)))))
def w_R_run_14 (Φ : bs_R → bs_H → Prop) : Nat → Nat → Int64 → Int64 → Int32 → bs_H → Prop
  | 0 => fun _ _ _ _ _ => False
  | n + 1 => fun x0 x1 x3 x5 h => w_R_run_14_s Φ (w_R_run_14 Φ n) x0 x1 x3 x5 h
def w_R_run (Φ : bs_R → bs_H → Prop) (x0 : Nat) (x1 : Int64) (h : bs_H) : Prop :=
  bs_p h x0 7 0 (.int 0) (fun h1 => bs_on h1 x0 7 (w_R_goAll (bs_kV Φ fun h2 => (w_R_run_14 Φ 1000 x0 x1 0 0 h2)) x0 h1))
theorem m_R_run_57 {l : Launch} {R : Room} {Φ : bs_R → bs_H → Prop} (hR : bs_rm 5 R) {nx14 : Nat → Int64 → Int64 → Int32 → bs_H → Prop} (hnx14 : ∀ (x0 : Nat) (x1 : Int64) (x3 : Int64) (x5 : Int32) (h : bs_H), nx14 x0 x1 x3 x5 h → bs_J l K_R_run R Φ 14 [(0, .ref x0), (1, .long x1), (3, .long x3), (5, .int x5)] [] h) {x0 : Nat} {x1 : Int64} {x5 : Int32} {s0 : Int64} {h : bs_H} (hw : w_R_run_57 Φ nx14 x0 x1 x5 s0 h) : bs_J l K_R_run R Φ 57 [(0, .ref x0), (1, .long x1), (5, .int x5)] [.long s0] h := by
  unfold w_R_run_57 at hw
  refine bj_lstore_n (pc := 57) (lo' := [(3, .long s0), (0, .ref x0), (1, .long x1), (5, .int x5)]) d_R_run_57 rfl (by decide) rfl ?_
  refine bj_iinc (pc := 58) (v := (x5 + 1)) (lo' := [(5, .int (x5 + 1)), (3, .long s0), (0, .ref x0), (1, .long x1)]) 3 d_R_run_58 rfl rfl (by decide) rfl ?_
  refine bj_goto (pc := 61) (tgt := 14) d_R_run_61 (by decide) ?_
  refine bj_sub [2, 3, 1, 0] (lo' := [(0, .ref x0), (1, .long x1), (3, .long s0), (5, .int (x5 + 1))]) rfl ?_
  exact hnx14 _ _ _ _ _ hw
theorem m_R_run_47 {l : Launch} {R : Room} {Φ : bs_R → bs_H → Prop} (hR : bs_rm 5 R) {nx14 : Nat → Int64 → Int64 → Int32 → bs_H → Prop} (hnx14 : ∀ (x0 : Nat) (x1 : Int64) (x3 : Int64) (x5 : Int32) (h : bs_H), nx14 x0 x1 x3 x5 h → bs_J l K_R_run R Φ 14 [(0, .ref x0), (1, .long x1), (3, .long x3), (5, .int x5)] [] h) {x0 : Nat} {x1 : Int64} {x3 : Int64} {x5 : Int32} {h : bs_H} (hw : w_R_run_47 Φ nx14 x0 x1 x3 x5 h) : bs_J l K_R_run R Φ 47 [(0, .ref x0), (1, .long x1), (3, .long x3), (5, .int x5)] [] h := by
  unfold w_R_run_47 at hw
  refine bj_lload_n (pc := 47) 2 d_R_run_47 rfl rfl ?_
  refine bj_lconst (pc := 48) (v := 1) d_R_run_48 (by decide) ?_
  refine bj_iload (pc := 49) 3 d_R_run_49 rfl ?_
  refine bj_lshl (pc := 51) d_R_run_51 ?_
  refine bj_lor (pc := 52) d_R_run_52 ?_
  refine bj_goto (pc := 53) (tgt := 57) d_R_run_53 (by decide) ?_
  refine bj_sub [0, 1, 3] (lo' := [(0, .ref x0), (1, .long x1), (5, .int x5)]) rfl ?_
  exact m_R_run_57 hR hnx14 hw
theorem m_R_run_14 {l : Launch} {R : Room} {Φ : bs_R → bs_H → Prop} (hR : bs_rm 5 R) : ∀ (n : Nat) (x0 : Nat) (x1 : Int64) (x3 : Int64) (x5 : Int32) (h : bs_H), w_R_run_14 Φ n x0 x1 x3 x5 h → bs_J l K_R_run R Φ 14 [(0, .ref x0), (1, .long x1), (3, .long x3), (5, .int x5)] [] h := by
  intro n
  induction n with
  | zero => intro x0 x1 x3 x5 h hw; exact hw.elim
  | succ n ih =>
    have hnx14 := ih
    intro x0 x1 x3 x5 h hw
    replace hw : w_R_run_14_s Φ (w_R_run_14 Φ n) x0 x1 x3 x5 h := hw
    unfold w_R_run_14_s at hw
    refine bj_iload (pc := 14) 3 d_R_run_14 rfl ?_
    refine bj_aload_n (pc := 16) 0 d_R_run_16 rfl rfl ?_
    obtain ⟨fs, v1, hx, hv, hw⟩ := hw
    refine bj_get (pc := 17) (ci := 7) (k := 1) (fs := fs) (v := .int v1) d_R_run_17 rfl (by decide) q_749 hx hv ?_
    refine bj_icmp_ge (pc := 20) (tgt := 64) d_R_run_20 (by decide) (fun hc => ?_) (fun hc => ?_)
    · replace hw := hw.1 hc
      refine bj_lload_n (pc := 64) 2 d_R_run_64 rfl rfl ?_
      exact bj_lret (pc := 65) d_R_run_65 rfl hw
    · replace hw := hw.2 hc
      refine bj_aload_n (pc := 23) 0 d_R_run_23 rfl rfl ?_
      obtain ⟨fs, v2, hx, hv, hw⟩ := hw
      refine bj_get (pc := 24) (ci := 7) (k := 12) (fs := fs) (v := .ref v2) d_R_run_24 rfl (by decide) q_760 hx hv ?_
      refine bj_iload (pc := 27) 3 d_R_run_27 rfl ?_
      obtain ⟨n, f, v3, hx, hin, hv, hw⟩ := hw
      refine bj_lald (pc := 29) (n := n) (f := f) d_R_run_29 hx hin hv ?_
      refine bj_lload_n (pc := 30) 1 d_R_run_30 rfl rfl ?_
      refine bj_land (pc := 31) d_R_run_31 ?_
      refine bj_lconst (pc := 32) (v := 0) d_R_run_32 (by decide) ?_
      refine bj_lc_ne (pc := 33) (tgt := 47) d_R_run_33 d_R_run_34 (by decide) (fun hc => ?_) (fun hc => ?_)
      · replace hw := hw.2 hc
        exact m_R_run_47 hR hnx14 hw
      · replace hw := hw.1 hc
        refine bj_aload_n (pc := 37) 0 d_R_run_37 rfl rfl ?_
        obtain ⟨fs, v4, hx, hv, hw⟩ := hw
        refine bj_get (pc := 38) (ci := 7) (k := 13) (fs := fs) (v := .ref v4) d_R_run_38 rfl (by decide) q_761 hx hv ?_
        refine bj_iload (pc := 41) 3 d_R_run_41 rfl ?_
        obtain ⟨n, f, v5, hx, hin, hv, hw⟩ := hw
        refine bj_zald (pc := 43) (n := n) (f := f) d_R_run_43 hx hin hv ?_
        refine bj_if_eq (pc := 44) (tgt := 56) d_R_run_44 (by decide) (fun hc => ?_) (fun hc => ?_)
        · replace hw := hw.1 hc
          refine bj_lload_n (pc := 56) 2 d_R_run_56 rfl rfl ?_
          refine bj_sub [0, 1, 3] (lo' := [(0, .ref x0), (1, .long x1), (5, .int x5)]) rfl ?_
          exact m_R_run_57 hR hnx14 hw
        · replace hw := hw.2 hc
          exact m_R_run_47 hR hnx14 hw
theorem m_R_run {l : Launch} {R : Room} (hR : bs_rm 5 R) {Φ : bs_R → bs_H → Prop} {x0 : Nat} {x1 : Int64} {h : bs_H} (hw : w_R_run Φ x0 x1 h) : bs_J l K_R_run R Φ 0 [(0, .ref x0), (1, .long x1)] [] h := by
  unfold w_R_run at hw
  refine bj_aload_n (pc := 0) 0 d_R_run_0 rfl rfl ?_
  refine bj_iconst (pc := 1) (v := 0) d_R_run_1 (by decide) ?_
  obtain ⟨fs, hx, hlen, hw⟩ := hw
  refine bj_put (pc := 2) (ci := 7) (k := 0) (fs := fs) (v := (.int 0)) (ty := .int) d_R_run_2 rfl (by decide) q_748 rfl (by decide +kernel) rfl rfl hx hlen ?_
  refine bj_aload_n (pc := 5) 0 d_R_run_5 rfl rfl ?_
  obtain ⟨⟨fs, hx⟩, hw⟩ := hw
  refine bj_callV (pc := 6) (np := 0) (K' := K_R_goAll) (argsL := []) (st := []) (d1 := 4) (ci := 7) (fs := fs) rfl d_R_run_6 (Or.inl q_923) q_925 rfl q_37 c_R_goAll n_R_goAll hR (by decide) (by decide) rfl (Nat.le_of_ble_eq_true rfl) rfl (Nat.le_of_ble_eq_true rfl) hx (fun R' hR' => m_R_goAll hR' hw) (bs_kV_ok fun h2 hw => ?_) (fun _ _ z => z)
  refine bj_lconst (pc := 9) (v := 0) d_R_run_9 (by decide) ?_
  refine bj_lstore_n (pc := 10) (lo' := [(3, .long 0), (0, .ref x0), (1, .long x1)]) d_R_run_10 rfl (by decide) rfl ?_
  refine bj_iconst (pc := 11) (v := 0) d_R_run_11 (by decide) ?_
  refine bj_istore (pc := 12) (lo' := [(5, .int 0), (3, .long 0), (0, .ref x0), (1, .long x1)]) d_R_run_12 (by decide) rfl ?_
  refine bj_sub [2, 3, 1, 0] (lo' := [(0, .ref x0), (1, .long x1), (3, .long 0), (5, .int 0)]) rfl ?_
  exact m_R_run_14 hR 1000 _ _ _ _ _ hw
theorem d_M_imageOf_0 : decode prog_2_method_13_code 0 = .ok (.aload_n 0, 1) := by decide +kernel
theorem d_M_imageOf_1 : decode prog_2_method_13_code 1 = .ok (.invokevirtual 36, 3) := by decide +kernel
theorem d_M_imageOf_4 : decode prog_2_method_13_code 4 = .ok (.lstore_n 3, 1) := by decide +kernel
theorem d_M_imageOf_5 : decode prog_2_method_13_code 5 = .ok (.iconst 0, 1) := by decide +kernel
theorem d_M_imageOf_6 : decode prog_2_method_13_code 6 = .ok (.istore 5, 2) := by decide +kernel
theorem d_M_imageOf_8 : decode prog_2_method_13_code 8 = .ok (.iload 5, 2) := by decide +kernel
theorem d_M_imageOf_10 : decode prog_2_method_13_code 10 = .ok (.aload_n 0, 1) := by decide +kernel
theorem d_M_imageOf_11 : decode prog_2_method_13_code 11 = .ok (.getfield 15, 3) := by decide +kernel
theorem d_M_imageOf_14 : decode prog_2_method_13_code 14 = .ok (.if_icmp .ge 39, 3) := by decide +kernel
theorem d_M_imageOf_17 : decode prog_2_method_13_code 17 = .ok (.aload_n 0, 1) := by decide +kernel
theorem d_M_imageOf_18 : decode prog_2_method_13_code 18 = .ok (.iload 5, 2) := by decide +kernel
theorem d_M_imageOf_20 : decode prog_2_method_13_code 20 = .ok (.invokevirtual 29, 3) := by decide +kernel
theorem d_M_imageOf_23 : decode prog_2_method_13_code 23 = .ok (.ifCond .eq 24, 3) := by decide +kernel
theorem d_M_imageOf_26 : decode prog_2_method_13_code 26 = .ok (.lload_n 1, 1) := by decide +kernel
theorem d_M_imageOf_27 : decode prog_2_method_13_code 27 = .ok (.aload_n 0, 1) := by decide +kernel
theorem d_M_imageOf_28 : decode prog_2_method_13_code 28 = .ok (.getfield 9, 3) := by decide +kernel
theorem d_M_imageOf_31 : decode prog_2_method_13_code 31 = .ok (.iload 5, 2) := by decide +kernel
theorem d_M_imageOf_33 : decode prog_2_method_13_code 33 = .ok (.iaload, 1) := by decide +kernel
theorem d_M_imageOf_34 : decode prog_2_method_13_code 34 = .ok (.invokestatic 32, 3) := by decide +kernel
theorem d_M_imageOf_37 : decode prog_2_method_13_code 37 = .ok (.ifCond .eq 10, 3) := by decide +kernel
theorem d_M_imageOf_40 : decode prog_2_method_13_code 40 = .ok (.lload_n 3, 1) := by decide +kernel
theorem d_M_imageOf_41 : decode prog_2_method_13_code 41 = .ok (.lconst 1, 1) := by decide +kernel
theorem d_M_imageOf_42 : decode prog_2_method_13_code 42 = .ok (.iload 5, 2) := by decide +kernel
theorem d_M_imageOf_44 : decode prog_2_method_13_code 44 = .ok (.lshl, 1) := by decide +kernel
theorem d_M_imageOf_45 : decode prog_2_method_13_code 45 = .ok (.lor, 1) := by decide +kernel
theorem d_M_imageOf_46 : decode prog_2_method_13_code 46 = .ok (.lstore_n 3, 1) := by decide +kernel
theorem d_M_imageOf_47 : decode prog_2_method_13_code 47 = .ok (.iinc 5 1, 3) := by decide +kernel
theorem d_M_imageOf_50 : decode prog_2_method_13_code 50 = .ok (.goto (-42), 3) := by decide +kernel
theorem d_M_imageOf_53 : decode prog_2_method_13_code 53 = .ok (.lload_n 3, 1) := by decide +kernel
theorem d_M_imageOf_54 : decode prog_2_method_13_code 54 = .ok (.lreturn, 1) := by decide +kernel
def w_M_imageOf_47 (Φ : bs_R → bs_H → Prop) (nx8 : Nat → Int64 → Int64 → Int32 → bs_H → Prop) (x0 : Nat) (x1 : Int64) (x3 : Int64) (x5 : Int32) (h : bs_H) : Prop :=
  nx8 x0 x1 x3 (x5 + 1) h
def w_M_imageOf_8_s (Φ : bs_R → bs_H → Prop) (nx8 : Nat → Int64 → Int64 → Int32 → bs_H → Prop) (x0 : Nat) (x1 : Int64) (x3 : Int64) (x5 : Int32) (h : bs_H) : Prop :=
  bs_fI h x0 1 1 (fun v1 => bs_if (v1 ≤ x5) (Φ (.ok (some (.long x3))) h) (bs_on h x0 1 (w_M_comesFromWord (bs_kI Φ fun v2 h3 => (bs_if (v2 = 0) (w_M_imageOf_47 Φ nx8 x0 x1 x3 x5 h3) (bs_fA h3 x0 1 0 (fun v4 => bs_lI h3 v4 x5 (fun v5 => w_B_holds (bs_kI Φ fun v6 h7 => (bs_if (v6 = 0) (w_M_imageOf_47 Φ nx8 x0 x1 x3 x5 h7) (w_M_imageOf_47 Φ nx8 x0 x1 (x3 ||| (bs_shl 1 x5)) x5 h7))) x1 v5 h3))))) x0 x5 h)))
def w_M_imageOf_8 (Φ : bs_R → bs_H → Prop) : Nat → Nat → Int64 → Int64 → Int32 → bs_H → Prop
  | 0 => fun _ _ _ _ _ => False
  | n + 1 => fun x0 x1 x3 x5 h => w_M_imageOf_8_s Φ (w_M_imageOf_8 Φ n) x0 x1 x3 x5 h
def w_M_imageOf (Φ : bs_R → bs_H → Prop) (x0 : Nat) (x1 : Int64) (h : bs_H) : Prop :=
  bs_on h x0 1 (w_M_bitsThatAreOne (bs_kL Φ fun v1 h2 => (w_M_imageOf_8 Φ 1000 x0 x1 v1 0 h2)) x0 h)
theorem m_M_imageOf_47 {l : Launch} {R : Room} {Φ : bs_R → bs_H → Prop} (hR : bs_rm 2 R) {nx8 : Nat → Int64 → Int64 → Int32 → bs_H → Prop} (hnx8 : ∀ (x0 : Nat) (x1 : Int64) (x3 : Int64) (x5 : Int32) (h : bs_H), nx8 x0 x1 x3 x5 h → bs_J l K_M_imageOf R Φ 8 [(0, .ref x0), (1, .long x1), (3, .long x3), (5, .int x5)] [] h) {x0 : Nat} {x1 : Int64} {x3 : Int64} {x5 : Int32} {h : bs_H} (hw : w_M_imageOf_47 Φ nx8 x0 x1 x3 x5 h) : bs_J l K_M_imageOf R Φ 47 [(0, .ref x0), (1, .long x1), (3, .long x3), (5, .int x5)] [] h := by
  unfold w_M_imageOf_47 at hw
  refine bj_iinc (pc := 47) (v := (x5 + 1)) (lo' := [(5, .int (x5 + 1)), (0, .ref x0), (1, .long x1), (3, .long x3)]) 3 d_M_imageOf_47 rfl rfl (by decide) rfl ?_
  refine bj_goto (pc := 50) (tgt := 8) d_M_imageOf_50 (by decide) ?_
  refine bj_sub [1, 2, 3, 0] (lo' := [(0, .ref x0), (1, .long x1), (3, .long x3), (5, .int (x5 + 1))]) rfl ?_
  exact hnx8 _ _ _ _ _ hw
theorem m_M_imageOf_8 {l : Launch} {R : Room} {Φ : bs_R → bs_H → Prop} (hR : bs_rm 2 R) : ∀ (n : Nat) (x0 : Nat) (x1 : Int64) (x3 : Int64) (x5 : Int32) (h : bs_H), w_M_imageOf_8 Φ n x0 x1 x3 x5 h → bs_J l K_M_imageOf R Φ 8 [(0, .ref x0), (1, .long x1), (3, .long x3), (5, .int x5)] [] h := by
  intro n
  induction n with
  | zero => intro x0 x1 x3 x5 h hw; exact hw.elim
  | succ n ih =>
    have hnx8 := ih
    intro x0 x1 x3 x5 h hw
    replace hw : w_M_imageOf_8_s Φ (w_M_imageOf_8 Φ n) x0 x1 x3 x5 h := hw
    unfold w_M_imageOf_8_s at hw
    refine bj_iload (pc := 8) 3 d_M_imageOf_8 rfl ?_
    refine bj_aload_n (pc := 10) 0 d_M_imageOf_10 rfl rfl ?_
    obtain ⟨fs, v1, hx, hv, hw⟩ := hw
    refine bj_get (pc := 11) (ci := 1) (k := 1) (fs := fs) (v := .int v1) d_M_imageOf_11 rfl (by decide) q_79 hx hv ?_
    refine bj_icmp_ge (pc := 14) (tgt := 53) d_M_imageOf_14 (by decide) (fun hc => ?_) (fun hc => ?_)
    · replace hw := hw.1 hc
      refine bj_lload_n (pc := 53) 2 d_M_imageOf_53 rfl rfl ?_
      exact bj_lret (pc := 54) d_M_imageOf_54 rfl hw
    · replace hw := hw.2 hc
      refine bj_aload_n (pc := 17) 0 d_M_imageOf_17 rfl rfl ?_
      refine bj_iload (pc := 18) 3 d_M_imageOf_18 rfl ?_
      obtain ⟨⟨fs, hx⟩, hw⟩ := hw
      refine bj_callV (pc := 20) (np := 1) (K' := K_M_comesFromWord) (argsL := [.int x5]) (st := []) (d1 := 1) (ci := 1) (fs := fs) rfl d_M_imageOf_20 (Or.inl q_295) q_296 rfl q_297 c_M_comesFromWord n_M_comesFromWord hR (by decide) (by decide) rfl (Nat.le_of_ble_eq_true rfl) rfl (Nat.le_of_ble_eq_true rfl) hx (fun R' hR' => m_M_comesFromWord hR' hw) (bs_kI_ok fun v2 h3 hw => ?_) (fun _ _ z => z)
      refine bj_if_eq (pc := 23) (tgt := 47) d_M_imageOf_23 (by decide) (fun hc => ?_) (fun hc => ?_)
      · replace hw := hw.1 hc
        exact m_M_imageOf_47 hR hnx8 hw
      · replace hw := hw.2 hc
        refine bj_lload_n (pc := 26) 1 d_M_imageOf_26 rfl rfl ?_
        refine bj_aload_n (pc := 27) 0 d_M_imageOf_27 rfl rfl ?_
        obtain ⟨fs, v4, hx, hv, hw⟩ := hw
        refine bj_get (pc := 28) (ci := 1) (k := 0) (fs := fs) (v := .ref v4) d_M_imageOf_28 rfl (by decide) q_78 hx hv ?_
        refine bj_iload (pc := 31) 3 d_M_imageOf_31 rfl ?_
        obtain ⟨n, f, v5, hx, hin, hv, hw⟩ := hw
        refine bj_iald (pc := 33) (n := n) (f := f) d_M_imageOf_33 hx hin hv ?_
        refine bj_callS (pc := 34) (np := 2) (K' := K_B_holds) (argsL := [.long x1, .int v5]) (st := []) (d1 := 1) rfl d_M_imageOf_34 (Or.inr ⟨_, q_299⟩) q_277 q_46 c_B_holds n_B_holds hR (by decide) (by decide) rfl (Nat.le_of_ble_eq_true rfl) rfl (Nat.le_of_ble_eq_true rfl) (fun R' hR' => m_B_holds hR' hw) (bs_kI_ok fun v6 h7 hw => ?_) (fun _ _ z => z)
        refine bj_if_eq (pc := 37) (tgt := 47) d_M_imageOf_37 (by decide) (fun hc => ?_) (fun hc => ?_)
        · replace hw := hw.1 hc
          exact m_M_imageOf_47 hR hnx8 hw
        · replace hw := hw.2 hc
          refine bj_lload_n (pc := 40) 2 d_M_imageOf_40 rfl rfl ?_
          refine bj_lconst (pc := 41) (v := 1) d_M_imageOf_41 (by decide) ?_
          refine bj_iload (pc := 42) 3 d_M_imageOf_42 rfl ?_
          refine bj_lshl (pc := 44) d_M_imageOf_44 ?_
          refine bj_lor (pc := 45) d_M_imageOf_45 ?_
          refine bj_lstore_n (pc := 46) (lo' := [(3, .long (x3 ||| (bs_shl 1 x5))), (0, .ref x0), (1, .long x1), (5, .int x5)]) d_M_imageOf_46 rfl (by decide) rfl ?_
          refine bj_sub [1, 2, 0, 3] (lo' := [(0, .ref x0), (1, .long x1), (3, .long (x3 ||| (bs_shl 1 x5))), (5, .int x5)]) rfl ?_
          exact m_M_imageOf_47 hR hnx8 hw
theorem m_M_imageOf {l : Launch} {R : Room} (hR : bs_rm 2 R) {Φ : bs_R → bs_H → Prop} {x0 : Nat} {x1 : Int64} {h : bs_H} (hw : w_M_imageOf Φ x0 x1 h) : bs_J l K_M_imageOf R Φ 0 [(0, .ref x0), (1, .long x1)] [] h := by
  unfold w_M_imageOf at hw
  refine bj_aload_n (pc := 0) 0 d_M_imageOf_0 rfl rfl ?_
  obtain ⟨⟨fs, hx⟩, hw⟩ := hw
  refine bj_callV (pc := 1) (np := 0) (K' := K_M_bitsThatAreOne) (argsL := []) (st := []) (d1 := 1) (ci := 1) (fs := fs) rfl d_M_imageOf_1 (Or.inl q_291) q_292 rfl q_293 c_M_bitsThatAreOne n_M_bitsThatAreOne hR (by decide) (by decide) rfl (Nat.le_of_ble_eq_true rfl) rfl (Nat.le_of_ble_eq_true rfl) hx (fun R' hR' => m_M_bitsThatAreOne hR' hw) (bs_kL_ok fun v1 h2 hw => ?_) (fun _ _ z => z)
  refine bj_lstore_n (pc := 4) (lo' := [(3, .long v1), (0, .ref x0), (1, .long x1)]) d_M_imageOf_4 rfl (by decide) rfl ?_
  refine bj_iconst (pc := 5) (v := 0) d_M_imageOf_5 (by decide) ?_
  refine bj_istore (pc := 6) (lo' := [(5, .int 0), (3, .long v1), (0, .ref x0), (1, .long x1)]) d_M_imageOf_6 (by decide) rfl ?_
  refine bj_sub [2, 3, 1, 0] (lo' := [(0, .ref x0), (1, .long x1), (3, .long v1), (5, .int 0)]) rfl ?_
  exact m_M_imageOf_8 hR 1000 _ _ _ _ _ hw
theorem d_B_direct_0 : decode prog_1_method_11_code 0 = .ok (.aload_n 0, 1) := by decide +kernel
theorem d_B_direct_1 : decode prog_1_method_11_code 1 = .ok (.getfield 12, 3) := by decide +kernel
theorem d_B_direct_4 : decode prog_1_method_11_code 4 = .ok (.lload_n 1, 1) := by decide +kernel
theorem d_B_direct_5 : decode prog_1_method_11_code 5 = .ok (.invokevirtual 140, 3) := by decide +kernel
theorem d_B_direct_8 : decode prog_1_method_11_code 8 = .ok (.lreturn, 1) := by decide +kernel
def w_B_direct (Φ : bs_R → bs_H → Prop) (x0 : Nat) (x1 : Int64) (h : bs_H) : Prop :=
  bs_fA h x0 0 0 (fun v1 => bs_on h v1 1 (w_M_imageOf (bs_kL Φ fun v2 h3 => (Φ (.ok (some (.long v2))) h3)) v1 x1 h))
theorem m_B_direct {l : Launch} {R : Room} (hR : bs_rm 3 R) {Φ : bs_R → bs_H → Prop} {x0 : Nat} {x1 : Int64} {h : bs_H} (hw : w_B_direct Φ x0 x1 h) : bs_J l K_B_direct R Φ 0 [(0, .ref x0), (1, .long x1)] [] h := by
  unfold w_B_direct at hw
  refine bj_aload_n (pc := 0) 0 d_B_direct_0 rfl rfl ?_
  obtain ⟨fs, v1, hx, hv, hw⟩ := hw
  refine bj_get (pc := 1) (ci := 0) (k := 0) (fs := fs) (v := .ref v1) d_B_direct_1 rfl (by decide) q_196 hx hv ?_
  refine bj_lload_n (pc := 4) 1 d_B_direct_4 rfl rfl ?_
  obtain ⟨⟨fs, hx⟩, hw⟩ := hw
  refine bj_callV (pc := 5) (np := 1) (K' := K_M_imageOf) (argsL := [.long x1]) (st := []) (d1 := 2) (ci := 1) (fs := fs) rfl d_B_direct_5 (Or.inl q_287) q_288 rfl q_289 c_M_imageOf n_M_imageOf hR (by decide) (by decide) rfl (Nat.le_of_ble_eq_true rfl) rfl (Nat.le_of_ble_eq_true rfl) hx (fun R' hR' => m_M_imageOf hR' hw) (bs_kL_ok fun v2 h3 hw => ?_) (fun _ _ z => z)
  exact bj_lret (pc := 8) d_B_direct_8 rfl hw
theorem d_R_direct_0 : decode prog_9_method_32_code 0 = .ok (.aload_n 0, 1) := by decide +kernel
theorem d_R_direct_1 : decode prog_9_method_32_code 1 = .ok (.iconst 0, 1) := by decide +kernel
theorem d_R_direct_2 : decode prog_9_method_32_code 2 = .ok (.putfield 85, 3) := by decide +kernel
theorem d_R_direct_5 : decode prog_9_method_32_code 5 = .ok (.lconst 0, 1) := by decide +kernel
theorem d_R_direct_6 : decode prog_9_method_32_code 6 = .ok (.lstore_n 3, 1) := by decide +kernel
theorem d_R_direct_7 : decode prog_9_method_32_code 7 = .ok (.iconst 0, 1) := by decide +kernel
theorem d_R_direct_8 : decode prog_9_method_32_code 8 = .ok (.istore 5, 2) := by decide +kernel
theorem d_R_direct_10 : decode prog_9_method_32_code 10 = .ok (.iload 5, 2) := by decide +kernel
theorem d_R_direct_12 : decode prog_9_method_32_code 12 = .ok (.aload_n 0, 1) := by decide +kernel
theorem d_R_direct_13 : decode prog_9_method_32_code 13 = .ok (.getfield 89, 3) := by decide +kernel
theorem d_R_direct_16 : decode prog_9_method_32_code 16 = .ok (.if_icmp .ge 71, 3) := by decide +kernel
theorem d_R_direct_19 : decode prog_9_method_32_code 19 = .ok (.aload_n 0, 1) := by decide +kernel
theorem d_R_direct_20 : decode prog_9_method_32_code 20 = .ok (.getfield 7, 3) := by decide +kernel
theorem d_R_direct_23 : decode prog_9_method_32_code 23 = .ok (.iload 5, 2) := by decide +kernel
theorem d_R_direct_25 : decode prog_9_method_32_code 25 = .ok (.iaload, 1) := by decide +kernel
theorem d_R_direct_26 : decode prog_9_method_32_code 26 = .ok (.bipush 65, 2) := by decide +kernel
theorem d_R_direct_28 : decode prog_9_method_32_code 28 = .ok (.if_icmp .eq 30, 3) := by decide +kernel
theorem d_R_direct_31 : decode prog_9_method_32_code 31 = .ok (.aload_n 0, 1) := by decide +kernel
theorem d_R_direct_32 : decode prog_9_method_32_code 32 = .ok (.getfield 7, 3) := by decide +kernel
theorem d_R_direct_35 : decode prog_9_method_32_code 35 = .ok (.iload 5, 2) := by decide +kernel
theorem d_R_direct_37 : decode prog_9_method_32_code 37 = .ok (.iaload, 1) := by decide +kernel
theorem d_R_direct_38 : decode prog_9_method_32_code 38 = .ok (.bipush 64, 2) := by decide +kernel
theorem d_R_direct_40 : decode prog_9_method_32_code 40 = .ok (.if_icmp .ge 22, 3) := by decide +kernel
theorem d_R_direct_43 : decode prog_9_method_32_code 43 = .ok (.aload_n 0, 1) := by decide +kernel
theorem d_R_direct_44 : decode prog_9_method_32_code 44 = .ok (.lload_n 1, 1) := by decide +kernel
theorem d_R_direct_45 : decode prog_9_method_32_code 45 = .ok (.aload_n 0, 1) := by decide +kernel
theorem d_R_direct_46 : decode prog_9_method_32_code 46 = .ok (.getfield 7, 3) := by decide +kernel
theorem d_R_direct_49 : decode prog_9_method_32_code 49 = .ok (.iload 5, 2) := by decide +kernel
theorem d_R_direct_51 : decode prog_9_method_32_code 51 = .ok (.iaload, 1) := by decide +kernel
theorem d_R_direct_52 : decode prog_9_method_32_code 52 = .ok (.invokevirtual 135, 3) := by decide +kernel
theorem d_R_direct_55 : decode prog_9_method_32_code 55 = .ok (.ifCond .eq 7, 3) := by decide +kernel
theorem d_R_direct_58 : decode prog_9_method_32_code 58 = .ok (.iconst 1, 1) := by decide +kernel
theorem d_R_direct_59 : decode prog_9_method_32_code 59 = .ok (.goto 4, 3) := by decide +kernel
theorem d_R_direct_62 : decode prog_9_method_32_code 62 = .ok (.iconst 0, 1) := by decide +kernel
theorem d_R_direct_63 : decode prog_9_method_32_code 63 = .ok (.istore 6, 2) := by decide +kernel
theorem d_R_direct_65 : decode prog_9_method_32_code 65 = .ok (.iload 6, 2) := by decide +kernel
theorem d_R_direct_67 : decode prog_9_method_32_code 67 = .ok (.ifCond .eq 12, 3) := by decide +kernel
theorem d_R_direct_70 : decode prog_9_method_32_code 70 = .ok (.lload_n 3, 1) := by decide +kernel
theorem d_R_direct_71 : decode prog_9_method_32_code 71 = .ok (.lconst 1, 1) := by decide +kernel
theorem d_R_direct_72 : decode prog_9_method_32_code 72 = .ok (.iload 5, 2) := by decide +kernel
theorem d_R_direct_74 : decode prog_9_method_32_code 74 = .ok (.lshl, 1) := by decide +kernel
theorem d_R_direct_75 : decode prog_9_method_32_code 75 = .ok (.lor, 1) := by decide +kernel
theorem d_R_direct_76 : decode prog_9_method_32_code 76 = .ok (.goto 4, 3) := by decide +kernel
theorem d_R_direct_79 : decode prog_9_method_32_code 79 = .ok (.lload_n 3, 1) := by decide +kernel
theorem d_R_direct_80 : decode prog_9_method_32_code 80 = .ok (.lstore_n 3, 1) := by decide +kernel
theorem d_R_direct_81 : decode prog_9_method_32_code 81 = .ok (.iinc 5 1, 3) := by decide +kernel
theorem d_R_direct_84 : decode prog_9_method_32_code 84 = .ok (.goto (-74), 3) := by decide +kernel
theorem d_R_direct_87 : decode prog_9_method_32_code 87 = .ok (.lload_n 3, 1) := by decide +kernel
theorem d_R_direct_88 : decode prog_9_method_32_code 88 = .ok (.lreturn, 1) := by decide +kernel
def w_R_direct_80 (Φ : bs_R → bs_H → Prop) (nx10 : Nat → Int64 → Int64 → Int32 → bs_H → Prop) (x0 : Nat) (x1 : Int64) (x5 : Int32) (s0 : Int64) (h : bs_H) : Prop :=
  nx10 x0 x1 s0 (x5 + 1) h
def w_R_direct_63 (Φ : bs_R → bs_H → Prop) (nx10 : Nat → Int64 → Int64 → Int32 → bs_H → Prop) (x0 : Nat) (x1 : Int64) (x3 : Int64) (x5 : Int32) (s0 : Int32) (h : bs_H) : Prop :=
  bs_if (s0 = 0) (w_R_direct_80 Φ nx10 x0 x1 x5 x3 h) (w_R_direct_80 Φ nx10 x0 x1 x5 (x3 ||| (bs_shl 1 x5)) h)
def w_R_direct_62 (Φ : bs_R → bs_H → Prop) (nx10 : Nat → Int64 → Int64 → Int32 → bs_H → Prop) (x0 : Nat) (x1 : Int64) (x3 : Int64) (x5 : Int32) (h : bs_H) : Prop :=
  w_R_direct_63 Φ nx10 x0 x1 x3 x5 0 h
def w_R_direct_58 (Φ : bs_R → bs_H → Prop) (nx10 : Nat → Int64 → Int64 → Int32 → bs_H → Prop) (x0 : Nat) (x1 : Int64) (x3 : Int64) (x5 : Int32) (h : bs_H) : Prop :=
  w_R_direct_63 Φ nx10 x0 x1 x3 x5 1 h
def w_R_direct_10_s (Φ : bs_R → bs_H → Prop) (nx10 : Nat → Int64 → Int64 → Int32 → bs_H → Prop) (x0 : Nat) (x1 : Int64) (x3 : Int64) (x5 : Int32) (h : bs_H) : Prop :=
  bs_fI h x0 7 1 (fun v1 => bs_if (v1 ≤ x5) (Φ (.ok (some (.long x3))) h) (bs_fA h x0 7 2 (fun v2 => bs_lI h v2 x5 (fun v3 => bs_if (v3 = 65) (w_R_direct_58 Φ nx10 x0 x1 x3 x5 h) (bs_fA h x0 7 2 (fun v4 => bs_lI h v4 x5 (fun v5 => bs_if ((64 : Int32) ≤ v5) (w_R_direct_62 Φ nx10 x0 x1 x3 x5 h) (bs_fA h x0 7 2 (fun v6 => bs_lI h v6 x5 (fun v7 => bs_on h x0 7 (w_R_isIn (bs_kI Φ fun v8 h9 => (bs_if (v8 = 0) (w_R_direct_62 Φ nx10 x0 x1 x3 x5 h9) (w_R_direct_58 Φ nx10 x0 x1 x3 x5 h9))) x0 x1 v7 h)))))))))))
def w_R_direct_10 (Φ : bs_R → bs_H → Prop) : Nat → Nat → Int64 → Int64 → Int32 → bs_H → Prop
  | 0 => fun _ _ _ _ _ => False
  | n + 1 => fun x0 x1 x3 x5 h => w_R_direct_10_s Φ (w_R_direct_10 Φ n) x0 x1 x3 x5 h
def w_R_direct (Φ : bs_R → bs_H → Prop) (x0 : Nat) (x1 : Int64) (h : bs_H) : Prop :=
  bs_p h x0 7 0 (.int 0) (fun h1 => w_R_direct_10 Φ 1000 x0 x1 0 0 h1)
theorem m_R_direct_80 {l : Launch} {R : Room} {Φ : bs_R → bs_H → Prop} (hR : bs_rm 2 R) {nx10 : Nat → Int64 → Int64 → Int32 → bs_H → Prop} (hnx10 : ∀ (x0 : Nat) (x1 : Int64) (x3 : Int64) (x5 : Int32) (h : bs_H), nx10 x0 x1 x3 x5 h → bs_J l K_R_direct R Φ 10 [(0, .ref x0), (1, .long x1), (3, .long x3), (5, .int x5)] [] h) {x0 : Nat} {x1 : Int64} {x5 : Int32} {s0 : Int64} {h : bs_H} (hw : w_R_direct_80 Φ nx10 x0 x1 x5 s0 h) : bs_J l K_R_direct R Φ 80 [(0, .ref x0), (1, .long x1), (5, .int x5)] [.long s0] h := by
  unfold w_R_direct_80 at hw
  refine bj_lstore_n (pc := 80) (lo' := [(3, .long s0), (0, .ref x0), (1, .long x1), (5, .int x5)]) d_R_direct_80 rfl (by decide) rfl ?_
  refine bj_iinc (pc := 81) (v := (x5 + 1)) (lo' := [(5, .int (x5 + 1)), (3, .long s0), (0, .ref x0), (1, .long x1)]) 3 d_R_direct_81 rfl rfl (by decide) rfl ?_
  refine bj_goto (pc := 84) (tgt := 10) d_R_direct_84 (by decide) ?_
  refine bj_sub [2, 3, 1, 0] (lo' := [(0, .ref x0), (1, .long x1), (3, .long s0), (5, .int (x5 + 1))]) rfl ?_
  exact hnx10 _ _ _ _ _ hw
theorem m_R_direct_63 {l : Launch} {R : Room} {Φ : bs_R → bs_H → Prop} (hR : bs_rm 2 R) {nx10 : Nat → Int64 → Int64 → Int32 → bs_H → Prop} (hnx10 : ∀ (x0 : Nat) (x1 : Int64) (x3 : Int64) (x5 : Int32) (h : bs_H), nx10 x0 x1 x3 x5 h → bs_J l K_R_direct R Φ 10 [(0, .ref x0), (1, .long x1), (3, .long x3), (5, .int x5)] [] h) {x0 : Nat} {x1 : Int64} {x3 : Int64} {x5 : Int32} {s0 : Int32} {h : bs_H} (hw : w_R_direct_63 Φ nx10 x0 x1 x3 x5 s0 h) : bs_J l K_R_direct R Φ 63 [(0, .ref x0), (1, .long x1), (3, .long x3), (5, .int x5)] [.int s0] h := by
  unfold w_R_direct_63 at hw
  refine bj_istore (pc := 63) (lo' := [(6, .int s0), (0, .ref x0), (1, .long x1), (3, .long x3), (5, .int x5)]) d_R_direct_63 (by decide) rfl ?_
  refine bj_iload (pc := 65) 0 d_R_direct_65 rfl ?_
  refine bj_if_eq (pc := 67) (tgt := 79) d_R_direct_67 (by decide) (fun hc => ?_) (fun hc => ?_)
  · replace hw := hw.1 hc
    refine bj_lload_n (pc := 79) 3 d_R_direct_79 rfl rfl ?_
    refine bj_sub [1, 2, 4] (lo' := [(0, .ref x0), (1, .long x1), (5, .int x5)]) rfl ?_
    exact m_R_direct_80 hR hnx10 hw
  · replace hw := hw.2 hc
    refine bj_lload_n (pc := 70) 3 d_R_direct_70 rfl rfl ?_
    refine bj_lconst (pc := 71) (v := 1) d_R_direct_71 (by decide) ?_
    refine bj_iload (pc := 72) 4 d_R_direct_72 rfl ?_
    refine bj_lshl (pc := 74) d_R_direct_74 ?_
    refine bj_lor (pc := 75) d_R_direct_75 ?_
    refine bj_goto (pc := 76) (tgt := 80) d_R_direct_76 (by decide) ?_
    refine bj_sub [1, 2, 4] (lo' := [(0, .ref x0), (1, .long x1), (5, .int x5)]) rfl ?_
    exact m_R_direct_80 hR hnx10 hw
theorem m_R_direct_62 {l : Launch} {R : Room} {Φ : bs_R → bs_H → Prop} (hR : bs_rm 2 R) {nx10 : Nat → Int64 → Int64 → Int32 → bs_H → Prop} (hnx10 : ∀ (x0 : Nat) (x1 : Int64) (x3 : Int64) (x5 : Int32) (h : bs_H), nx10 x0 x1 x3 x5 h → bs_J l K_R_direct R Φ 10 [(0, .ref x0), (1, .long x1), (3, .long x3), (5, .int x5)] [] h) {x0 : Nat} {x1 : Int64} {x3 : Int64} {x5 : Int32} {h : bs_H} (hw : w_R_direct_62 Φ nx10 x0 x1 x3 x5 h) : bs_J l K_R_direct R Φ 62 [(0, .ref x0), (1, .long x1), (3, .long x3), (5, .int x5)] [] h := by
  unfold w_R_direct_62 at hw
  refine bj_iconst (pc := 62) (v := 0) d_R_direct_62 (by decide) ?_
  exact m_R_direct_63 hR hnx10 hw
theorem m_R_direct_58 {l : Launch} {R : Room} {Φ : bs_R → bs_H → Prop} (hR : bs_rm 2 R) {nx10 : Nat → Int64 → Int64 → Int32 → bs_H → Prop} (hnx10 : ∀ (x0 : Nat) (x1 : Int64) (x3 : Int64) (x5 : Int32) (h : bs_H), nx10 x0 x1 x3 x5 h → bs_J l K_R_direct R Φ 10 [(0, .ref x0), (1, .long x1), (3, .long x3), (5, .int x5)] [] h) {x0 : Nat} {x1 : Int64} {x3 : Int64} {x5 : Int32} {h : bs_H} (hw : w_R_direct_58 Φ nx10 x0 x1 x3 x5 h) : bs_J l K_R_direct R Φ 58 [(0, .ref x0), (1, .long x1), (3, .long x3), (5, .int x5)] [] h := by
  unfold w_R_direct_58 at hw
  refine bj_iconst (pc := 58) (v := 1) d_R_direct_58 (by decide) ?_
  refine bj_goto (pc := 59) (tgt := 63) d_R_direct_59 (by decide) ?_
  exact m_R_direct_63 hR hnx10 hw
theorem m_R_direct_10 {l : Launch} {R : Room} {Φ : bs_R → bs_H → Prop} (hR : bs_rm 2 R) : ∀ (n : Nat) (x0 : Nat) (x1 : Int64) (x3 : Int64) (x5 : Int32) (h : bs_H), w_R_direct_10 Φ n x0 x1 x3 x5 h → bs_J l K_R_direct R Φ 10 [(0, .ref x0), (1, .long x1), (3, .long x3), (5, .int x5)] [] h := by
  intro n
  induction n with
  | zero => intro x0 x1 x3 x5 h hw; exact hw.elim
  | succ n ih =>
    have hnx10 := ih
    intro x0 x1 x3 x5 h hw
    replace hw : w_R_direct_10_s Φ (w_R_direct_10 Φ n) x0 x1 x3 x5 h := hw
    unfold w_R_direct_10_s at hw
    refine bj_iload (pc := 10) 3 d_R_direct_10 rfl ?_
    refine bj_aload_n (pc := 12) 0 d_R_direct_12 rfl rfl ?_
    obtain ⟨fs, v1, hx, hv, hw⟩ := hw
    refine bj_get (pc := 13) (ci := 7) (k := 1) (fs := fs) (v := .int v1) d_R_direct_13 rfl (by decide) q_749 hx hv ?_
    refine bj_icmp_ge (pc := 16) (tgt := 87) d_R_direct_16 (by decide) (fun hc => ?_) (fun hc => ?_)
    · replace hw := hw.1 hc
      refine bj_lload_n (pc := 87) 2 d_R_direct_87 rfl rfl ?_
      exact bj_lret (pc := 88) d_R_direct_88 rfl hw
    · replace hw := hw.2 hc
      refine bj_aload_n (pc := 19) 0 d_R_direct_19 rfl rfl ?_
      obtain ⟨fs, v2, hx, hv, hw⟩ := hw
      refine bj_get (pc := 20) (ci := 7) (k := 2) (fs := fs) (v := .ref v2) d_R_direct_20 rfl (by decide) q_750 hx hv ?_
      refine bj_iload (pc := 23) 3 d_R_direct_23 rfl ?_
      obtain ⟨n, f, v3, hx, hin, hv, hw⟩ := hw
      refine bj_iald (pc := 25) (n := n) (f := f) d_R_direct_25 hx hin hv ?_
      refine bj_bipush (pc := 26) (v := 65) d_R_direct_26 (by decide) ?_
      refine bj_icmp_eq (pc := 28) (tgt := 58) d_R_direct_28 (by decide) (fun hc => ?_) (fun hc => ?_)
      · replace hw := hw.1 hc
        exact m_R_direct_58 hR hnx10 hw
      · replace hw := hw.2 hc
        refine bj_aload_n (pc := 31) 0 d_R_direct_31 rfl rfl ?_
        obtain ⟨fs, v4, hx, hv, hw⟩ := hw
        refine bj_get (pc := 32) (ci := 7) (k := 2) (fs := fs) (v := .ref v4) d_R_direct_32 rfl (by decide) q_750 hx hv ?_
        refine bj_iload (pc := 35) 3 d_R_direct_35 rfl ?_
        obtain ⟨n, f, v5, hx, hin, hv, hw⟩ := hw
        refine bj_iald (pc := 37) (n := n) (f := f) d_R_direct_37 hx hin hv ?_
        refine bj_bipush (pc := 38) (v := 64) d_R_direct_38 (by decide) ?_
        refine bj_icmp_ge (pc := 40) (tgt := 62) d_R_direct_40 (by decide) (fun hc => ?_) (fun hc => ?_)
        · replace hw := hw.1 hc
          exact m_R_direct_62 hR hnx10 hw
        · replace hw := hw.2 hc
          refine bj_aload_n (pc := 43) 0 d_R_direct_43 rfl rfl ?_
          refine bj_lload_n (pc := 44) 1 d_R_direct_44 rfl rfl ?_
          refine bj_aload_n (pc := 45) 0 d_R_direct_45 rfl rfl ?_
          obtain ⟨fs, v6, hx, hv, hw⟩ := hw
          refine bj_get (pc := 46) (ci := 7) (k := 2) (fs := fs) (v := .ref v6) d_R_direct_46 rfl (by decide) q_750 hx hv ?_
          refine bj_iload (pc := 49) 3 d_R_direct_49 rfl ?_
          obtain ⟨n, f, v7, hx, hin, hv, hw⟩ := hw
          refine bj_iald (pc := 51) (n := n) (f := f) d_R_direct_51 hx hin hv ?_
          obtain ⟨⟨fs, hx⟩, hw⟩ := hw
          refine bj_callV (pc := 52) (np := 2) (K' := K_R_isIn) (argsL := [.long x1, .int v7]) (st := []) (d1 := 1) (ci := 7) (fs := fs) rfl d_R_direct_52 (Or.inl q_915) q_917 rfl q_36 c_R_isIn n_R_isIn hR (by decide) (by decide) rfl (Nat.le_of_ble_eq_true rfl) rfl (Nat.le_of_ble_eq_true rfl) hx (fun R' hR' => m_R_isIn hR' hw) (bs_kI_ok fun v8 h9 hw => ?_) (fun _ _ z => z)
          refine bj_if_eq (pc := 55) (tgt := 62) d_R_direct_55 (by decide) (fun hc => ?_) (fun hc => ?_)
          · replace hw := hw.1 hc
            exact m_R_direct_62 hR hnx10 hw
          · replace hw := hw.2 hc
            exact m_R_direct_58 hR hnx10 hw
theorem m_R_direct {l : Launch} {R : Room} (hR : bs_rm 2 R) {Φ : bs_R → bs_H → Prop} {x0 : Nat} {x1 : Int64} {h : bs_H} (hw : w_R_direct Φ x0 x1 h) : bs_J l K_R_direct R Φ 0 [(0, .ref x0), (1, .long x1)] [] h := by
  unfold w_R_direct at hw
  refine bj_aload_n (pc := 0) 0 d_R_direct_0 rfl rfl ?_
  refine bj_iconst (pc := 1) (v := 0) d_R_direct_1 (by decide) ?_
  obtain ⟨fs, hx, hlen, hw⟩ := hw
  refine bj_put (pc := 2) (ci := 7) (k := 0) (fs := fs) (v := (.int 0)) (ty := .int) d_R_direct_2 rfl (by decide) q_748 rfl (by decide +kernel) rfl rfl hx hlen ?_
  refine bj_lconst (pc := 5) (v := 0) d_R_direct_5 (by decide) ?_
  refine bj_lstore_n (pc := 6) (lo' := [(3, .long 0), (0, .ref x0), (1, .long x1)]) d_R_direct_6 rfl (by decide) rfl ?_
  refine bj_iconst (pc := 7) (v := 0) d_R_direct_7 (by decide) ?_
  refine bj_istore (pc := 8) (lo' := [(5, .int 0), (3, .long 0), (0, .ref x0), (1, .long x1)]) d_R_direct_8 (by decide) rfl ?_
  refine bj_sub [2, 3, 1, 0] (lo' := [(0, .ref x0), (1, .long x1), (3, .long 0), (5, .int 0)]) rfl ?_
  exact m_R_direct_10 hR 1000 _ _ _ _ _ hw
theorem d_S_shift_0 : decode prog_6_method_7_code 0 = .ok (.iconst 0, 1) := by decide +kernel
theorem d_S_shift_1 : decode prog_6_method_7_code 1 = .ok (.istore_n 2, 1) := by decide +kernel
theorem d_S_shift_2 : decode prog_6_method_7_code 2 = .ok (.iload_n 2, 1) := by decide +kernel
theorem d_S_shift_3 : decode prog_6_method_7_code 3 = .ok (.aload_n 0, 1) := by decide +kernel
theorem d_S_shift_4 : decode prog_6_method_7_code 4 = .ok (.getfield 25, 3) := by decide +kernel
theorem d_S_shift_7 : decode prog_6_method_7_code 7 = .ok (.if_icmp .ge 41, 3) := by decide +kernel
theorem d_S_shift_10 : decode prog_6_method_7_code 10 = .ok (.iload_n 2, 1) := by decide +kernel
theorem d_S_shift_11 : decode prog_6_method_7_code 11 = .ok (.iload_n 1, 1) := by decide +kernel
theorem d_S_shift_12 : decode prog_6_method_7_code 12 = .ok (.isub, 1) := by decide +kernel
theorem d_S_shift_13 : decode prog_6_method_7_code 13 = .ok (.istore_n 3, 1) := by decide +kernel
theorem d_S_shift_14 : decode prog_6_method_7_code 14 = .ok (.aload_n 0, 1) := by decide +kernel
theorem d_S_shift_15 : decode prog_6_method_7_code 15 = .ok (.getfield 15, 3) := by decide +kernel
theorem d_S_shift_18 : decode prog_6_method_7_code 18 = .ok (.iload_n 2, 1) := by decide +kernel
theorem d_S_shift_19 : decode prog_6_method_7_code 19 = .ok (.iload_n 3, 1) := by decide +kernel
theorem d_S_shift_20 : decode prog_6_method_7_code 20 = .ok (.ifCond .lt 20, 3) := by decide +kernel
theorem d_S_shift_23 : decode prog_6_method_7_code 23 = .ok (.iload_n 3, 1) := by decide +kernel
theorem d_S_shift_24 : decode prog_6_method_7_code 24 = .ok (.aload_n 0, 1) := by decide +kernel
theorem d_S_shift_25 : decode prog_6_method_7_code 25 = .ok (.getfield 25, 3) := by decide +kernel
theorem d_S_shift_28 : decode prog_6_method_7_code 28 = .ok (.if_icmp .ge 12, 3) := by decide +kernel
theorem d_S_shift_31 : decode prog_6_method_7_code 31 = .ok (.aload_n 0, 1) := by decide +kernel
theorem d_S_shift_32 : decode prog_6_method_7_code 32 = .ok (.getfield 9, 3) := by decide +kernel
theorem d_S_shift_35 : decode prog_6_method_7_code 35 = .ok (.iload_n 3, 1) := by decide +kernel
theorem d_S_shift_36 : decode prog_6_method_7_code 36 = .ok (.laload, 1) := by decide +kernel
theorem d_S_shift_37 : decode prog_6_method_7_code 37 = .ok (.goto 4, 3) := by decide +kernel
theorem d_S_shift_40 : decode prog_6_method_7_code 40 = .ok (.lconst 0, 1) := by decide +kernel
theorem d_S_shift_41 : decode prog_6_method_7_code 41 = .ok (.lastore, 1) := by decide +kernel
theorem d_S_shift_42 : decode prog_6_method_7_code 42 = .ok (.iinc 2 1, 3) := by decide +kernel
theorem d_S_shift_45 : decode prog_6_method_7_code 45 = .ok (.goto (-43), 3) := by decide +kernel
theorem d_S_shift_48 : decode prog_6_method_7_code 48 = .ok (.return_, 1) := by decide +kernel
def w_S_shift_41 (Φ : bs_R → bs_H → Prop) (nx2 : Nat → Int32 → Int32 → bs_H → Prop) (x0 : Nat) (x1 : Int32) (x2 : Int32) (s0 : Nat) (s1 : Int32) (s2 : Int64) (h : bs_H) : Prop :=
  bs_sL h s0 s1 s2 (fun h1 => nx2 x0 x1 (x2 + 1) h1)
def w_S_shift_40 (Φ : bs_R → bs_H → Prop) (nx2 : Nat → Int32 → Int32 → bs_H → Prop) (x0 : Nat) (x1 : Int32) (x2 : Int32) (s0 : Nat) (s1 : Int32) (h : bs_H) : Prop :=
  w_S_shift_41 Φ nx2 x0 x1 x2 s0 s1 0 h
def w_S_shift_2_s (Φ : bs_R → bs_H → Prop) (nx2 : Nat → Int32 → Int32 → bs_H → Prop) (x0 : Nat) (x1 : Int32) (x2 : Int32) (h : bs_H) : Prop :=
  bs_fI h x0 4 4 (fun v1 => bs_if (v1 ≤ x2) (Φ (.ok none) h) (bs_fA h x0 4 1 (fun v2 => bs_if ((x2 - x1) < 0) (w_S_shift_40 Φ nx2 x0 x1 x2 v2 x2 h) (bs_fI h x0 4 4 (fun v3 => bs_if (v3 ≤ (x2 - x1)) (w_S_shift_40 Φ nx2 x0 x1 x2 v2 x2 h) (bs_fA h x0 4 0 (fun v4 => bs_lL h v4 (x2 - x1) (fun v5 => w_S_shift_41 Φ nx2 x0 x1 x2 v2 x2 v5 h))))))))
def w_S_shift_2 (Φ : bs_R → bs_H → Prop) : Nat → Nat → Int32 → Int32 → bs_H → Prop
  | 0 => fun _ _ _ _ => False
  | n + 1 => fun x0 x1 x2 h => w_S_shift_2_s Φ (w_S_shift_2 Φ n) x0 x1 x2 h
def w_S_shift (Φ : bs_R → bs_H → Prop) (x0 : Nat) (x1 : Int32) (h : bs_H) : Prop :=
  w_S_shift_2 Φ 1000 x0 x1 0 h
theorem m_S_shift_41 {l : Launch} {R : Room} {Φ : bs_R → bs_H → Prop} (hR : bs_rm 1 R) {nx2 : Nat → Int32 → Int32 → bs_H → Prop} (hnx2 : ∀ (x0 : Nat) (x1 : Int32) (x2 : Int32) (h : bs_H), nx2 x0 x1 x2 h → bs_J l K_S_shift R Φ 2 [(0, .ref x0), (1, .int x1), (2, .int x2)] [] h) {x0 : Nat} {x1 : Int32} {x2 : Int32} {s0 : Nat} {s1 : Int32} {s2 : Int64} {h : bs_H} (hw : w_S_shift_41 Φ nx2 x0 x1 x2 s0 s1 s2 h) : bs_J l K_S_shift R Φ 41 [(0, .ref x0), (1, .int x1), (2, .int x2)] [.long s2, .int s1, .ref s0] h := by
  unfold w_S_shift_41 at hw
  obtain ⟨n, f, hx, hin, hw⟩ := hw
  refine bj_last (pc := 41) (n := n) (f := f) d_S_shift_41 hx hin ?_
  refine bj_iinc (pc := 42) (v := (x2 + 1)) (lo' := [(2, .int (x2 + 1)), (0, .ref x0), (1, .int x1)]) 2 d_S_shift_42 rfl rfl (by decide) rfl ?_
  refine bj_goto (pc := 45) (tgt := 2) d_S_shift_45 (by decide) ?_
  refine bj_sub [1, 2, 0] (lo' := [(0, .ref x0), (1, .int x1), (2, .int (x2 + 1))]) rfl ?_
  exact hnx2 _ _ _ _ hw
theorem m_S_shift_40 {l : Launch} {R : Room} {Φ : bs_R → bs_H → Prop} (hR : bs_rm 1 R) {nx2 : Nat → Int32 → Int32 → bs_H → Prop} (hnx2 : ∀ (x0 : Nat) (x1 : Int32) (x2 : Int32) (h : bs_H), nx2 x0 x1 x2 h → bs_J l K_S_shift R Φ 2 [(0, .ref x0), (1, .int x1), (2, .int x2)] [] h) {x0 : Nat} {x1 : Int32} {x2 : Int32} {s0 : Nat} {s1 : Int32} {h : bs_H} (hw : w_S_shift_40 Φ nx2 x0 x1 x2 s0 s1 h) : bs_J l K_S_shift R Φ 40 [(0, .ref x0), (1, .int x1), (2, .int x2)] [.int s1, .ref s0] h := by
  unfold w_S_shift_40 at hw
  refine bj_lconst (pc := 40) (v := 0) d_S_shift_40 (by decide) ?_
  exact m_S_shift_41 hR hnx2 hw
theorem m_S_shift_2 {l : Launch} {R : Room} {Φ : bs_R → bs_H → Prop} (hR : bs_rm 1 R) : ∀ (n : Nat) (x0 : Nat) (x1 : Int32) (x2 : Int32) (h : bs_H), w_S_shift_2 Φ n x0 x1 x2 h → bs_J l K_S_shift R Φ 2 [(0, .ref x0), (1, .int x1), (2, .int x2)] [] h := by
  intro n
  induction n with
  | zero => intro x0 x1 x2 h hw; exact hw.elim
  | succ n ih =>
    have hnx2 := ih
    intro x0 x1 x2 h hw
    replace hw : w_S_shift_2_s Φ (w_S_shift_2 Φ n) x0 x1 x2 h := hw
    unfold w_S_shift_2_s at hw
    refine bj_iload_n (pc := 2) 2 d_S_shift_2 rfl rfl ?_
    refine bj_aload_n (pc := 3) 0 d_S_shift_3 rfl rfl ?_
    obtain ⟨fs, v1, hx, hv, hw⟩ := hw
    refine bj_get (pc := 4) (ci := 4) (k := 4) (fs := fs) (v := .int v1) d_S_shift_4 rfl (by decide) q_136 hx hv ?_
    refine bj_icmp_ge (pc := 7) (tgt := 48) d_S_shift_7 (by decide) (fun hc => ?_) (fun hc => ?_)
    · replace hw := hw.1 hc
      exact bj_vret (pc := 48) d_S_shift_48 rfl hw
    · replace hw := hw.2 hc
      refine bj_iload_n (pc := 10) 2 d_S_shift_10 rfl rfl ?_
      refine bj_iload_n (pc := 11) 1 d_S_shift_11 rfl rfl ?_
      refine bj_isub (pc := 12) d_S_shift_12 ?_
      refine bj_istore_n (pc := 13) (lo' := [(3, .int (x2 - x1)), (0, .ref x0), (1, .int x1), (2, .int x2)]) d_S_shift_13 rfl (by decide) rfl ?_
      refine bj_aload_n (pc := 14) 1 d_S_shift_14 rfl rfl ?_
      obtain ⟨fs, v2, hx, hv, hw⟩ := hw
      refine bj_get (pc := 15) (ci := 4) (k := 1) (fs := fs) (v := .ref v2) d_S_shift_15 rfl (by decide) q_133 hx hv ?_
      refine bj_iload_n (pc := 18) 3 d_S_shift_18 rfl rfl ?_
      refine bj_iload_n (pc := 19) 0 d_S_shift_19 rfl rfl ?_
      refine bj_if_lt (pc := 20) (tgt := 40) d_S_shift_20 (by decide) (fun hc => ?_) (fun hc => ?_)
      · replace hw := hw.1 hc
        refine bj_sub [1, 2, 3] (lo' := [(0, .ref x0), (1, .int x1), (2, .int x2)]) rfl ?_
        exact m_S_shift_40 hR hnx2 hw
      · replace hw := hw.2 hc
        refine bj_iload_n (pc := 23) 0 d_S_shift_23 rfl rfl ?_
        refine bj_aload_n (pc := 24) 1 d_S_shift_24 rfl rfl ?_
        obtain ⟨fs, v3, hx, hv, hw⟩ := hw
        refine bj_get (pc := 25) (ci := 4) (k := 4) (fs := fs) (v := .int v3) d_S_shift_25 rfl (by decide) q_136 hx hv ?_
        refine bj_icmp_ge (pc := 28) (tgt := 40) d_S_shift_28 (by decide) (fun hc => ?_) (fun hc => ?_)
        · replace hw := hw.1 hc
          refine bj_sub [1, 2, 3] (lo' := [(0, .ref x0), (1, .int x1), (2, .int x2)]) rfl ?_
          exact m_S_shift_40 hR hnx2 hw
        · replace hw := hw.2 hc
          refine bj_aload_n (pc := 31) 1 d_S_shift_31 rfl rfl ?_
          obtain ⟨fs, v4, hx, hv, hw⟩ := hw
          refine bj_get (pc := 32) (ci := 4) (k := 0) (fs := fs) (v := .ref v4) d_S_shift_32 rfl (by decide) q_132 hx hv ?_
          refine bj_iload_n (pc := 35) 0 d_S_shift_35 rfl rfl ?_
          obtain ⟨n, f, v5, hx, hin, hv, hw⟩ := hw
          refine bj_lald (pc := 36) (n := n) (f := f) d_S_shift_36 hx hin hv ?_
          refine bj_goto (pc := 37) (tgt := 41) d_S_shift_37 (by decide) ?_
          refine bj_sub [1, 2, 3] (lo' := [(0, .ref x0), (1, .int x1), (2, .int x2)]) rfl ?_
          exact m_S_shift_41 hR hnx2 hw
theorem m_S_shift {l : Launch} {R : Room} (hR : bs_rm 1 R) {Φ : bs_R → bs_H → Prop} {x0 : Nat} {x1 : Int32} {h : bs_H} (hw : w_S_shift Φ x0 x1 h) : bs_J l K_S_shift R Φ 0 [(0, .ref x0), (1, .int x1)] [] h := by
  unfold w_S_shift at hw
  refine bj_iconst (pc := 0) (v := 0) d_S_shift_0 (by decide) ?_
  refine bj_istore_n (pc := 1) (lo' := [(2, .int 0), (0, .ref x0), (1, .int x1)]) d_S_shift_1 rfl (by decide) rfl ?_
  refine bj_sub [1, 2, 0] (lo' := [(0, .ref x0), (1, .int x1), (2, .int 0)]) rfl ?_
  exact m_S_shift_2 hR 1000 _ _ _ _ hw
theorem d_S_rotate_0 : decode prog_6_method_8_code 0 = .ok (.iconst 0, 1) := by decide +kernel
theorem d_S_rotate_1 : decode prog_6_method_8_code 1 = .ok (.istore_n 2, 1) := by decide +kernel
theorem d_S_rotate_2 : decode prog_6_method_8_code 2 = .ok (.iload_n 2, 1) := by decide +kernel
theorem d_S_rotate_3 : decode prog_6_method_8_code 3 = .ok (.aload_n 0, 1) := by decide +kernel
theorem d_S_rotate_4 : decode prog_6_method_8_code 4 = .ok (.getfield 25, 3) := by decide +kernel
theorem d_S_rotate_7 : decode prog_6_method_8_code 7 = .ok (.if_icmp .ge 39, 3) := by decide +kernel
theorem d_S_rotate_10 : decode prog_6_method_8_code 10 = .ok (.aload_n 0, 1) := by decide +kernel
theorem d_S_rotate_11 : decode prog_6_method_8_code 11 = .ok (.getfield 15, 3) := by decide +kernel
theorem d_S_rotate_14 : decode prog_6_method_8_code 14 = .ok (.iload_n 2, 1) := by decide +kernel
theorem d_S_rotate_15 : decode prog_6_method_8_code 15 = .ok (.aload_n 0, 1) := by decide +kernel
theorem d_S_rotate_16 : decode prog_6_method_8_code 16 = .ok (.getfield 9, 3) := by decide +kernel
theorem d_S_rotate_19 : decode prog_6_method_8_code 19 = .ok (.iload_n 2, 1) := by decide +kernel
theorem d_S_rotate_20 : decode prog_6_method_8_code 20 = .ok (.iload_n 1, 1) := by decide +kernel
theorem d_S_rotate_21 : decode prog_6_method_8_code 21 = .ok (.if_icmp .lt 9, 3) := by decide +kernel
theorem d_S_rotate_24 : decode prog_6_method_8_code 24 = .ok (.iload_n 2, 1) := by decide +kernel
theorem d_S_rotate_25 : decode prog_6_method_8_code 25 = .ok (.iload_n 1, 1) := by decide +kernel
theorem d_S_rotate_26 : decode prog_6_method_8_code 26 = .ok (.isub, 1) := by decide +kernel
theorem d_S_rotate_27 : decode prog_6_method_8_code 27 = .ok (.goto 11, 3) := by decide +kernel
theorem d_S_rotate_30 : decode prog_6_method_8_code 30 = .ok (.iload_n 2, 1) := by decide +kernel
theorem d_S_rotate_31 : decode prog_6_method_8_code 31 = .ok (.iload_n 1, 1) := by decide +kernel
theorem d_S_rotate_32 : decode prog_6_method_8_code 32 = .ok (.isub, 1) := by decide +kernel
theorem d_S_rotate_33 : decode prog_6_method_8_code 33 = .ok (.aload_n 0, 1) := by decide +kernel
theorem d_S_rotate_34 : decode prog_6_method_8_code 34 = .ok (.getfield 25, 3) := by decide +kernel
theorem d_S_rotate_37 : decode prog_6_method_8_code 37 = .ok (.iadd, 1) := by decide +kernel
theorem d_S_rotate_38 : decode prog_6_method_8_code 38 = .ok (.laload, 1) := by decide +kernel
theorem d_S_rotate_39 : decode prog_6_method_8_code 39 = .ok (.lastore, 1) := by decide +kernel
theorem d_S_rotate_40 : decode prog_6_method_8_code 40 = .ok (.iinc 2 1, 3) := by decide +kernel
theorem d_S_rotate_43 : decode prog_6_method_8_code 43 = .ok (.goto (-41), 3) := by decide +kernel
theorem d_S_rotate_46 : decode prog_6_method_8_code 46 = .ok (.return_, 1) := by decide +kernel
def w_S_rotate_38 (Φ : bs_R → bs_H → Prop) (nx2 : Nat → Int32 → Int32 → bs_H → Prop) (x0 : Nat) (x1 : Int32) (x2 : Int32) (s0 : Nat) (s1 : Int32) (s2 : Nat) (s3 : Int32) (h : bs_H) : Prop :=
  bs_lL h s2 s3 (fun v1 => bs_sL h s0 s1 v1 (fun h2 => nx2 x0 x1 (x2 + 1) h2))
def w_S_rotate_2_s (Φ : bs_R → bs_H → Prop) (nx2 : Nat → Int32 → Int32 → bs_H → Prop) (x0 : Nat) (x1 : Int32) (x2 : Int32) (h : bs_H) : Prop :=
  bs_fI h x0 4 4 (fun v1 => bs_if (v1 ≤ x2) (Φ (.ok none) h) (bs_fA h x0 4 1 (fun v2 => bs_fA h x0 4 0 (fun v3 => bs_if (x2 < x1) (bs_fI h x0 4 4 (fun v4 => w_S_rotate_38 Φ nx2 x0 x1 x2 v2 x2 v3 ((x2 - x1) + v4) h)) (w_S_rotate_38 Φ nx2 x0 x1 x2 v2 x2 v3 (x2 - x1) h)))))
def w_S_rotate_2 (Φ : bs_R → bs_H → Prop) : Nat → Nat → Int32 → Int32 → bs_H → Prop
  | 0 => fun _ _ _ _ => False
  | n + 1 => fun x0 x1 x2 h => w_S_rotate_2_s Φ (w_S_rotate_2 Φ n) x0 x1 x2 h
def w_S_rotate (Φ : bs_R → bs_H → Prop) (x0 : Nat) (x1 : Int32) (h : bs_H) : Prop :=
  w_S_rotate_2 Φ 1000 x0 x1 0 h
theorem m_S_rotate_38 {l : Launch} {R : Room} {Φ : bs_R → bs_H → Prop} (hR : bs_rm 1 R) {nx2 : Nat → Int32 → Int32 → bs_H → Prop} (hnx2 : ∀ (x0 : Nat) (x1 : Int32) (x2 : Int32) (h : bs_H), nx2 x0 x1 x2 h → bs_J l K_S_rotate R Φ 2 [(0, .ref x0), (1, .int x1), (2, .int x2)] [] h) {x0 : Nat} {x1 : Int32} {x2 : Int32} {s0 : Nat} {s1 : Int32} {s2 : Nat} {s3 : Int32} {h : bs_H} (hw : w_S_rotate_38 Φ nx2 x0 x1 x2 s0 s1 s2 s3 h) : bs_J l K_S_rotate R Φ 38 [(0, .ref x0), (1, .int x1), (2, .int x2)] [.int s3, .ref s2, .int s1, .ref s0] h := by
  unfold w_S_rotate_38 at hw
  obtain ⟨n, f, v1, hx, hin, hv, hw⟩ := hw
  refine bj_lald (pc := 38) (n := n) (f := f) d_S_rotate_38 hx hin hv ?_
  obtain ⟨n, f, hx, hin, hw⟩ := hw
  refine bj_last (pc := 39) (n := n) (f := f) d_S_rotate_39 hx hin ?_
  refine bj_iinc (pc := 40) (v := (x2 + 1)) (lo' := [(2, .int (x2 + 1)), (0, .ref x0), (1, .int x1)]) 2 d_S_rotate_40 rfl rfl (by decide) rfl ?_
  refine bj_goto (pc := 43) (tgt := 2) d_S_rotate_43 (by decide) ?_
  refine bj_sub [1, 2, 0] (lo' := [(0, .ref x0), (1, .int x1), (2, .int (x2 + 1))]) rfl ?_
  exact hnx2 _ _ _ _ hw
theorem m_S_rotate_2 {l : Launch} {R : Room} {Φ : bs_R → bs_H → Prop} (hR : bs_rm 1 R) : ∀ (n : Nat) (x0 : Nat) (x1 : Int32) (x2 : Int32) (h : bs_H), w_S_rotate_2 Φ n x0 x1 x2 h → bs_J l K_S_rotate R Φ 2 [(0, .ref x0), (1, .int x1), (2, .int x2)] [] h := by
  intro n
  induction n with
  | zero => intro x0 x1 x2 h hw; exact hw.elim
  | succ n ih =>
    have hnx2 := ih
    intro x0 x1 x2 h hw
    replace hw : w_S_rotate_2_s Φ (w_S_rotate_2 Φ n) x0 x1 x2 h := hw
    unfold w_S_rotate_2_s at hw
    refine bj_iload_n (pc := 2) 2 d_S_rotate_2 rfl rfl ?_
    refine bj_aload_n (pc := 3) 0 d_S_rotate_3 rfl rfl ?_
    obtain ⟨fs, v1, hx, hv, hw⟩ := hw
    refine bj_get (pc := 4) (ci := 4) (k := 4) (fs := fs) (v := .int v1) d_S_rotate_4 rfl (by decide) q_136 hx hv ?_
    refine bj_icmp_ge (pc := 7) (tgt := 46) d_S_rotate_7 (by decide) (fun hc => ?_) (fun hc => ?_)
    · replace hw := hw.1 hc
      exact bj_vret (pc := 46) d_S_rotate_46 rfl hw
    · replace hw := hw.2 hc
      refine bj_aload_n (pc := 10) 0 d_S_rotate_10 rfl rfl ?_
      obtain ⟨fs, v2, hx, hv, hw⟩ := hw
      refine bj_get (pc := 11) (ci := 4) (k := 1) (fs := fs) (v := .ref v2) d_S_rotate_11 rfl (by decide) q_133 hx hv ?_
      refine bj_iload_n (pc := 14) 2 d_S_rotate_14 rfl rfl ?_
      refine bj_aload_n (pc := 15) 0 d_S_rotate_15 rfl rfl ?_
      obtain ⟨fs, v3, hx, hv, hw⟩ := hw
      refine bj_get (pc := 16) (ci := 4) (k := 0) (fs := fs) (v := .ref v3) d_S_rotate_16 rfl (by decide) q_132 hx hv ?_
      refine bj_iload_n (pc := 19) 2 d_S_rotate_19 rfl rfl ?_
      refine bj_iload_n (pc := 20) 1 d_S_rotate_20 rfl rfl ?_
      refine bj_icmp_lt (pc := 21) (tgt := 30) d_S_rotate_21 (by decide) (fun hc => ?_) (fun hc => ?_)
      · replace hw := hw.1 hc
        refine bj_iload_n (pc := 30) 2 d_S_rotate_30 rfl rfl ?_
        refine bj_iload_n (pc := 31) 1 d_S_rotate_31 rfl rfl ?_
        refine bj_isub (pc := 32) d_S_rotate_32 ?_
        refine bj_aload_n (pc := 33) 0 d_S_rotate_33 rfl rfl ?_
        obtain ⟨fs, v4, hx, hv, hw⟩ := hw
        refine bj_get (pc := 34) (ci := 4) (k := 4) (fs := fs) (v := .int v4) d_S_rotate_34 rfl (by decide) q_136 hx hv ?_
        refine bj_iadd (pc := 37) d_S_rotate_37 ?_
        exact m_S_rotate_38 hR hnx2 hw
      · replace hw := hw.2 hc
        refine bj_iload_n (pc := 24) 2 d_S_rotate_24 rfl rfl ?_
        refine bj_iload_n (pc := 25) 1 d_S_rotate_25 rfl rfl ?_
        refine bj_isub (pc := 26) d_S_rotate_26 ?_
        refine bj_goto (pc := 27) (tgt := 38) d_S_rotate_27 (by decide) ?_
        exact m_S_rotate_38 hR hnx2 hw
theorem m_S_rotate {l : Launch} {R : Room} (hR : bs_rm 1 R) {Φ : bs_R → bs_H → Prop} {x0 : Nat} {x1 : Int32} {h : bs_H} (hw : w_S_rotate Φ x0 x1 h) : bs_J l K_S_rotate R Φ 0 [(0, .ref x0), (1, .int x1)] [] h := by
  unfold w_S_rotate at hw
  refine bj_iconst (pc := 0) (v := 0) d_S_rotate_0 (by decide) ?_
  refine bj_istore_n (pc := 1) (lo' := [(2, .int 0), (0, .ref x0), (1, .int x1)]) d_S_rotate_1 rfl (by decide) rfl ?_
  refine bj_sub [1, 2, 0] (lo' := [(0, .ref x0), (1, .int x1), (2, .int 0)]) rfl ?_
  exact m_S_rotate_2 hR 1000 _ _ _ _ hw
theorem d_S_clearOutside_0 : decode prog_6_method_9_code 0 = .ok (.iconst 0, 1) := by decide +kernel
theorem d_S_clearOutside_1 : decode prog_6_method_9_code 1 = .ok (.istore_n 3, 1) := by decide +kernel
theorem d_S_clearOutside_2 : decode prog_6_method_9_code 2 = .ok (.iload_n 3, 1) := by decide +kernel
theorem d_S_clearOutside_3 : decode prog_6_method_9_code 3 = .ok (.aload_n 0, 1) := by decide +kernel
theorem d_S_clearOutside_4 : decode prog_6_method_9_code 4 = .ok (.getfield 25, 3) := by decide +kernel
theorem d_S_clearOutside_7 : decode prog_6_method_9_code 7 = .ok (.if_icmp .ge 24, 3) := by decide +kernel
theorem d_S_clearOutside_10 : decode prog_6_method_9_code 10 = .ok (.lload_n 1, 1) := by decide +kernel
theorem d_S_clearOutside_11 : decode prog_6_method_9_code 11 = .ok (.iload_n 3, 1) := by decide +kernel
theorem d_S_clearOutside_12 : decode prog_6_method_9_code 12 = .ok (.invokestatic 50, 3) := by decide +kernel
theorem d_S_clearOutside_15 : decode prog_6_method_9_code 15 = .ok (.ifCond .ne 10, 3) := by decide +kernel
theorem d_S_clearOutside_18 : decode prog_6_method_9_code 18 = .ok (.aload_n 0, 1) := by decide +kernel
theorem d_S_clearOutside_19 : decode prog_6_method_9_code 19 = .ok (.getfield 15, 3) := by decide +kernel
theorem d_S_clearOutside_22 : decode prog_6_method_9_code 22 = .ok (.iload_n 3, 1) := by decide +kernel
theorem d_S_clearOutside_23 : decode prog_6_method_9_code 23 = .ok (.lconst 0, 1) := by decide +kernel
theorem d_S_clearOutside_24 : decode prog_6_method_9_code 24 = .ok (.lastore, 1) := by decide +kernel
theorem d_S_clearOutside_25 : decode prog_6_method_9_code 25 = .ok (.iinc 3 1, 3) := by decide +kernel
theorem d_S_clearOutside_28 : decode prog_6_method_9_code 28 = .ok (.goto (-26), 3) := by decide +kernel
theorem d_S_clearOutside_31 : decode prog_6_method_9_code 31 = .ok (.return_, 1) := by decide +kernel
def w_S_clearOutside_25 (Φ : bs_R → bs_H → Prop) (nx2 : Nat → Int64 → Int32 → bs_H → Prop) (x0 : Nat) (x1 : Int64) (x3 : Int32) (h : bs_H) : Prop :=
  nx2 x0 x1 (x3 + 1) h
def w_S_clearOutside_2_s (Φ : bs_R → bs_H → Prop) (nx2 : Nat → Int64 → Int32 → bs_H → Prop) (x0 : Nat) (x1 : Int64) (x3 : Int32) (h : bs_H) : Prop :=
  bs_fI h x0 4 4 (fun v1 => bs_if (v1 ≤ x3) (Φ (.ok none) h) (w_B_holds (bs_kI Φ fun v2 h3 => (bs_if (v2 = 0) (bs_fA h3 x0 4 1 (fun v4 => bs_sL h3 v4 x3 0 (fun h5 => w_S_clearOutside_25 Φ nx2 x0 x1 x3 h5))) (w_S_clearOutside_25 Φ nx2 x0 x1 x3 h3))) x1 x3 h))
def w_S_clearOutside_2 (Φ : bs_R → bs_H → Prop) : Nat → Nat → Int64 → Int32 → bs_H → Prop
  | 0 => fun _ _ _ _ => False
  | n + 1 => fun x0 x1 x3 h => w_S_clearOutside_2_s Φ (w_S_clearOutside_2 Φ n) x0 x1 x3 h
def w_S_clearOutside (Φ : bs_R → bs_H → Prop) (x0 : Nat) (x1 : Int64) (h : bs_H) : Prop :=
  w_S_clearOutside_2 Φ 1000 x0 x1 0 h
theorem m_S_clearOutside_25 {l : Launch} {R : Room} {Φ : bs_R → bs_H → Prop} (hR : bs_rm 2 R) {nx2 : Nat → Int64 → Int32 → bs_H → Prop} (hnx2 : ∀ (x0 : Nat) (x1 : Int64) (x3 : Int32) (h : bs_H), nx2 x0 x1 x3 h → bs_J l K_S_clearOutside R Φ 2 [(0, .ref x0), (1, .long x1), (3, .int x3)] [] h) {x0 : Nat} {x1 : Int64} {x3 : Int32} {h : bs_H} (hw : w_S_clearOutside_25 Φ nx2 x0 x1 x3 h) : bs_J l K_S_clearOutside R Φ 25 [(0, .ref x0), (1, .long x1), (3, .int x3)] [] h := by
  unfold w_S_clearOutside_25 at hw
  refine bj_iinc (pc := 25) (v := (x3 + 1)) (lo' := [(3, .int (x3 + 1)), (0, .ref x0), (1, .long x1)]) 2 d_S_clearOutside_25 rfl rfl (by decide) rfl ?_
  refine bj_goto (pc := 28) (tgt := 2) d_S_clearOutside_28 (by decide) ?_
  refine bj_sub [1, 2, 0] (lo' := [(0, .ref x0), (1, .long x1), (3, .int (x3 + 1))]) rfl ?_
  exact hnx2 _ _ _ _ hw
theorem m_S_clearOutside_2 {l : Launch} {R : Room} {Φ : bs_R → bs_H → Prop} (hR : bs_rm 2 R) : ∀ (n : Nat) (x0 : Nat) (x1 : Int64) (x3 : Int32) (h : bs_H), w_S_clearOutside_2 Φ n x0 x1 x3 h → bs_J l K_S_clearOutside R Φ 2 [(0, .ref x0), (1, .long x1), (3, .int x3)] [] h := by
  intro n
  induction n with
  | zero => intro x0 x1 x3 h hw; exact hw.elim
  | succ n ih =>
    have hnx2 := ih
    intro x0 x1 x3 h hw
    replace hw : w_S_clearOutside_2_s Φ (w_S_clearOutside_2 Φ n) x0 x1 x3 h := hw
    unfold w_S_clearOutside_2_s at hw
    refine bj_iload_n (pc := 2) 2 d_S_clearOutside_2 rfl rfl ?_
    refine bj_aload_n (pc := 3) 0 d_S_clearOutside_3 rfl rfl ?_
    obtain ⟨fs, v1, hx, hv, hw⟩ := hw
    refine bj_get (pc := 4) (ci := 4) (k := 4) (fs := fs) (v := .int v1) d_S_clearOutside_4 rfl (by decide) q_136 hx hv ?_
    refine bj_icmp_ge (pc := 7) (tgt := 31) d_S_clearOutside_7 (by decide) (fun hc => ?_) (fun hc => ?_)
    · replace hw := hw.1 hc
      exact bj_vret (pc := 31) d_S_clearOutside_31 rfl hw
    · replace hw := hw.2 hc
      refine bj_lload_n (pc := 10) 1 d_S_clearOutside_10 rfl rfl ?_
      refine bj_iload_n (pc := 11) 2 d_S_clearOutside_11 rfl rfl ?_
      refine bj_callS (pc := 12) (np := 2) (K' := K_B_holds) (argsL := [.long x1, .int x3]) (st := []) (d1 := 1) rfl d_S_clearOutside_12 (Or.inr ⟨_, q_328⟩) q_277 q_46 c_B_holds n_B_holds hR (by decide) (by decide) rfl (Nat.le_of_ble_eq_true rfl) rfl (Nat.le_of_ble_eq_true rfl) (fun R' hR' => m_B_holds hR' hw) (bs_kI_ok fun v2 h3 hw => ?_) (fun _ _ z => z)
      refine bj_if_ne (pc := 15) (tgt := 25) d_S_clearOutside_15 (by decide) (fun hc => ?_) (fun hc => ?_)
      · replace hw := hw.2 hc
        exact m_S_clearOutside_25 hR hnx2 hw
      · replace hw := hw.1 hc
        refine bj_aload_n (pc := 18) 0 d_S_clearOutside_18 rfl rfl ?_
        obtain ⟨fs, v4, hx, hv, hw⟩ := hw
        refine bj_get (pc := 19) (ci := 4) (k := 1) (fs := fs) (v := .ref v4) d_S_clearOutside_19 rfl (by decide) q_133 hx hv ?_
        refine bj_iload_n (pc := 22) 2 d_S_clearOutside_22 rfl rfl ?_
        refine bj_lconst (pc := 23) (v := 0) d_S_clearOutside_23 (by decide) ?_
        obtain ⟨n, f, hx, hin, hw⟩ := hw
        refine bj_last (pc := 24) (n := n) (f := f) d_S_clearOutside_24 hx hin ?_
        exact m_S_clearOutside_25 hR hnx2 hw
theorem m_S_clearOutside {l : Launch} {R : Room} (hR : bs_rm 2 R) {Φ : bs_R → bs_H → Prop} {x0 : Nat} {x1 : Int64} {h : bs_H} (hw : w_S_clearOutside Φ x0 x1 h) : bs_J l K_S_clearOutside R Φ 0 [(0, .ref x0), (1, .long x1)] [] h := by
  unfold w_S_clearOutside at hw
  refine bj_iconst (pc := 0) (v := 0) d_S_clearOutside_0 (by decide) ?_
  refine bj_istore_n (pc := 1) (lo' := [(3, .int 0), (0, .ref x0), (1, .long x1)]) d_S_clearOutside_1 rfl (by decide) rfl ?_
  refine bj_sub [1, 2, 0] (lo' := [(0, .ref x0), (1, .long x1), (3, .int 0)]) rfl ?_
  exact m_S_clearOutside_2 hR 1000 _ _ _ _ hw
theorem d_S_addToResult_0 : decode prog_6_method_10_code 0 = .ok (.iconst 0, 1) := by decide +kernel
theorem d_S_addToResult_1 : decode prog_6_method_10_code 1 = .ok (.istore_n 2, 1) := by decide +kernel
theorem d_S_addToResult_2 : decode prog_6_method_10_code 2 = .ok (.iload_n 2, 1) := by decide +kernel
theorem d_S_addToResult_3 : decode prog_6_method_10_code 3 = .ok (.aload_n 0, 1) := by decide +kernel
theorem d_S_addToResult_4 : decode prog_6_method_10_code 4 = .ok (.getfield 25, 3) := by decide +kernel
theorem d_S_addToResult_7 : decode prog_6_method_10_code 7 = .ok (.if_icmp .ge 21, 3) := by decide +kernel
theorem d_S_addToResult_10 : decode prog_6_method_10_code 10 = .ok (.aload_n 0, 1) := by decide +kernel
theorem d_S_addToResult_11 : decode prog_6_method_10_code 11 = .ok (.getfield 18, 3) := by decide +kernel
theorem d_S_addToResult_14 : decode prog_6_method_10_code 14 = .ok (.iload_n 2, 1) := by decide +kernel
theorem d_S_addToResult_15 : decode prog_6_method_10_code 15 = .ok (.dup2, 1) := by decide +kernel
theorem d_S_addToResult_16 : decode prog_6_method_10_code 16 = .ok (.laload, 1) := by decide +kernel
theorem d_S_addToResult_17 : decode prog_6_method_10_code 17 = .ok (.aload_n 1, 1) := by decide +kernel
theorem d_S_addToResult_18 : decode prog_6_method_10_code 18 = .ok (.iload_n 2, 1) := by decide +kernel
theorem d_S_addToResult_19 : decode prog_6_method_10_code 19 = .ok (.laload, 1) := by decide +kernel
theorem d_S_addToResult_20 : decode prog_6_method_10_code 20 = .ok (.lor, 1) := by decide +kernel
theorem d_S_addToResult_21 : decode prog_6_method_10_code 21 = .ok (.lastore, 1) := by decide +kernel
theorem d_S_addToResult_22 : decode prog_6_method_10_code 22 = .ok (.iinc 2 1, 3) := by decide +kernel
theorem d_S_addToResult_25 : decode prog_6_method_10_code 25 = .ok (.goto (-23), 3) := by decide +kernel
theorem d_S_addToResult_28 : decode prog_6_method_10_code 28 = .ok (.return_, 1) := by decide +kernel
def w_S_addToResult_2_s (Φ : bs_R → bs_H → Prop) (nx2 : Nat → Nat → Int32 → bs_H → Prop) (x0 : Nat) (x1 : Nat) (x2 : Int32) (h : bs_H) : Prop :=
  bs_fI h x0 4 4 (fun v1 => bs_if (v1 ≤ x2) (Φ (.ok none) h) (bs_fA h x0 4 2 (fun v2 => bs_lL h v2 x2 (fun v3 => bs_lL h x1 x2 (fun v4 => bs_sL h v2 x2 (v3 ||| v4) (fun h5 => nx2 x0 x1 (x2 + 1) h5))))))
def w_S_addToResult_2 (Φ : bs_R → bs_H → Prop) : Nat → Nat → Nat → Int32 → bs_H → Prop
  | 0 => fun _ _ _ _ => False
  | n + 1 => fun x0 x1 x2 h => w_S_addToResult_2_s Φ (w_S_addToResult_2 Φ n) x0 x1 x2 h
def w_S_addToResult (Φ : bs_R → bs_H → Prop) (x0 : Nat) (x1 : Nat) (h : bs_H) : Prop :=
  w_S_addToResult_2 Φ 1000 x0 x1 0 h
theorem m_S_addToResult_2 {l : Launch} {R : Room} {Φ : bs_R → bs_H → Prop} (hR : bs_rm 1 R) : ∀ (n : Nat) (x0 : Nat) (x1 : Nat) (x2 : Int32) (h : bs_H), w_S_addToResult_2 Φ n x0 x1 x2 h → bs_J l K_S_addToResult R Φ 2 [(0, .ref x0), (1, .ref x1), (2, .int x2)] [] h := by
  intro n
  induction n with
  | zero => intro x0 x1 x2 h hw; exact hw.elim
  | succ n ih =>
    have hnx2 := ih
    intro x0 x1 x2 h hw
    replace hw : w_S_addToResult_2_s Φ (w_S_addToResult_2 Φ n) x0 x1 x2 h := hw
    unfold w_S_addToResult_2_s at hw
    refine bj_iload_n (pc := 2) 2 d_S_addToResult_2 rfl rfl ?_
    refine bj_aload_n (pc := 3) 0 d_S_addToResult_3 rfl rfl ?_
    obtain ⟨fs, v1, hx, hv, hw⟩ := hw
    refine bj_get (pc := 4) (ci := 4) (k := 4) (fs := fs) (v := .int v1) d_S_addToResult_4 rfl (by decide) q_136 hx hv ?_
    refine bj_icmp_ge (pc := 7) (tgt := 28) d_S_addToResult_7 (by decide) (fun hc => ?_) (fun hc => ?_)
    · replace hw := hw.1 hc
      exact bj_vret (pc := 28) d_S_addToResult_28 rfl hw
    · replace hw := hw.2 hc
      refine bj_aload_n (pc := 10) 0 d_S_addToResult_10 rfl rfl ?_
      obtain ⟨fs, v2, hx, hv, hw⟩ := hw
      refine bj_get (pc := 11) (ci := 4) (k := 2) (fs := fs) (v := .ref v2) d_S_addToResult_11 rfl (by decide) q_134 hx hv ?_
      refine bj_iload_n (pc := 14) 2 d_S_addToResult_14 rfl rfl ?_
      refine bj_dup2 (pc := 15) d_S_addToResult_15 rfl rfl ?_
      obtain ⟨n, f, v3, hx, hin, hv, hw⟩ := hw
      refine bj_lald (pc := 16) (n := n) (f := f) d_S_addToResult_16 hx hin hv ?_
      refine bj_aload_n (pc := 17) 1 d_S_addToResult_17 rfl rfl ?_
      refine bj_iload_n (pc := 18) 2 d_S_addToResult_18 rfl rfl ?_
      obtain ⟨n, f, v4, hx, hin, hv, hw⟩ := hw
      refine bj_lald (pc := 19) (n := n) (f := f) d_S_addToResult_19 hx hin hv ?_
      refine bj_lor (pc := 20) d_S_addToResult_20 ?_
      obtain ⟨n, f, hx, hin, hw⟩ := hw
      refine bj_last (pc := 21) (n := n) (f := f) d_S_addToResult_21 hx hin ?_
      refine bj_iinc (pc := 22) (v := (x2 + 1)) (lo' := [(2, .int (x2 + 1)), (0, .ref x0), (1, .ref x1)]) 2 d_S_addToResult_22 rfl rfl (by decide) rfl ?_
      refine bj_goto (pc := 25) (tgt := 2) d_S_addToResult_25 (by decide) ?_
      refine bj_sub [1, 2, 0] (lo' := [(0, .ref x0), (1, .ref x1), (2, .int (x2 + 1))]) rfl ?_
      exact hnx2 _ _ _ _ hw
theorem m_S_addToResult {l : Launch} {R : Room} (hR : bs_rm 1 R) {Φ : bs_R → bs_H → Prop} {x0 : Nat} {x1 : Nat} {h : bs_H} (hw : w_S_addToResult Φ x0 x1 h) : bs_J l K_S_addToResult R Φ 0 [(0, .ref x0), (1, .ref x1)] [] h := by
  unfold w_S_addToResult at hw
  refine bj_iconst (pc := 0) (v := 0) d_S_addToResult_0 (by decide) ?_
  refine bj_istore_n (pc := 1) (lo' := [(2, .int 0), (0, .ref x0), (1, .ref x1)]) d_S_addToResult_1 rfl (by decide) rfl ?_
  refine bj_sub [1, 2, 0] (lo' := [(0, .ref x0), (1, .ref x1), (2, .int 0)]) rfl ?_
  exact m_S_addToResult_2 hR 1000 _ _ _ _ hw
theorem d_S_swap_0 : decode prog_6_method_11_code 0 = .ok (.iconst 0, 1) := by decide +kernel
theorem d_S_swap_1 : decode prog_6_method_11_code 1 = .ok (.istore 4, 2) := by decide +kernel
theorem d_S_swap_3 : decode prog_6_method_11_code 3 = .ok (.iload 4, 2) := by decide +kernel
theorem d_S_swap_5 : decode prog_6_method_11_code 5 = .ok (.iload_n 1, 1) := by decide +kernel
theorem d_S_swap_6 : decode prog_6_method_11_code 6 = .ok (.iadd, 1) := by decide +kernel
theorem d_S_swap_7 : decode prog_6_method_11_code 7 = .ok (.aload_n 0, 1) := by decide +kernel
theorem d_S_swap_8 : decode prog_6_method_11_code 8 = .ok (.getfield 25, 3) := by decide +kernel
theorem d_S_swap_11 : decode prog_6_method_11_code 11 = .ok (.if_icmp .ge 54, 3) := by decide +kernel
theorem d_S_swap_14 : decode prog_6_method_11_code 14 = .ok (.lload_n 2, 1) := by decide +kernel
theorem d_S_swap_15 : decode prog_6_method_11_code 15 = .ok (.iload 4, 2) := by decide +kernel
theorem d_S_swap_17 : decode prog_6_method_11_code 17 = .ok (.invokestatic 50, 3) := by decide +kernel
theorem d_S_swap_20 : decode prog_6_method_11_code 20 = .ok (.ifCond .eq 39, 3) := by decide +kernel
theorem d_S_swap_23 : decode prog_6_method_11_code 23 = .ok (.aload_n 0, 1) := by decide +kernel
theorem d_S_swap_24 : decode prog_6_method_11_code 24 = .ok (.getfield 9, 3) := by decide +kernel
theorem d_S_swap_27 : decode prog_6_method_11_code 27 = .ok (.iload 4, 2) := by decide +kernel
theorem d_S_swap_29 : decode prog_6_method_11_code 29 = .ok (.laload, 1) := by decide +kernel
theorem d_S_swap_30 : decode prog_6_method_11_code 30 = .ok (.lstore 5, 2) := by decide +kernel
theorem d_S_swap_32 : decode prog_6_method_11_code 32 = .ok (.aload_n 0, 1) := by decide +kernel
theorem d_S_swap_33 : decode prog_6_method_11_code 33 = .ok (.getfield 9, 3) := by decide +kernel
theorem d_S_swap_36 : decode prog_6_method_11_code 36 = .ok (.iload 4, 2) := by decide +kernel
theorem d_S_swap_38 : decode prog_6_method_11_code 38 = .ok (.aload_n 0, 1) := by decide +kernel
theorem d_S_swap_39 : decode prog_6_method_11_code 39 = .ok (.getfield 9, 3) := by decide +kernel
theorem d_S_swap_42 : decode prog_6_method_11_code 42 = .ok (.iload 4, 2) := by decide +kernel
theorem d_S_swap_44 : decode prog_6_method_11_code 44 = .ok (.iload_n 1, 1) := by decide +kernel
theorem d_S_swap_45 : decode prog_6_method_11_code 45 = .ok (.iadd, 1) := by decide +kernel
theorem d_S_swap_46 : decode prog_6_method_11_code 46 = .ok (.laload, 1) := by decide +kernel
theorem d_S_swap_47 : decode prog_6_method_11_code 47 = .ok (.lastore, 1) := by decide +kernel
theorem d_S_swap_48 : decode prog_6_method_11_code 48 = .ok (.aload_n 0, 1) := by decide +kernel
theorem d_S_swap_49 : decode prog_6_method_11_code 49 = .ok (.getfield 9, 3) := by decide +kernel
theorem d_S_swap_52 : decode prog_6_method_11_code 52 = .ok (.iload 4, 2) := by decide +kernel
theorem d_S_swap_54 : decode prog_6_method_11_code 54 = .ok (.iload_n 1, 1) := by decide +kernel
theorem d_S_swap_55 : decode prog_6_method_11_code 55 = .ok (.iadd, 1) := by decide +kernel
theorem d_S_swap_56 : decode prog_6_method_11_code 56 = .ok (.lload 5, 2) := by decide +kernel
theorem d_S_swap_58 : decode prog_6_method_11_code 58 = .ok (.lastore, 1) := by decide +kernel
theorem d_S_swap_59 : decode prog_6_method_11_code 59 = .ok (.iinc 4 1, 3) := by decide +kernel
theorem d_S_swap_62 : decode prog_6_method_11_code 62 = .ok (.goto (-59), 3) := by decide +kernel
theorem d_S_swap_65 : decode prog_6_method_11_code 65 = .ok (.return_, 1) := by decide +kernel
def w_S_swap_59 (Φ : bs_R → bs_H → Prop) (nx3 : Nat → Int32 → Int64 → Int32 → bs_H → Prop) (x0 : Nat) (x1 : Int32) (x2 : Int64) (x4 : Int32) (h : bs_H) : Prop :=
  nx3 x0 x1 x2 (x4 + 1) h
def w_S_swap_3_s (Φ : bs_R → bs_H → Prop) (nx3 : Nat → Int32 → Int64 → Int32 → bs_H → Prop) (x0 : Nat) (x1 : Int32) (x2 : Int64) (x4 : Int32) (h : bs_H) : Prop :=
  bs_fI h x0 4 4 (fun v1 => bs_if (v1 ≤ (x4 + x1)) (Φ (.ok none) h) (w_B_holds (bs_kI Φ fun v2 h3 => (bs_if (v2 = 0) (w_S_swap_59 Φ nx3 x0 x1 x2 x4 h3) (bs_fA h3 x0 4 0 (fun v4 => bs_lL h3 v4 x4 (fun v5 => bs_fA h3 x0 4 0 (fun v6 => bs_fA h3 x0 4 0 (fun v7 => bs_lL h3 v7 (x4 + x1) (fun v8 => bs_sL h3 v6 x4 v8 (fun h9 => bs_fA h9 x0 4 0 (fun v10 => bs_sL h9 v10 (x4 + x1) v5 (fun h11 => w_S_swap_59 Φ nx3 x0 x1 x2 x4 h11))))))))))) x2 x4 h))
def w_S_swap_3 (Φ : bs_R → bs_H → Prop) : Nat → Nat → Int32 → Int64 → Int32 → bs_H → Prop
  | 0 => fun _ _ _ _ _ => False
  | n + 1 => fun x0 x1 x2 x4 h => w_S_swap_3_s Φ (w_S_swap_3 Φ n) x0 x1 x2 x4 h
def w_S_swap (Φ : bs_R → bs_H → Prop) (x0 : Nat) (x1 : Int32) (x2 : Int64) (h : bs_H) : Prop :=
  w_S_swap_3 Φ 1000 x0 x1 x2 0 h
theorem m_S_swap_59 {l : Launch} {R : Room} {Φ : bs_R → bs_H → Prop} (hR : bs_rm 2 R) {nx3 : Nat → Int32 → Int64 → Int32 → bs_H → Prop} (hnx3 : ∀ (x0 : Nat) (x1 : Int32) (x2 : Int64) (x4 : Int32) (h : bs_H), nx3 x0 x1 x2 x4 h → bs_J l K_S_swap R Φ 3 [(0, .ref x0), (1, .int x1), (2, .long x2), (4, .int x4)] [] h) {x0 : Nat} {x1 : Int32} {x2 : Int64} {x4 : Int32} {h : bs_H} (hw : w_S_swap_59 Φ nx3 x0 x1 x2 x4 h) : bs_J l K_S_swap R Φ 59 [(0, .ref x0), (1, .int x1), (2, .long x2), (4, .int x4)] [] h := by
  unfold w_S_swap_59 at hw
  refine bj_iinc (pc := 59) (v := (x4 + 1)) (lo' := [(4, .int (x4 + 1)), (0, .ref x0), (1, .int x1), (2, .long x2)]) 3 d_S_swap_59 rfl rfl (by decide) rfl ?_
  refine bj_goto (pc := 62) (tgt := 3) d_S_swap_62 (by decide) ?_
  refine bj_sub [1, 2, 3, 0] (lo' := [(0, .ref x0), (1, .int x1), (2, .long x2), (4, .int (x4 + 1))]) rfl ?_
  exact hnx3 _ _ _ _ _ hw
theorem m_S_swap_3 {l : Launch} {R : Room} {Φ : bs_R → bs_H → Prop} (hR : bs_rm 2 R) : ∀ (n : Nat) (x0 : Nat) (x1 : Int32) (x2 : Int64) (x4 : Int32) (h : bs_H), w_S_swap_3 Φ n x0 x1 x2 x4 h → bs_J l K_S_swap R Φ 3 [(0, .ref x0), (1, .int x1), (2, .long x2), (4, .int x4)] [] h := by
  intro n
  induction n with
  | zero => intro x0 x1 x2 x4 h hw; exact hw.elim
  | succ n ih =>
    have hnx3 := ih
    intro x0 x1 x2 x4 h hw
    replace hw : w_S_swap_3_s Φ (w_S_swap_3 Φ n) x0 x1 x2 x4 h := hw
    unfold w_S_swap_3_s at hw
    refine bj_iload (pc := 3) 3 d_S_swap_3 rfl ?_
    refine bj_iload_n (pc := 5) 1 d_S_swap_5 rfl rfl ?_
    refine bj_iadd (pc := 6) d_S_swap_6 ?_
    refine bj_aload_n (pc := 7) 0 d_S_swap_7 rfl rfl ?_
    obtain ⟨fs, v1, hx, hv, hw⟩ := hw
    refine bj_get (pc := 8) (ci := 4) (k := 4) (fs := fs) (v := .int v1) d_S_swap_8 rfl (by decide) q_136 hx hv ?_
    refine bj_icmp_ge (pc := 11) (tgt := 65) d_S_swap_11 (by decide) (fun hc => ?_) (fun hc => ?_)
    · replace hw := hw.1 hc
      exact bj_vret (pc := 65) d_S_swap_65 rfl hw
    · replace hw := hw.2 hc
      refine bj_lload_n (pc := 14) 2 d_S_swap_14 rfl rfl ?_
      refine bj_iload (pc := 15) 3 d_S_swap_15 rfl ?_
      refine bj_callS (pc := 17) (np := 2) (K' := K_B_holds) (argsL := [.long x2, .int x4]) (st := []) (d1 := 1) rfl d_S_swap_17 (Or.inr ⟨_, q_328⟩) q_277 q_46 c_B_holds n_B_holds hR (by decide) (by decide) rfl (Nat.le_of_ble_eq_true rfl) rfl (Nat.le_of_ble_eq_true rfl) (fun R' hR' => m_B_holds hR' hw) (bs_kI_ok fun v2 h3 hw => ?_) (fun _ _ z => z)
      refine bj_if_eq (pc := 20) (tgt := 59) d_S_swap_20 (by decide) (fun hc => ?_) (fun hc => ?_)
      · replace hw := hw.1 hc
        exact m_S_swap_59 hR hnx3 hw
      · replace hw := hw.2 hc
        refine bj_aload_n (pc := 23) 0 d_S_swap_23 rfl rfl ?_
        obtain ⟨fs, v4, hx, hv, hw⟩ := hw
        refine bj_get (pc := 24) (ci := 4) (k := 0) (fs := fs) (v := .ref v4) d_S_swap_24 rfl (by decide) q_132 hx hv ?_
        refine bj_iload (pc := 27) 3 d_S_swap_27 rfl ?_
        obtain ⟨n, f, v5, hx, hin, hv, hw⟩ := hw
        refine bj_lald (pc := 29) (n := n) (f := f) d_S_swap_29 hx hin hv ?_
        refine bj_lstore (pc := 30) (lo' := [(5, .long v5), (0, .ref x0), (1, .int x1), (2, .long x2), (4, .int x4)]) d_S_swap_30 (by decide) rfl ?_
        refine bj_aload_n (pc := 32) 1 d_S_swap_32 rfl rfl ?_
        obtain ⟨fs, v6, hx, hv, hw⟩ := hw
        refine bj_get (pc := 33) (ci := 4) (k := 0) (fs := fs) (v := .ref v6) d_S_swap_33 rfl (by decide) q_132 hx hv ?_
        refine bj_iload (pc := 36) 4 d_S_swap_36 rfl ?_
        refine bj_aload_n (pc := 38) 1 d_S_swap_38 rfl rfl ?_
        obtain ⟨fs, v7, hx, hv, hw⟩ := hw
        refine bj_get (pc := 39) (ci := 4) (k := 0) (fs := fs) (v := .ref v7) d_S_swap_39 rfl (by decide) q_132 hx hv ?_
        refine bj_iload (pc := 42) 4 d_S_swap_42 rfl ?_
        refine bj_iload_n (pc := 44) 2 d_S_swap_44 rfl rfl ?_
        refine bj_iadd (pc := 45) d_S_swap_45 ?_
        obtain ⟨n, f, v8, hx, hin, hv, hw⟩ := hw
        refine bj_lald (pc := 46) (n := n) (f := f) d_S_swap_46 hx hin hv ?_
        obtain ⟨n, f, hx, hin, hw⟩ := hw
        refine bj_last (pc := 47) (n := n) (f := f) d_S_swap_47 hx hin ?_
        refine bj_aload_n (pc := 48) 1 d_S_swap_48 rfl rfl ?_
        obtain ⟨fs, v10, hx, hv, hw⟩ := hw
        refine bj_get (pc := 49) (ci := 4) (k := 0) (fs := fs) (v := .ref v10) d_S_swap_49 rfl (by decide) q_132 hx hv ?_
        refine bj_iload (pc := 52) 4 d_S_swap_52 rfl ?_
        refine bj_iload_n (pc := 54) 2 d_S_swap_54 rfl rfl ?_
        refine bj_iadd (pc := 55) d_S_swap_55 ?_
        refine bj_lload (pc := 56) 0 d_S_swap_56 rfl ?_
        obtain ⟨n, f, hx, hin, hw⟩ := hw
        refine bj_last (pc := 58) (n := n) (f := f) d_S_swap_58 hx hin ?_
        refine bj_sub [1, 2, 3, 4] (lo' := [(0, .ref x0), (1, .int x1), (2, .long x2), (4, .int x4)]) rfl ?_
        exact m_S_swap_59 hR hnx3 hw
theorem m_S_swap {l : Launch} {R : Room} (hR : bs_rm 2 R) {Φ : bs_R → bs_H → Prop} {x0 : Nat} {x1 : Int32} {x2 : Int64} {h : bs_H} (hw : w_S_swap Φ x0 x1 x2 h) : bs_J l K_S_swap R Φ 0 [(0, .ref x0), (1, .int x1), (2, .long x2)] [] h := by
  unfold w_S_swap at hw
  refine bj_iconst (pc := 0) (v := 0) d_S_swap_0 (by decide) ?_
  refine bj_istore (pc := 1) (lo' := [(4, .int 0), (0, .ref x0), (1, .int x1), (2, .long x2)]) d_S_swap_1 (by decide) rfl ?_
  refine bj_sub [1, 2, 3, 0] (lo' := [(0, .ref x0), (1, .int x1), (2, .long x2), (4, .int 0)]) rfl ?_
  exact m_S_swap_3 hR 1000 _ _ _ _ _ hw
theorem d_S_gather_0 : decode prog_6_method_12_code 0 = .ok (.iconst 0, 1) := by decide +kernel
theorem d_S_gather_1 : decode prog_6_method_12_code 1 = .ok (.istore_n 3, 1) := by decide +kernel
theorem d_S_gather_2 : decode prog_6_method_12_code 2 = .ok (.iconst 0, 1) := by decide +kernel
theorem d_S_gather_3 : decode prog_6_method_12_code 3 = .ok (.istore 4, 2) := by decide +kernel
theorem d_S_gather_5 : decode prog_6_method_12_code 5 = .ok (.iload 4, 2) := by decide +kernel
theorem d_S_gather_7 : decode prog_6_method_12_code 7 = .ok (.aload_n 0, 1) := by decide +kernel
theorem d_S_gather_8 : decode prog_6_method_12_code 8 = .ok (.getfield 25, 3) := by decide +kernel
theorem d_S_gather_11 : decode prog_6_method_12_code 11 = .ok (.if_icmp .ge 34, 3) := by decide +kernel
theorem d_S_gather_14 : decode prog_6_method_12_code 14 = .ok (.lload_n 1, 1) := by decide +kernel
theorem d_S_gather_15 : decode prog_6_method_12_code 15 = .ok (.iload 4, 2) := by decide +kernel
theorem d_S_gather_17 : decode prog_6_method_12_code 17 = .ok (.invokestatic 50, 3) := by decide +kernel
theorem d_S_gather_20 : decode prog_6_method_12_code 20 = .ok (.ifCond .eq 19, 3) := by decide +kernel
theorem d_S_gather_23 : decode prog_6_method_12_code 23 = .ok (.aload_n 0, 1) := by decide +kernel
theorem d_S_gather_24 : decode prog_6_method_12_code 24 = .ok (.getfield 15, 3) := by decide +kernel
theorem d_S_gather_27 : decode prog_6_method_12_code 27 = .ok (.iload_n 3, 1) := by decide +kernel
theorem d_S_gather_28 : decode prog_6_method_12_code 28 = .ok (.aload_n 0, 1) := by decide +kernel
theorem d_S_gather_29 : decode prog_6_method_12_code 29 = .ok (.getfield 9, 3) := by decide +kernel
theorem d_S_gather_32 : decode prog_6_method_12_code 32 = .ok (.iload 4, 2) := by decide +kernel
theorem d_S_gather_34 : decode prog_6_method_12_code 34 = .ok (.laload, 1) := by decide +kernel
theorem d_S_gather_35 : decode prog_6_method_12_code 35 = .ok (.lastore, 1) := by decide +kernel
theorem d_S_gather_36 : decode prog_6_method_12_code 36 = .ok (.iinc 3 1, 3) := by decide +kernel
theorem d_S_gather_39 : decode prog_6_method_12_code 39 = .ok (.iinc 4 1, 3) := by decide +kernel
theorem d_S_gather_42 : decode prog_6_method_12_code 42 = .ok (.goto (-37), 3) := by decide +kernel
theorem d_S_gather_45 : decode prog_6_method_12_code 45 = .ok (.iload_n 3, 1) := by decide +kernel
theorem d_S_gather_46 : decode prog_6_method_12_code 46 = .ok (.istore 4, 2) := by decide +kernel
theorem d_S_gather_48 : decode prog_6_method_12_code 48 = .ok (.iload 4, 2) := by decide +kernel
theorem d_S_gather_50 : decode prog_6_method_12_code 50 = .ok (.aload_n 0, 1) := by decide +kernel
theorem d_S_gather_51 : decode prog_6_method_12_code 51 = .ok (.getfield 25, 3) := by decide +kernel
theorem d_S_gather_54 : decode prog_6_method_12_code 54 = .ok (.if_icmp .ge 17, 3) := by decide +kernel
theorem d_S_gather_57 : decode prog_6_method_12_code 57 = .ok (.aload_n 0, 1) := by decide +kernel
theorem d_S_gather_58 : decode prog_6_method_12_code 58 = .ok (.getfield 15, 3) := by decide +kernel
theorem d_S_gather_61 : decode prog_6_method_12_code 61 = .ok (.iload 4, 2) := by decide +kernel
theorem d_S_gather_63 : decode prog_6_method_12_code 63 = .ok (.lconst 0, 1) := by decide +kernel
theorem d_S_gather_64 : decode prog_6_method_12_code 64 = .ok (.lastore, 1) := by decide +kernel
theorem d_S_gather_65 : decode prog_6_method_12_code 65 = .ok (.iinc 4 1, 3) := by decide +kernel
theorem d_S_gather_68 : decode prog_6_method_12_code 68 = .ok (.goto (-20), 3) := by decide +kernel
theorem d_S_gather_71 : decode prog_6_method_12_code 71 = .ok (.return_, 1) := by decide +kernel
def w_S_gather_48_s (Φ : bs_R → bs_H → Prop) (nx48 : Nat → Int32 → bs_H → Prop) (x0 : Nat) (x4 : Int32) (h : bs_H) : Prop :=
  bs_fI h x0 4 4 (fun v1 => bs_if (v1 ≤ x4) (Φ (.ok none) h) (bs_fA h x0 4 1 (fun v2 => bs_sL h v2 x4 0 (fun h3 => nx48 x0 (x4 + 1) h3))))
def w_S_gather_48 (Φ : bs_R → bs_H → Prop) : Nat → Nat → Int32 → bs_H → Prop
  | 0 => fun _ _ _ => False
  | n + 1 => fun x0 x4 h => w_S_gather_48_s Φ (w_S_gather_48 Φ n) x0 x4 h
def w_S_gather_39 (Φ : bs_R → bs_H → Prop) (nx5 : Nat → Int64 → Int32 → Int32 → bs_H → Prop) (x0 : Nat) (x1 : Int64) (x3 : Int32) (x4 : Int32) (h : bs_H) : Prop :=
  nx5 x0 x1 x3 (x4 + 1) h
def w_S_gather_5_s (Φ : bs_R → bs_H → Prop) (nx5 : Nat → Int64 → Int32 → Int32 → bs_H → Prop) (x0 : Nat) (x1 : Int64) (x3 : Int32) (x4 : Int32) (h : bs_H) : Prop :=
  bs_fI h x0 4 4 (fun v1 => bs_if (v1 ≤ x4) (w_S_gather_48 Φ 1000 x0 x3 h) (w_B_holds (bs_kI Φ fun v2 h3 => (bs_if (v2 = 0) (w_S_gather_39 Φ nx5 x0 x1 x3 x4 h3) (bs_fA h3 x0 4 1 (fun v4 => bs_fA h3 x0 4 0 (fun v5 => bs_lL h3 v5 x4 (fun v6 => bs_sL h3 v4 x3 v6 (fun h7 => w_S_gather_39 Φ nx5 x0 x1 (x3 + 1) x4 h7))))))) x1 x4 h))
def w_S_gather_5 (Φ : bs_R → bs_H → Prop) : Nat → Nat → Int64 → Int32 → Int32 → bs_H → Prop
  | 0 => fun _ _ _ _ _ => False
  | n + 1 => fun x0 x1 x3 x4 h => w_S_gather_5_s Φ (w_S_gather_5 Φ n) x0 x1 x3 x4 h
def w_S_gather (Φ : bs_R → bs_H → Prop) (x0 : Nat) (x1 : Int64) (h : bs_H) : Prop :=
  w_S_gather_5 Φ 1000 x0 x1 0 0 h
theorem m_S_gather_48 {l : Launch} {R : Room} {Φ : bs_R → bs_H → Prop} (hR : bs_rm 2 R) : ∀ (n : Nat) (x0 : Nat) (x4 : Int32) (h : bs_H), w_S_gather_48 Φ n x0 x4 h → bs_J l K_S_gather R Φ 48 [(0, .ref x0), (4, .int x4)] [] h := by
  intro n
  induction n with
  | zero => intro x0 x4 h hw; exact hw.elim
  | succ n ih =>
    have hnx48 := ih
    intro x0 x4 h hw
    replace hw : w_S_gather_48_s Φ (w_S_gather_48 Φ n) x0 x4 h := hw
    unfold w_S_gather_48_s at hw
    refine bj_iload (pc := 48) 1 d_S_gather_48 rfl ?_
    refine bj_aload_n (pc := 50) 0 d_S_gather_50 rfl rfl ?_
    obtain ⟨fs, v1, hx, hv, hw⟩ := hw
    refine bj_get (pc := 51) (ci := 4) (k := 4) (fs := fs) (v := .int v1) d_S_gather_51 rfl (by decide) q_136 hx hv ?_
    refine bj_icmp_ge (pc := 54) (tgt := 71) d_S_gather_54 (by decide) (fun hc => ?_) (fun hc => ?_)
    · replace hw := hw.1 hc
      exact bj_vret (pc := 71) d_S_gather_71 rfl hw
    · replace hw := hw.2 hc
      refine bj_aload_n (pc := 57) 0 d_S_gather_57 rfl rfl ?_
      obtain ⟨fs, v2, hx, hv, hw⟩ := hw
      refine bj_get (pc := 58) (ci := 4) (k := 1) (fs := fs) (v := .ref v2) d_S_gather_58 rfl (by decide) q_133 hx hv ?_
      refine bj_iload (pc := 61) 1 d_S_gather_61 rfl ?_
      refine bj_lconst (pc := 63) (v := 0) d_S_gather_63 (by decide) ?_
      obtain ⟨n, f, hx, hin, hw⟩ := hw
      refine bj_last (pc := 64) (n := n) (f := f) d_S_gather_64 hx hin ?_
      refine bj_iinc (pc := 65) (v := (x4 + 1)) (lo' := [(4, .int (x4 + 1)), (0, .ref x0)]) 1 d_S_gather_65 rfl rfl (by decide) rfl ?_
      refine bj_goto (pc := 68) (tgt := 48) d_S_gather_68 (by decide) ?_
      refine bj_sub [1, 0] (lo' := [(0, .ref x0), (4, .int (x4 + 1))]) rfl ?_
      exact hnx48 _ _ _ hw
theorem m_S_gather_39 {l : Launch} {R : Room} {Φ : bs_R → bs_H → Prop} (hR : bs_rm 2 R) {nx5 : Nat → Int64 → Int32 → Int32 → bs_H → Prop} (hnx5 : ∀ (x0 : Nat) (x1 : Int64) (x3 : Int32) (x4 : Int32) (h : bs_H), nx5 x0 x1 x3 x4 h → bs_J l K_S_gather R Φ 5 [(0, .ref x0), (1, .long x1), (3, .int x3), (4, .int x4)] [] h) {x0 : Nat} {x1 : Int64} {x3 : Int32} {x4 : Int32} {h : bs_H} (hw : w_S_gather_39 Φ nx5 x0 x1 x3 x4 h) : bs_J l K_S_gather R Φ 39 [(0, .ref x0), (1, .long x1), (3, .int x3), (4, .int x4)] [] h := by
  unfold w_S_gather_39 at hw
  refine bj_iinc (pc := 39) (v := (x4 + 1)) (lo' := [(4, .int (x4 + 1)), (0, .ref x0), (1, .long x1), (3, .int x3)]) 3 d_S_gather_39 rfl rfl (by decide) rfl ?_
  refine bj_goto (pc := 42) (tgt := 5) d_S_gather_42 (by decide) ?_
  refine bj_sub [1, 2, 3, 0] (lo' := [(0, .ref x0), (1, .long x1), (3, .int x3), (4, .int (x4 + 1))]) rfl ?_
  exact hnx5 _ _ _ _ _ hw
theorem m_S_gather_5 {l : Launch} {R : Room} {Φ : bs_R → bs_H → Prop} (hR : bs_rm 2 R) : ∀ (n : Nat) (x0 : Nat) (x1 : Int64) (x3 : Int32) (x4 : Int32) (h : bs_H), w_S_gather_5 Φ n x0 x1 x3 x4 h → bs_J l K_S_gather R Φ 5 [(0, .ref x0), (1, .long x1), (3, .int x3), (4, .int x4)] [] h := by
  intro n
  induction n with
  | zero => intro x0 x1 x3 x4 h hw; exact hw.elim
  | succ n ih =>
    have hnx5 := ih
    intro x0 x1 x3 x4 h hw
    replace hw : w_S_gather_5_s Φ (w_S_gather_5 Φ n) x0 x1 x3 x4 h := hw
    unfold w_S_gather_5_s at hw
    refine bj_iload (pc := 5) 3 d_S_gather_5 rfl ?_
    refine bj_aload_n (pc := 7) 0 d_S_gather_7 rfl rfl ?_
    obtain ⟨fs, v1, hx, hv, hw⟩ := hw
    refine bj_get (pc := 8) (ci := 4) (k := 4) (fs := fs) (v := .int v1) d_S_gather_8 rfl (by decide) q_136 hx hv ?_
    refine bj_icmp_ge (pc := 11) (tgt := 45) d_S_gather_11 (by decide) (fun hc => ?_) (fun hc => ?_)
    · replace hw := hw.1 hc
      refine bj_iload_n (pc := 45) 2 d_S_gather_45 rfl rfl ?_
      refine bj_istore (pc := 46) (lo' := [(4, .int x3), (0, .ref x0), (1, .long x1), (3, .int x3)]) d_S_gather_46 (by decide) rfl ?_
      refine bj_sub [1, 0] (lo' := [(0, .ref x0), (4, .int x3)]) rfl ?_
      exact m_S_gather_48 hR 1000 _ _ _ hw
    · replace hw := hw.2 hc
      refine bj_lload_n (pc := 14) 1 d_S_gather_14 rfl rfl ?_
      refine bj_iload (pc := 15) 3 d_S_gather_15 rfl ?_
      refine bj_callS (pc := 17) (np := 2) (K' := K_B_holds) (argsL := [.long x1, .int x4]) (st := []) (d1 := 1) rfl d_S_gather_17 (Or.inr ⟨_, q_328⟩) q_277 q_46 c_B_holds n_B_holds hR (by decide) (by decide) rfl (Nat.le_of_ble_eq_true rfl) rfl (Nat.le_of_ble_eq_true rfl) (fun R' hR' => m_B_holds hR' hw) (bs_kI_ok fun v2 h3 hw => ?_) (fun _ _ z => z)
      refine bj_if_eq (pc := 20) (tgt := 39) d_S_gather_20 (by decide) (fun hc => ?_) (fun hc => ?_)
      · replace hw := hw.1 hc
        exact m_S_gather_39 hR hnx5 hw
      · replace hw := hw.2 hc
        refine bj_aload_n (pc := 23) 0 d_S_gather_23 rfl rfl ?_
        obtain ⟨fs, v4, hx, hv, hw⟩ := hw
        refine bj_get (pc := 24) (ci := 4) (k := 1) (fs := fs) (v := .ref v4) d_S_gather_24 rfl (by decide) q_133 hx hv ?_
        refine bj_iload_n (pc := 27) 2 d_S_gather_27 rfl rfl ?_
        refine bj_aload_n (pc := 28) 0 d_S_gather_28 rfl rfl ?_
        obtain ⟨fs, v5, hx, hv, hw⟩ := hw
        refine bj_get (pc := 29) (ci := 4) (k := 0) (fs := fs) (v := .ref v5) d_S_gather_29 rfl (by decide) q_132 hx hv ?_
        refine bj_iload (pc := 32) 3 d_S_gather_32 rfl ?_
        obtain ⟨n, f, v6, hx, hin, hv, hw⟩ := hw
        refine bj_lald (pc := 34) (n := n) (f := f) d_S_gather_34 hx hin hv ?_
        obtain ⟨n, f, hx, hin, hw⟩ := hw
        refine bj_last (pc := 35) (n := n) (f := f) d_S_gather_35 hx hin ?_
        refine bj_iinc (pc := 36) (v := (x3 + 1)) (lo' := [(3, .int (x3 + 1)), (0, .ref x0), (1, .long x1), (4, .int x4)]) 2 d_S_gather_36 rfl rfl (by decide) rfl ?_
        refine bj_sub [1, 2, 0, 3] (lo' := [(0, .ref x0), (1, .long x1), (3, .int (x3 + 1)), (4, .int x4)]) rfl ?_
        exact m_S_gather_39 hR hnx5 hw
theorem m_S_gather {l : Launch} {R : Room} (hR : bs_rm 2 R) {Φ : bs_R → bs_H → Prop} {x0 : Nat} {x1 : Int64} {h : bs_H} (hw : w_S_gather Φ x0 x1 h) : bs_J l K_S_gather R Φ 0 [(0, .ref x0), (1, .long x1)] [] h := by
  unfold w_S_gather at hw
  refine bj_iconst (pc := 0) (v := 0) d_S_gather_0 (by decide) ?_
  refine bj_istore_n (pc := 1) (lo' := [(3, .int 0), (0, .ref x0), (1, .long x1)]) d_S_gather_1 rfl (by decide) rfl ?_
  refine bj_iconst (pc := 2) (v := 0) d_S_gather_2 (by decide) ?_
  refine bj_istore (pc := 3) (lo' := [(4, .int 0), (3, .int 0), (0, .ref x0), (1, .long x1)]) d_S_gather_3 (by decide) rfl ?_
  refine bj_sub [2, 3, 1, 0] (lo' := [(0, .ref x0), (1, .long x1), (3, .int 0), (4, .int 0)]) rfl ?_
  exact m_S_gather_5 hR 1000 _ _ _ _ _ hw
theorem d_JL_bitCount_0 : decode prog_15_method_50_code 0 = .ok (.lload_n 0, 1) := by decide +kernel
theorem d_JL_bitCount_1 : decode prog_15_method_50_code 1 = .ok (.lload_n 0, 1) := by decide +kernel
theorem d_JL_bitCount_2 : decode prog_15_method_50_code 2 = .ok (.iconst 1, 1) := by decide +kernel
theorem d_JL_bitCount_3 : decode prog_15_method_50_code 3 = .ok (.lushr, 1) := by decide +kernel
theorem d_JL_bitCount_4 : decode prog_15_method_50_code 4 = .ok (.ldc2_w 314, 3) := by decide +kernel
theorem d_JL_bitCount_7 : decode prog_15_method_50_code 7 = .ok (.land, 1) := by decide +kernel
theorem d_JL_bitCount_8 : decode prog_15_method_50_code 8 = .ok (.lsub, 1) := by decide +kernel
theorem d_JL_bitCount_9 : decode prog_15_method_50_code 9 = .ok (.lstore_n 0, 1) := by decide +kernel
theorem d_JL_bitCount_10 : decode prog_15_method_50_code 10 = .ok (.lload_n 0, 1) := by decide +kernel
theorem d_JL_bitCount_11 : decode prog_15_method_50_code 11 = .ok (.ldc2_w 316, 3) := by decide +kernel
theorem d_JL_bitCount_14 : decode prog_15_method_50_code 14 = .ok (.land, 1) := by decide +kernel
theorem d_JL_bitCount_15 : decode prog_15_method_50_code 15 = .ok (.lload_n 0, 1) := by decide +kernel
theorem d_JL_bitCount_16 : decode prog_15_method_50_code 16 = .ok (.iconst 2, 1) := by decide +kernel
theorem d_JL_bitCount_17 : decode prog_15_method_50_code 17 = .ok (.lushr, 1) := by decide +kernel
theorem d_JL_bitCount_18 : decode prog_15_method_50_code 18 = .ok (.ldc2_w 316, 3) := by decide +kernel
theorem d_JL_bitCount_21 : decode prog_15_method_50_code 21 = .ok (.land, 1) := by decide +kernel
theorem d_JL_bitCount_22 : decode prog_15_method_50_code 22 = .ok (.ladd, 1) := by decide +kernel
theorem d_JL_bitCount_23 : decode prog_15_method_50_code 23 = .ok (.lstore_n 0, 1) := by decide +kernel
theorem d_JL_bitCount_24 : decode prog_15_method_50_code 24 = .ok (.lload_n 0, 1) := by decide +kernel
theorem d_JL_bitCount_25 : decode prog_15_method_50_code 25 = .ok (.lload_n 0, 1) := by decide +kernel
theorem d_JL_bitCount_26 : decode prog_15_method_50_code 26 = .ok (.iconst 4, 1) := by decide +kernel
theorem d_JL_bitCount_27 : decode prog_15_method_50_code 27 = .ok (.lushr, 1) := by decide +kernel
theorem d_JL_bitCount_28 : decode prog_15_method_50_code 28 = .ok (.ladd, 1) := by decide +kernel
theorem d_JL_bitCount_29 : decode prog_15_method_50_code 29 = .ok (.ldc2_w 318, 3) := by decide +kernel
theorem d_JL_bitCount_32 : decode prog_15_method_50_code 32 = .ok (.land, 1) := by decide +kernel
theorem d_JL_bitCount_33 : decode prog_15_method_50_code 33 = .ok (.lstore_n 0, 1) := by decide +kernel
theorem d_JL_bitCount_34 : decode prog_15_method_50_code 34 = .ok (.lload_n 0, 1) := by decide +kernel
theorem d_JL_bitCount_35 : decode prog_15_method_50_code 35 = .ok (.lload_n 0, 1) := by decide +kernel
theorem d_JL_bitCount_36 : decode prog_15_method_50_code 36 = .ok (.bipush 8, 2) := by decide +kernel
theorem d_JL_bitCount_38 : decode prog_15_method_50_code 38 = .ok (.lushr, 1) := by decide +kernel
theorem d_JL_bitCount_39 : decode prog_15_method_50_code 39 = .ok (.ladd, 1) := by decide +kernel
theorem d_JL_bitCount_40 : decode prog_15_method_50_code 40 = .ok (.lstore_n 0, 1) := by decide +kernel
theorem d_JL_bitCount_41 : decode prog_15_method_50_code 41 = .ok (.lload_n 0, 1) := by decide +kernel
theorem d_JL_bitCount_42 : decode prog_15_method_50_code 42 = .ok (.lload_n 0, 1) := by decide +kernel
theorem d_JL_bitCount_43 : decode prog_15_method_50_code 43 = .ok (.bipush 16, 2) := by decide +kernel
theorem d_JL_bitCount_45 : decode prog_15_method_50_code 45 = .ok (.lushr, 1) := by decide +kernel
theorem d_JL_bitCount_46 : decode prog_15_method_50_code 46 = .ok (.ladd, 1) := by decide +kernel
theorem d_JL_bitCount_47 : decode prog_15_method_50_code 47 = .ok (.lstore_n 0, 1) := by decide +kernel
theorem d_JL_bitCount_48 : decode prog_15_method_50_code 48 = .ok (.lload_n 0, 1) := by decide +kernel
theorem d_JL_bitCount_49 : decode prog_15_method_50_code 49 = .ok (.lload_n 0, 1) := by decide +kernel
theorem d_JL_bitCount_50 : decode prog_15_method_50_code 50 = .ok (.bipush 32, 2) := by decide +kernel
theorem d_JL_bitCount_52 : decode prog_15_method_50_code 52 = .ok (.lushr, 1) := by decide +kernel
theorem d_JL_bitCount_53 : decode prog_15_method_50_code 53 = .ok (.ladd, 1) := by decide +kernel
theorem d_JL_bitCount_54 : decode prog_15_method_50_code 54 = .ok (.lstore_n 0, 1) := by decide +kernel
theorem d_JL_bitCount_55 : decode prog_15_method_50_code 55 = .ok (.lload_n 0, 1) := by decide +kernel
theorem d_JL_bitCount_56 : decode prog_15_method_50_code 56 = .ok (.l2i, 1) := by decide +kernel
theorem d_JL_bitCount_57 : decode prog_15_method_50_code 57 = .ok (.bipush 127, 2) := by decide +kernel
theorem d_JL_bitCount_59 : decode prog_15_method_50_code 59 = .ok (.iand, 1) := by decide +kernel
theorem d_JL_bitCount_60 : decode prog_15_method_50_code 60 = .ok (.ireturn, 1) := by decide +kernel
def w_JL_bitCount (Φ : bs_R → bs_H → Prop) (x0 : Int64) (h : bs_H) : Prop :=
  Φ (.ok (some (.int (((((((((x0 - ((bs_ushr x0 1) &&& 6148914691236517205)) &&& 3689348814741910323) + ((bs_ushr (x0 - ((bs_ushr x0 1) &&& 6148914691236517205)) 2) &&& 3689348814741910323)) + (bs_ushr (((x0 - ((bs_ushr x0 1) &&& 6148914691236517205)) &&& 3689348814741910323) + ((bs_ushr (x0 - ((bs_ushr x0 1) &&& 6148914691236517205)) 2) &&& 3689348814741910323)) 4)) &&& 1085102592571150095) + (bs_ushr (((((x0 - ((bs_ushr x0 1) &&& 6148914691236517205)) &&& 3689348814741910323) + ((bs_ushr (x0 - ((bs_ushr x0 1) &&& 6148914691236517205)) 2) &&& 3689348814741910323)) + (bs_ushr (((x0 - ((bs_ushr x0 1) &&& 6148914691236517205)) &&& 3689348814741910323) + ((bs_ushr (x0 - ((bs_ushr x0 1) &&& 6148914691236517205)) 2) &&& 3689348814741910323)) 4)) &&& 1085102592571150095) 8)) + (bs_ushr ((((((x0 - ((bs_ushr x0 1) &&& 6148914691236517205)) &&& 3689348814741910323) + ((bs_ushr (x0 - ((bs_ushr x0 1) &&& 6148914691236517205)) 2) &&& 3689348814741910323)) + (bs_ushr (((x0 - ((bs_ushr x0 1) &&& 6148914691236517205)) &&& 3689348814741910323) + ((bs_ushr (x0 - ((bs_ushr x0 1) &&& 6148914691236517205)) 2) &&& 3689348814741910323)) 4)) &&& 1085102592571150095) + (bs_ushr (((((x0 - ((bs_ushr x0 1) &&& 6148914691236517205)) &&& 3689348814741910323) + ((bs_ushr (x0 - ((bs_ushr x0 1) &&& 6148914691236517205)) 2) &&& 3689348814741910323)) + (bs_ushr (((x0 - ((bs_ushr x0 1) &&& 6148914691236517205)) &&& 3689348814741910323) + ((bs_ushr (x0 - ((bs_ushr x0 1) &&& 6148914691236517205)) 2) &&& 3689348814741910323)) 4)) &&& 1085102592571150095) 8)) 16)) + (bs_ushr (((((((x0 - ((bs_ushr x0 1) &&& 6148914691236517205)) &&& 3689348814741910323) + ((bs_ushr (x0 - ((bs_ushr x0 1) &&& 6148914691236517205)) 2) &&& 3689348814741910323)) + (bs_ushr (((x0 - ((bs_ushr x0 1) &&& 6148914691236517205)) &&& 3689348814741910323) + ((bs_ushr (x0 - ((bs_ushr x0 1) &&& 6148914691236517205)) 2) &&& 3689348814741910323)) 4)) &&& 1085102592571150095) + (bs_ushr (((((x0 - ((bs_ushr x0 1) &&& 6148914691236517205)) &&& 3689348814741910323) + ((bs_ushr (x0 - ((bs_ushr x0 1) &&& 6148914691236517205)) 2) &&& 3689348814741910323)) + (bs_ushr (((x0 - ((bs_ushr x0 1) &&& 6148914691236517205)) &&& 3689348814741910323) + ((bs_ushr (x0 - ((bs_ushr x0 1) &&& 6148914691236517205)) 2) &&& 3689348814741910323)) 4)) &&& 1085102592571150095) 8)) + (bs_ushr ((((((x0 - ((bs_ushr x0 1) &&& 6148914691236517205)) &&& 3689348814741910323) + ((bs_ushr (x0 - ((bs_ushr x0 1) &&& 6148914691236517205)) 2) &&& 3689348814741910323)) + (bs_ushr (((x0 - ((bs_ushr x0 1) &&& 6148914691236517205)) &&& 3689348814741910323) + ((bs_ushr (x0 - ((bs_ushr x0 1) &&& 6148914691236517205)) 2) &&& 3689348814741910323)) 4)) &&& 1085102592571150095) + (bs_ushr (((((x0 - ((bs_ushr x0 1) &&& 6148914691236517205)) &&& 3689348814741910323) + ((bs_ushr (x0 - ((bs_ushr x0 1) &&& 6148914691236517205)) 2) &&& 3689348814741910323)) + (bs_ushr (((x0 - ((bs_ushr x0 1) &&& 6148914691236517205)) &&& 3689348814741910323) + ((bs_ushr (x0 - ((bs_ushr x0 1) &&& 6148914691236517205)) 2) &&& 3689348814741910323)) 4)) &&& 1085102592571150095) 8)) 16)) 32)).toInt32 &&& 127)))) h
theorem m_JL_bitCount {l : Launch} {R : Room} (hR : bs_rm 1 R) {Φ : bs_R → bs_H → Prop} {x0 : Int64} {h : bs_H} (hw : w_JL_bitCount Φ x0 h) : bs_J l K_JL_bitCount R Φ 0 [(0, .long x0)] [] h := by
  unfold w_JL_bitCount at hw
  refine bj_lload_n (pc := 0) 0 d_JL_bitCount_0 rfl rfl ?_
  refine bj_lload_n (pc := 1) 0 d_JL_bitCount_1 rfl rfl ?_
  refine bj_iconst (pc := 2) (v := 1) d_JL_bitCount_2 (by decide) ?_
  refine bj_lushr (pc := 3) d_JL_bitCount_3 ?_
  refine bj_ldc2 (pc := 4) (v := 6148914691236517205) d_JL_bitCount_4 q_348 ?_
  refine bj_land (pc := 7) d_JL_bitCount_7 ?_
  refine bj_lsub (pc := 8) d_JL_bitCount_8 ?_
  refine bj_lstore_n (pc := 9) (lo' := [(0, .long (x0 - ((bs_ushr x0 1) &&& 6148914691236517205)))]) d_JL_bitCount_9 rfl (by decide) rfl ?_
  refine bj_lload_n (pc := 10) 0 d_JL_bitCount_10 rfl rfl ?_
  refine bj_ldc2 (pc := 11) (v := 3689348814741910323) d_JL_bitCount_11 q_349 ?_
  refine bj_land (pc := 14) d_JL_bitCount_14 ?_
  refine bj_lload_n (pc := 15) 0 d_JL_bitCount_15 rfl rfl ?_
  refine bj_iconst (pc := 16) (v := 2) d_JL_bitCount_16 (by decide) ?_
  refine bj_lushr (pc := 17) d_JL_bitCount_17 ?_
  refine bj_ldc2 (pc := 18) (v := 3689348814741910323) d_JL_bitCount_18 q_349 ?_
  refine bj_land (pc := 21) d_JL_bitCount_21 ?_
  refine bj_ladd (pc := 22) d_JL_bitCount_22 ?_
  refine bj_lstore_n (pc := 23) (lo' := [(0, .long (((x0 - ((bs_ushr x0 1) &&& 6148914691236517205)) &&& 3689348814741910323) + ((bs_ushr (x0 - ((bs_ushr x0 1) &&& 6148914691236517205)) 2) &&& 3689348814741910323)))]) d_JL_bitCount_23 rfl (by decide) rfl ?_
  refine bj_lload_n (pc := 24) 0 d_JL_bitCount_24 rfl rfl ?_
  refine bj_lload_n (pc := 25) 0 d_JL_bitCount_25 rfl rfl ?_
  refine bj_iconst (pc := 26) (v := 4) d_JL_bitCount_26 (by decide) ?_
  refine bj_lushr (pc := 27) d_JL_bitCount_27 ?_
  refine bj_ladd (pc := 28) d_JL_bitCount_28 ?_
  refine bj_ldc2 (pc := 29) (v := 1085102592571150095) d_JL_bitCount_29 q_350 ?_
  refine bj_land (pc := 32) d_JL_bitCount_32 ?_
  refine bj_lstore_n (pc := 33) (lo' := [(0, .long (((((x0 - ((bs_ushr x0 1) &&& 6148914691236517205)) &&& 3689348814741910323) + ((bs_ushr (x0 - ((bs_ushr x0 1) &&& 6148914691236517205)) 2) &&& 3689348814741910323)) + (bs_ushr (((x0 - ((bs_ushr x0 1) &&& 6148914691236517205)) &&& 3689348814741910323) + ((bs_ushr (x0 - ((bs_ushr x0 1) &&& 6148914691236517205)) 2) &&& 3689348814741910323)) 4)) &&& 1085102592571150095))]) d_JL_bitCount_33 rfl (by decide) rfl ?_
  refine bj_lload_n (pc := 34) 0 d_JL_bitCount_34 rfl rfl ?_
  refine bj_lload_n (pc := 35) 0 d_JL_bitCount_35 rfl rfl ?_
  refine bj_bipush (pc := 36) (v := 8) d_JL_bitCount_36 (by decide) ?_
  refine bj_lushr (pc := 38) d_JL_bitCount_38 ?_
  refine bj_ladd (pc := 39) d_JL_bitCount_39 ?_
  refine bj_lstore_n (pc := 40) (lo' := [(0, .long ((((((x0 - ((bs_ushr x0 1) &&& 6148914691236517205)) &&& 3689348814741910323) + ((bs_ushr (x0 - ((bs_ushr x0 1) &&& 6148914691236517205)) 2) &&& 3689348814741910323)) + (bs_ushr (((x0 - ((bs_ushr x0 1) &&& 6148914691236517205)) &&& 3689348814741910323) + ((bs_ushr (x0 - ((bs_ushr x0 1) &&& 6148914691236517205)) 2) &&& 3689348814741910323)) 4)) &&& 1085102592571150095) + (bs_ushr (((((x0 - ((bs_ushr x0 1) &&& 6148914691236517205)) &&& 3689348814741910323) + ((bs_ushr (x0 - ((bs_ushr x0 1) &&& 6148914691236517205)) 2) &&& 3689348814741910323)) + (bs_ushr (((x0 - ((bs_ushr x0 1) &&& 6148914691236517205)) &&& 3689348814741910323) + ((bs_ushr (x0 - ((bs_ushr x0 1) &&& 6148914691236517205)) 2) &&& 3689348814741910323)) 4)) &&& 1085102592571150095) 8)))]) d_JL_bitCount_40 rfl (by decide) rfl ?_
  refine bj_lload_n (pc := 41) 0 d_JL_bitCount_41 rfl rfl ?_
  refine bj_lload_n (pc := 42) 0 d_JL_bitCount_42 rfl rfl ?_
  refine bj_bipush (pc := 43) (v := 16) d_JL_bitCount_43 (by decide) ?_
  refine bj_lushr (pc := 45) d_JL_bitCount_45 ?_
  refine bj_ladd (pc := 46) d_JL_bitCount_46 ?_
  refine bj_lstore_n (pc := 47) (lo' := [(0, .long (((((((x0 - ((bs_ushr x0 1) &&& 6148914691236517205)) &&& 3689348814741910323) + ((bs_ushr (x0 - ((bs_ushr x0 1) &&& 6148914691236517205)) 2) &&& 3689348814741910323)) + (bs_ushr (((x0 - ((bs_ushr x0 1) &&& 6148914691236517205)) &&& 3689348814741910323) + ((bs_ushr (x0 - ((bs_ushr x0 1) &&& 6148914691236517205)) 2) &&& 3689348814741910323)) 4)) &&& 1085102592571150095) + (bs_ushr (((((x0 - ((bs_ushr x0 1) &&& 6148914691236517205)) &&& 3689348814741910323) + ((bs_ushr (x0 - ((bs_ushr x0 1) &&& 6148914691236517205)) 2) &&& 3689348814741910323)) + (bs_ushr (((x0 - ((bs_ushr x0 1) &&& 6148914691236517205)) &&& 3689348814741910323) + ((bs_ushr (x0 - ((bs_ushr x0 1) &&& 6148914691236517205)) 2) &&& 3689348814741910323)) 4)) &&& 1085102592571150095) 8)) + (bs_ushr ((((((x0 - ((bs_ushr x0 1) &&& 6148914691236517205)) &&& 3689348814741910323) + ((bs_ushr (x0 - ((bs_ushr x0 1) &&& 6148914691236517205)) 2) &&& 3689348814741910323)) + (bs_ushr (((x0 - ((bs_ushr x0 1) &&& 6148914691236517205)) &&& 3689348814741910323) + ((bs_ushr (x0 - ((bs_ushr x0 1) &&& 6148914691236517205)) 2) &&& 3689348814741910323)) 4)) &&& 1085102592571150095) + (bs_ushr (((((x0 - ((bs_ushr x0 1) &&& 6148914691236517205)) &&& 3689348814741910323) + ((bs_ushr (x0 - ((bs_ushr x0 1) &&& 6148914691236517205)) 2) &&& 3689348814741910323)) + (bs_ushr (((x0 - ((bs_ushr x0 1) &&& 6148914691236517205)) &&& 3689348814741910323) + ((bs_ushr (x0 - ((bs_ushr x0 1) &&& 6148914691236517205)) 2) &&& 3689348814741910323)) 4)) &&& 1085102592571150095) 8)) 16)))]) d_JL_bitCount_47 rfl (by decide) rfl ?_
  refine bj_lload_n (pc := 48) 0 d_JL_bitCount_48 rfl rfl ?_
  refine bj_lload_n (pc := 49) 0 d_JL_bitCount_49 rfl rfl ?_
  refine bj_bipush (pc := 50) (v := 32) d_JL_bitCount_50 (by decide) ?_
  refine bj_lushr (pc := 52) d_JL_bitCount_52 ?_
  refine bj_ladd (pc := 53) d_JL_bitCount_53 ?_
  refine bj_lstore_n (pc := 54) (lo' := [(0, .long ((((((((x0 - ((bs_ushr x0 1) &&& 6148914691236517205)) &&& 3689348814741910323) + ((bs_ushr (x0 - ((bs_ushr x0 1) &&& 6148914691236517205)) 2) &&& 3689348814741910323)) + (bs_ushr (((x0 - ((bs_ushr x0 1) &&& 6148914691236517205)) &&& 3689348814741910323) + ((bs_ushr (x0 - ((bs_ushr x0 1) &&& 6148914691236517205)) 2) &&& 3689348814741910323)) 4)) &&& 1085102592571150095) + (bs_ushr (((((x0 - ((bs_ushr x0 1) &&& 6148914691236517205)) &&& 3689348814741910323) + ((bs_ushr (x0 - ((bs_ushr x0 1) &&& 6148914691236517205)) 2) &&& 3689348814741910323)) + (bs_ushr (((x0 - ((bs_ushr x0 1) &&& 6148914691236517205)) &&& 3689348814741910323) + ((bs_ushr (x0 - ((bs_ushr x0 1) &&& 6148914691236517205)) 2) &&& 3689348814741910323)) 4)) &&& 1085102592571150095) 8)) + (bs_ushr ((((((x0 - ((bs_ushr x0 1) &&& 6148914691236517205)) &&& 3689348814741910323) + ((bs_ushr (x0 - ((bs_ushr x0 1) &&& 6148914691236517205)) 2) &&& 3689348814741910323)) + (bs_ushr (((x0 - ((bs_ushr x0 1) &&& 6148914691236517205)) &&& 3689348814741910323) + ((bs_ushr (x0 - ((bs_ushr x0 1) &&& 6148914691236517205)) 2) &&& 3689348814741910323)) 4)) &&& 1085102592571150095) + (bs_ushr (((((x0 - ((bs_ushr x0 1) &&& 6148914691236517205)) &&& 3689348814741910323) + ((bs_ushr (x0 - ((bs_ushr x0 1) &&& 6148914691236517205)) 2) &&& 3689348814741910323)) + (bs_ushr (((x0 - ((bs_ushr x0 1) &&& 6148914691236517205)) &&& 3689348814741910323) + ((bs_ushr (x0 - ((bs_ushr x0 1) &&& 6148914691236517205)) 2) &&& 3689348814741910323)) 4)) &&& 1085102592571150095) 8)) 16)) + (bs_ushr (((((((x0 - ((bs_ushr x0 1) &&& 6148914691236517205)) &&& 3689348814741910323) + ((bs_ushr (x0 - ((bs_ushr x0 1) &&& 6148914691236517205)) 2) &&& 3689348814741910323)) + (bs_ushr (((x0 - ((bs_ushr x0 1) &&& 6148914691236517205)) &&& 3689348814741910323) + ((bs_ushr (x0 - ((bs_ushr x0 1) &&& 6148914691236517205)) 2) &&& 3689348814741910323)) 4)) &&& 1085102592571150095) + (bs_ushr (((((x0 - ((bs_ushr x0 1) &&& 6148914691236517205)) &&& 3689348814741910323) + ((bs_ushr (x0 - ((bs_ushr x0 1) &&& 6148914691236517205)) 2) &&& 3689348814741910323)) + (bs_ushr (((x0 - ((bs_ushr x0 1) &&& 6148914691236517205)) &&& 3689348814741910323) + ((bs_ushr (x0 - ((bs_ushr x0 1) &&& 6148914691236517205)) 2) &&& 3689348814741910323)) 4)) &&& 1085102592571150095) 8)) + (bs_ushr ((((((x0 - ((bs_ushr x0 1) &&& 6148914691236517205)) &&& 3689348814741910323) + ((bs_ushr (x0 - ((bs_ushr x0 1) &&& 6148914691236517205)) 2) &&& 3689348814741910323)) + (bs_ushr (((x0 - ((bs_ushr x0 1) &&& 6148914691236517205)) &&& 3689348814741910323) + ((bs_ushr (x0 - ((bs_ushr x0 1) &&& 6148914691236517205)) 2) &&& 3689348814741910323)) 4)) &&& 1085102592571150095) + (bs_ushr (((((x0 - ((bs_ushr x0 1) &&& 6148914691236517205)) &&& 3689348814741910323) + ((bs_ushr (x0 - ((bs_ushr x0 1) &&& 6148914691236517205)) 2) &&& 3689348814741910323)) + (bs_ushr (((x0 - ((bs_ushr x0 1) &&& 6148914691236517205)) &&& 3689348814741910323) + ((bs_ushr (x0 - ((bs_ushr x0 1) &&& 6148914691236517205)) 2) &&& 3689348814741910323)) 4)) &&& 1085102592571150095) 8)) 16)) 32)))]) d_JL_bitCount_54 rfl (by decide) rfl ?_
  refine bj_lload_n (pc := 55) 0 d_JL_bitCount_55 rfl rfl ?_
  refine bj_l2i (pc := 56) d_JL_bitCount_56 ?_
  refine bj_bipush (pc := 57) (v := 127) d_JL_bitCount_57 (by decide) ?_
  refine bj_iand (pc := 59) d_JL_bitCount_59 ?_
  exact bj_iret (pc := 60) d_JL_bitCount_60 rfl hw
theorem d_S_scatter_0 : decode prog_6_method_13_code 0 = .ok (.lload_n 1, 1) := by decide +kernel
theorem d_S_scatter_1 : decode prog_6_method_13_code 1 = .ok (.invokestatic 83, 3) := by decide +kernel
theorem d_S_scatter_4 : decode prog_6_method_13_code 4 = .ok (.istore_n 3, 1) := by decide +kernel
theorem d_S_scatter_5 : decode prog_6_method_13_code 5 = .ok (.aload_n 0, 1) := by decide +kernel
theorem d_S_scatter_6 : decode prog_6_method_13_code 6 = .ok (.getfield 25, 3) := by decide +kernel
theorem d_S_scatter_9 : decode prog_6_method_13_code 9 = .ok (.iconst 1, 1) := by decide +kernel
theorem d_S_scatter_10 : decode prog_6_method_13_code 10 = .ok (.isub, 1) := by decide +kernel
theorem d_S_scatter_11 : decode prog_6_method_13_code 11 = .ok (.istore 4, 2) := by decide +kernel
theorem d_S_scatter_13 : decode prog_6_method_13_code 13 = .ok (.iload 4, 2) := by decide +kernel
theorem d_S_scatter_15 : decode prog_6_method_13_code 15 = .ok (.ifCond .lt 49, 3) := by decide +kernel
theorem d_S_scatter_18 : decode prog_6_method_13_code 18 = .ok (.lload_n 1, 1) := by decide +kernel
theorem d_S_scatter_19 : decode prog_6_method_13_code 19 = .ok (.iload 4, 2) := by decide +kernel
theorem d_S_scatter_21 : decode prog_6_method_13_code 21 = .ok (.invokestatic 50, 3) := by decide +kernel
theorem d_S_scatter_24 : decode prog_6_method_13_code 24 = .ok (.ifCond .eq 26, 3) := by decide +kernel
theorem d_S_scatter_27 : decode prog_6_method_13_code 27 = .ok (.iload_n 3, 1) := by decide +kernel
theorem d_S_scatter_28 : decode prog_6_method_13_code 28 = .ok (.ifCond .le 22, 3) := by decide +kernel
theorem d_S_scatter_31 : decode prog_6_method_13_code 31 = .ok (.iinc 3 (-1), 3) := by decide +kernel
theorem d_S_scatter_34 : decode prog_6_method_13_code 34 = .ok (.aload_n 0, 1) := by decide +kernel
theorem d_S_scatter_35 : decode prog_6_method_13_code 35 = .ok (.getfield 15, 3) := by decide +kernel
theorem d_S_scatter_38 : decode prog_6_method_13_code 38 = .ok (.iload 4, 2) := by decide +kernel
theorem d_S_scatter_40 : decode prog_6_method_13_code 40 = .ok (.aload_n 0, 1) := by decide +kernel
theorem d_S_scatter_41 : decode prog_6_method_13_code 41 = .ok (.getfield 15, 3) := by decide +kernel
theorem d_S_scatter_44 : decode prog_6_method_13_code 44 = .ok (.iload_n 3, 1) := by decide +kernel
theorem d_S_scatter_45 : decode prog_6_method_13_code 45 = .ok (.laload, 1) := by decide +kernel
theorem d_S_scatter_46 : decode prog_6_method_13_code 46 = .ok (.lastore, 1) := by decide +kernel
theorem d_S_scatter_47 : decode prog_6_method_13_code 47 = .ok (.goto 11, 3) := by decide +kernel
theorem d_S_scatter_50 : decode prog_6_method_13_code 50 = .ok (.aload_n 0, 1) := by decide +kernel
theorem d_S_scatter_51 : decode prog_6_method_13_code 51 = .ok (.getfield 15, 3) := by decide +kernel
theorem d_S_scatter_54 : decode prog_6_method_13_code 54 = .ok (.iload 4, 2) := by decide +kernel
theorem d_S_scatter_56 : decode prog_6_method_13_code 56 = .ok (.lconst 0, 1) := by decide +kernel
theorem d_S_scatter_57 : decode prog_6_method_13_code 57 = .ok (.lastore, 1) := by decide +kernel
theorem d_S_scatter_58 : decode prog_6_method_13_code 58 = .ok (.iinc 4 (-1), 3) := by decide +kernel
theorem d_S_scatter_61 : decode prog_6_method_13_code 61 = .ok (.goto (-48), 3) := by decide +kernel
theorem d_S_scatter_64 : decode prog_6_method_13_code 64 = .ok (.return_, 1) := by decide +kernel
def w_S_scatter_58 (Φ : bs_R → bs_H → Prop) (nx13 : Nat → Int64 → Int32 → Int32 → bs_H → Prop) (x0 : Nat) (x1 : Int64) (x3 : Int32) (x4 : Int32) (h : bs_H) : Prop :=
  nx13 x0 x1 x3 (x4 + (-1)) h
def w_S_scatter_50 (Φ : bs_R → bs_H → Prop) (nx13 : Nat → Int64 → Int32 → Int32 → bs_H → Prop) (x0 : Nat) (x1 : Int64) (x3 : Int32) (x4 : Int32) (h : bs_H) : Prop :=
  bs_fA h x0 4 1 (fun v1 => bs_sL h v1 x4 0 (fun h2 => w_S_scatter_58 Φ nx13 x0 x1 x3 x4 h2))
def w_S_scatter_13_s (Φ : bs_R → bs_H → Prop) (nx13 : Nat → Int64 → Int32 → Int32 → bs_H → Prop) (x0 : Nat) (x1 : Int64) (x3 : Int32) (x4 : Int32) (h : bs_H) : Prop :=
  bs_if (x4 < 0) (Φ (.ok none) h) (w_B_holds (bs_kI Φ fun v1 h2 => (bs_if (v1 = 0) (w_S_scatter_50 Φ nx13 x0 x1 x3 x4 h2) (bs_if (x3 ≤ 0) (w_S_scatter_50 Φ nx13 x0 x1 x3 x4 h2) (bs_fA h2 x0 4 1 (fun v3 => bs_fA h2 x0 4 1 (fun v4 => bs_lL h2 v4 (x3 + (-1)) (fun v5 => bs_sL h2 v3 x4 v5 (fun h6 => w_S_scatter_58 Φ nx13 x0 x1 (x3 + (-1)) x4 h6)))))))) x1 x4 h)
def w_S_scatter_13 (Φ : bs_R → bs_H → Prop) : Nat → Nat → Int64 → Int32 → Int32 → bs_H → Prop
  | 0 => fun _ _ _ _ _ => False
  | n + 1 => fun x0 x1 x3 x4 h => w_S_scatter_13_s Φ (w_S_scatter_13 Φ n) x0 x1 x3 x4 h
def w_S_scatter (Φ : bs_R → bs_H → Prop) (x0 : Nat) (x1 : Int64) (h : bs_H) : Prop :=
  w_JL_bitCount (bs_kI Φ fun v1 h2 => (bs_fI h2 x0 4 4 (fun v3 => w_S_scatter_13 Φ 1000 x0 x1 v1 (v3 - 1) h2))) x1 h
theorem m_S_scatter_58 {l : Launch} {R : Room} {Φ : bs_R → bs_H → Prop} (hR : bs_rm 2 R) {nx13 : Nat → Int64 → Int32 → Int32 → bs_H → Prop} (hnx13 : ∀ (x0 : Nat) (x1 : Int64) (x3 : Int32) (x4 : Int32) (h : bs_H), nx13 x0 x1 x3 x4 h → bs_J l K_S_scatter R Φ 13 [(0, .ref x0), (1, .long x1), (3, .int x3), (4, .int x4)] [] h) {x0 : Nat} {x1 : Int64} {x3 : Int32} {x4 : Int32} {h : bs_H} (hw : w_S_scatter_58 Φ nx13 x0 x1 x3 x4 h) : bs_J l K_S_scatter R Φ 58 [(0, .ref x0), (1, .long x1), (3, .int x3), (4, .int x4)] [] h := by
  unfold w_S_scatter_58 at hw
  refine bj_iinc (pc := 58) (v := (x4 + (-1))) (lo' := [(4, .int (x4 + (-1))), (0, .ref x0), (1, .long x1), (3, .int x3)]) 3 d_S_scatter_58 rfl rfl (by decide) rfl ?_
  refine bj_goto (pc := 61) (tgt := 13) d_S_scatter_61 (by decide) ?_
  refine bj_sub [1, 2, 3, 0] (lo' := [(0, .ref x0), (1, .long x1), (3, .int x3), (4, .int (x4 + (-1)))]) rfl ?_
  exact hnx13 _ _ _ _ _ hw
theorem m_S_scatter_50 {l : Launch} {R : Room} {Φ : bs_R → bs_H → Prop} (hR : bs_rm 2 R) {nx13 : Nat → Int64 → Int32 → Int32 → bs_H → Prop} (hnx13 : ∀ (x0 : Nat) (x1 : Int64) (x3 : Int32) (x4 : Int32) (h : bs_H), nx13 x0 x1 x3 x4 h → bs_J l K_S_scatter R Φ 13 [(0, .ref x0), (1, .long x1), (3, .int x3), (4, .int x4)] [] h) {x0 : Nat} {x1 : Int64} {x3 : Int32} {x4 : Int32} {h : bs_H} (hw : w_S_scatter_50 Φ nx13 x0 x1 x3 x4 h) : bs_J l K_S_scatter R Φ 50 [(0, .ref x0), (1, .long x1), (3, .int x3), (4, .int x4)] [] h := by
  unfold w_S_scatter_50 at hw
  refine bj_aload_n (pc := 50) 0 d_S_scatter_50 rfl rfl ?_
  obtain ⟨fs, v1, hx, hv, hw⟩ := hw
  refine bj_get (pc := 51) (ci := 4) (k := 1) (fs := fs) (v := .ref v1) d_S_scatter_51 rfl (by decide) q_133 hx hv ?_
  refine bj_iload (pc := 54) 3 d_S_scatter_54 rfl ?_
  refine bj_lconst (pc := 56) (v := 0) d_S_scatter_56 (by decide) ?_
  obtain ⟨n, f, hx, hin, hw⟩ := hw
  refine bj_last (pc := 57) (n := n) (f := f) d_S_scatter_57 hx hin ?_
  exact m_S_scatter_58 hR hnx13 hw
theorem m_S_scatter_13 {l : Launch} {R : Room} {Φ : bs_R → bs_H → Prop} (hR : bs_rm 2 R) : ∀ (n : Nat) (x0 : Nat) (x1 : Int64) (x3 : Int32) (x4 : Int32) (h : bs_H), w_S_scatter_13 Φ n x0 x1 x3 x4 h → bs_J l K_S_scatter R Φ 13 [(0, .ref x0), (1, .long x1), (3, .int x3), (4, .int x4)] [] h := by
  intro n
  induction n with
  | zero => intro x0 x1 x3 x4 h hw; exact hw.elim
  | succ n ih =>
    have hnx13 := ih
    intro x0 x1 x3 x4 h hw
    replace hw : w_S_scatter_13_s Φ (w_S_scatter_13 Φ n) x0 x1 x3 x4 h := hw
    unfold w_S_scatter_13_s at hw
    refine bj_iload (pc := 13) 3 d_S_scatter_13 rfl ?_
    refine bj_if_lt (pc := 15) (tgt := 64) d_S_scatter_15 (by decide) (fun hc => ?_) (fun hc => ?_)
    · replace hw := hw.1 hc
      exact bj_vret (pc := 64) d_S_scatter_64 rfl hw
    · replace hw := hw.2 hc
      refine bj_lload_n (pc := 18) 1 d_S_scatter_18 rfl rfl ?_
      refine bj_iload (pc := 19) 3 d_S_scatter_19 rfl ?_
      refine bj_callS (pc := 21) (np := 2) (K' := K_B_holds) (argsL := [.long x1, .int x4]) (st := []) (d1 := 1) rfl d_S_scatter_21 (Or.inr ⟨_, q_328⟩) q_277 q_46 c_B_holds n_B_holds hR (by decide) (by decide) rfl (Nat.le_of_ble_eq_true rfl) rfl (Nat.le_of_ble_eq_true rfl) (fun R' hR' => m_B_holds hR' hw) (bs_kI_ok fun v1 h2 hw => ?_) (fun _ _ z => z)
      refine bj_if_eq (pc := 24) (tgt := 50) d_S_scatter_24 (by decide) (fun hc => ?_) (fun hc => ?_)
      · replace hw := hw.1 hc
        exact m_S_scatter_50 hR hnx13 hw
      · replace hw := hw.2 hc
        refine bj_iload_n (pc := 27) 2 d_S_scatter_27 rfl rfl ?_
        refine bj_if_le (pc := 28) (tgt := 50) d_S_scatter_28 (by decide) (fun hc => ?_) (fun hc => ?_)
        · replace hw := hw.1 hc
          exact m_S_scatter_50 hR hnx13 hw
        · replace hw := hw.2 hc
          refine bj_iinc (pc := 31) (v := (x3 + (-1))) (lo' := [(3, .int (x3 + (-1))), (0, .ref x0), (1, .long x1), (4, .int x4)]) 2 d_S_scatter_31 rfl rfl (by decide) rfl ?_
          refine bj_aload_n (pc := 34) 1 d_S_scatter_34 rfl rfl ?_
          obtain ⟨fs, v3, hx, hv, hw⟩ := hw
          refine bj_get (pc := 35) (ci := 4) (k := 1) (fs := fs) (v := .ref v3) d_S_scatter_35 rfl (by decide) q_133 hx hv ?_
          refine bj_iload (pc := 38) 3 d_S_scatter_38 rfl ?_
          refine bj_aload_n (pc := 40) 1 d_S_scatter_40 rfl rfl ?_
          obtain ⟨fs, v4, hx, hv, hw⟩ := hw
          refine bj_get (pc := 41) (ci := 4) (k := 1) (fs := fs) (v := .ref v4) d_S_scatter_41 rfl (by decide) q_133 hx hv ?_
          refine bj_iload_n (pc := 44) 0 d_S_scatter_44 rfl rfl ?_
          obtain ⟨n, f, v5, hx, hin, hv, hw⟩ := hw
          refine bj_lald (pc := 45) (n := n) (f := f) d_S_scatter_45 hx hin hv ?_
          obtain ⟨n, f, hx, hin, hw⟩ := hw
          refine bj_last (pc := 46) (n := n) (f := f) d_S_scatter_46 hx hin ?_
          refine bj_goto (pc := 47) (tgt := 58) d_S_scatter_47 (by decide) ?_
          refine bj_sub [1, 2, 0, 3] (lo' := [(0, .ref x0), (1, .long x1), (3, .int (x3 + (-1))), (4, .int x4)]) rfl ?_
          exact m_S_scatter_58 hR hnx13 hw
theorem m_S_scatter {l : Launch} {R : Room} (hR : bs_rm 2 R) {Φ : bs_R → bs_H → Prop} {x0 : Nat} {x1 : Int64} {h : bs_H} (hw : w_S_scatter Φ x0 x1 h) : bs_J l K_S_scatter R Φ 0 [(0, .ref x0), (1, .long x1)] [] h := by
  unfold w_S_scatter at hw
  refine bj_lload_n (pc := 0) 1 d_S_scatter_0 rfl rfl ?_
  refine bj_callS (pc := 1) (np := 1) (K' := K_JL_bitCount) (argsL := [.long x1]) (st := []) (d1 := 1) rfl d_S_scatter_1 (Or.inl q_345) q_346 q_61 c_JL_bitCount n_JL_bitCount hR (by decide) (by decide) rfl (Nat.le_of_ble_eq_true rfl) rfl (Nat.le_of_ble_eq_true rfl) (fun R' hR' => m_JL_bitCount hR' hw) (bs_kI_ok fun v1 h2 hw => ?_) (fun _ _ z => z)
  refine bj_istore_n (pc := 4) (lo' := [(3, .int v1), (0, .ref x0), (1, .long x1)]) d_S_scatter_4 rfl (by decide) rfl ?_
  refine bj_aload_n (pc := 5) 1 d_S_scatter_5 rfl rfl ?_
  obtain ⟨fs, v3, hx, hv, hw⟩ := hw
  refine bj_get (pc := 6) (ci := 4) (k := 4) (fs := fs) (v := .int v3) d_S_scatter_6 rfl (by decide) q_136 hx hv ?_
  refine bj_iconst (pc := 9) (v := 1) d_S_scatter_9 (by decide) ?_
  refine bj_isub (pc := 10) d_S_scatter_10 ?_
  refine bj_istore (pc := 11) (lo' := [(4, .int (v3 - 1)), (3, .int v1), (0, .ref x0), (1, .long x1)]) d_S_scatter_11 (by decide) rfl ?_
  refine bj_sub [2, 3, 1, 0] (lo' := [(0, .ref x0), (1, .long x1), (3, .int v1), (4, .int (v3 - 1))]) rfl ?_
  exact m_S_scatter_13 hR 1000 _ _ _ _ _ hw
