/-! Decode rows, meanings and rows of: R_add, R_addOnes, R_makeMoves, R_across, R_decide, R_split. Written by program. -/
theorem d_R_add_0 : decode prog_9_method_9_code 0 = .ok (.aload_n 0, 1) := by decide +kernel
theorem d_R_add_1 : decode prog_9_method_9_code 1 = .ok (.getfield 13, 3) := by decide +kernel
theorem d_R_add_4 : decode prog_9_method_9_code 4 = .ok (.aload_n 0, 1) := by decide +kernel
theorem d_R_add_5 : decode prog_9_method_9_code 5 = .ok (.getfield 92, 3) := by decide +kernel
theorem d_R_add_8 : decode prog_9_method_9_code 8 = .ok (.iload_n 1, 1) := by decide +kernel
theorem d_R_add_9 : decode prog_9_method_9_code 9 = .ok (.iastore, 1) := by decide +kernel
theorem d_R_add_10 : decode prog_9_method_9_code 10 = .ok (.aload_n 0, 1) := by decide +kernel
theorem d_R_add_11 : decode prog_9_method_9_code 11 = .ok (.getfield 16, 3) := by decide +kernel
theorem d_R_add_14 : decode prog_9_method_9_code 14 = .ok (.aload_n 0, 1) := by decide +kernel
theorem d_R_add_15 : decode prog_9_method_9_code 15 = .ok (.getfield 92, 3) := by decide +kernel
theorem d_R_add_18 : decode prog_9_method_9_code 18 = .ok (.iload_n 2, 1) := by decide +kernel
theorem d_R_add_19 : decode prog_9_method_9_code 19 = .ok (.iastore, 1) := by decide +kernel
theorem d_R_add_20 : decode prog_9_method_9_code 20 = .ok (.aload_n 0, 1) := by decide +kernel
theorem d_R_add_21 : decode prog_9_method_9_code 21 = .ok (.getfield 19, 3) := by decide +kernel
theorem d_R_add_24 : decode prog_9_method_9_code 24 = .ok (.aload_n 0, 1) := by decide +kernel
theorem d_R_add_25 : decode prog_9_method_9_code 25 = .ok (.getfield 92, 3) := by decide +kernel
theorem d_R_add_28 : decode prog_9_method_9_code 28 = .ok (.lload_n 3, 1) := by decide +kernel
theorem d_R_add_29 : decode prog_9_method_9_code 29 = .ok (.lastore, 1) := by decide +kernel
theorem d_R_add_30 : decode prog_9_method_9_code 30 = .ok (.aload_n 0, 1) := by decide +kernel
theorem d_R_add_31 : decode prog_9_method_9_code 31 = .ok (.dup, 1) := by decide +kernel
theorem d_R_add_32 : decode prog_9_method_9_code 32 = .ok (.getfield 92, 3) := by decide +kernel
theorem d_R_add_35 : decode prog_9_method_9_code 35 = .ok (.iconst 1, 1) := by decide +kernel
theorem d_R_add_36 : decode prog_9_method_9_code 36 = .ok (.iadd, 1) := by decide +kernel
theorem d_R_add_37 : decode prog_9_method_9_code 37 = .ok (.putfield 92, 3) := by decide +kernel
theorem d_R_add_40 : decode prog_9_method_9_code 40 = .ok (.return_, 1) := by decide +kernel
def w_R_add (Φ : bs_R → bs_H → Prop) (x0 : Nat) (x1 : Int32) (x2 : Int32) (x3 : Int64) (h : bs_H) : Prop :=
  bs_fA h x0 7 4 (fun v1 => bs_fI h x0 7 3 (fun v2 => bs_sI h v1 v2 x1 (fun h3 => bs_fA h3 x0 7 5 (fun v4 => bs_fI h3 x0 7 3 (fun v5 => bs_sI h3 v4 v5 x2 (fun h6 => bs_fA h6 x0 7 6 (fun v7 => bs_fI h6 x0 7 3 (fun v8 => bs_sL h6 v7 v8 x3 (fun h9 => bs_fI h9 x0 7 3 (fun v10 => bs_p h9 x0 7 3 (.int (v10 + 1)) (fun h11 => Φ (.ok none) h11)))))))))))
theorem m_R_add {l : Launch} {R : Room} (hR : bs_rm 1 R) {Φ : bs_R → bs_H → Prop} {x0 : Nat} {x1 : Int32} {x2 : Int32} {x3 : Int64} {h : bs_H} (hw : w_R_add Φ x0 x1 x2 x3 h) : bs_J l K_R_add R Φ 0 [(0, .ref x0), (1, .int x1), (2, .int x2), (3, .long x3)] [] h := by
  unfold w_R_add at hw
  refine bj_aload_n (pc := 0) 0 d_R_add_0 rfl rfl ?_
  obtain ⟨fs, v1, hx, hv, hw⟩ := hw
  refine bj_get (pc := 1) (ci := 7) (k := 4) (fs := fs) (v := .ref v1) d_R_add_1 rfl (by decide) q_752 hx hv ?_
  refine bj_aload_n (pc := 4) 0 d_R_add_4 rfl rfl ?_
  obtain ⟨fs, v2, hx, hv, hw⟩ := hw
  refine bj_get (pc := 5) (ci := 7) (k := 3) (fs := fs) (v := .int v2) d_R_add_5 rfl (by decide) q_751 hx hv ?_
  refine bj_iload_n (pc := 8) 1 d_R_add_8 rfl rfl ?_
  obtain ⟨n, f, hx, hin, hw⟩ := hw
  refine bj_iast (pc := 9) (n := n) (f := f) d_R_add_9 hx hin ?_
  refine bj_aload_n (pc := 10) 0 d_R_add_10 rfl rfl ?_
  obtain ⟨fs, v4, hx, hv, hw⟩ := hw
  refine bj_get (pc := 11) (ci := 7) (k := 5) (fs := fs) (v := .ref v4) d_R_add_11 rfl (by decide) q_753 hx hv ?_
  refine bj_aload_n (pc := 14) 0 d_R_add_14 rfl rfl ?_
  obtain ⟨fs, v5, hx, hv, hw⟩ := hw
  refine bj_get (pc := 15) (ci := 7) (k := 3) (fs := fs) (v := .int v5) d_R_add_15 rfl (by decide) q_751 hx hv ?_
  refine bj_iload_n (pc := 18) 2 d_R_add_18 rfl rfl ?_
  obtain ⟨n, f, hx, hin, hw⟩ := hw
  refine bj_iast (pc := 19) (n := n) (f := f) d_R_add_19 hx hin ?_
  refine bj_aload_n (pc := 20) 0 d_R_add_20 rfl rfl ?_
  obtain ⟨fs, v7, hx, hv, hw⟩ := hw
  refine bj_get (pc := 21) (ci := 7) (k := 6) (fs := fs) (v := .ref v7) d_R_add_21 rfl (by decide) q_754 hx hv ?_
  refine bj_aload_n (pc := 24) 0 d_R_add_24 rfl rfl ?_
  obtain ⟨fs, v8, hx, hv, hw⟩ := hw
  refine bj_get (pc := 25) (ci := 7) (k := 3) (fs := fs) (v := .int v8) d_R_add_25 rfl (by decide) q_751 hx hv ?_
  refine bj_lload_n (pc := 28) 3 d_R_add_28 rfl rfl ?_
  obtain ⟨n, f, hx, hin, hw⟩ := hw
  refine bj_last (pc := 29) (n := n) (f := f) d_R_add_29 hx hin ?_
  refine bj_aload_n (pc := 30) 0 d_R_add_30 rfl rfl ?_
  refine bj_dup (pc := 31) d_R_add_31 rfl ?_
  obtain ⟨fs, v10, hx, hv, hw⟩ := hw
  refine bj_get (pc := 32) (ci := 7) (k := 3) (fs := fs) (v := .int v10) d_R_add_32 rfl (by decide) q_751 hx hv ?_
  refine bj_iconst (pc := 35) (v := 1) d_R_add_35 (by decide) ?_
  refine bj_iadd (pc := 36) d_R_add_36 ?_
  obtain ⟨fs, hx, hlen, hw⟩ := hw
  refine bj_put (pc := 37) (ci := 7) (k := 3) (fs := fs) (v := (.int (v10 + 1))) (ty := .int) d_R_add_37 rfl (by decide) q_751 rfl (by decide +kernel) rfl rfl hx hlen ?_
  exact bj_vret (pc := 40) d_R_add_40 rfl hw
theorem d_R_addOnes_0 : decode prog_9_method_10_code 0 = .ok (.lconst 0, 1) := by decide +kernel
theorem d_R_addOnes_1 : decode prog_9_method_10_code 1 = .ok (.lstore_n 1, 1) := by decide +kernel
theorem d_R_addOnes_2 : decode prog_9_method_10_code 2 = .ok (.iconst 0, 1) := by decide +kernel
theorem d_R_addOnes_3 : decode prog_9_method_10_code 3 = .ok (.istore_n 3, 1) := by decide +kernel
theorem d_R_addOnes_4 : decode prog_9_method_10_code 4 = .ok (.iload_n 3, 1) := by decide +kernel
theorem d_R_addOnes_5 : decode prog_9_method_10_code 5 = .ok (.aload_n 0, 1) := by decide +kernel
theorem d_R_addOnes_6 : decode prog_9_method_10_code 6 = .ok (.getfield 89, 3) := by decide +kernel
theorem d_R_addOnes_9 : decode prog_9_method_10_code 9 = .ok (.if_icmp .ge 30, 3) := by decide +kernel
theorem d_R_addOnes_12 : decode prog_9_method_10_code 12 = .ok (.aload_n 0, 1) := by decide +kernel
theorem d_R_addOnes_13 : decode prog_9_method_10_code 13 = .ok (.getfield 7, 3) := by decide +kernel
theorem d_R_addOnes_16 : decode prog_9_method_10_code 16 = .ok (.iload_n 3, 1) := by decide +kernel
theorem d_R_addOnes_17 : decode prog_9_method_10_code 17 = .ok (.iaload, 1) := by decide +kernel
theorem d_R_addOnes_18 : decode prog_9_method_10_code 18 = .ok (.bipush 65, 2) := by decide +kernel
theorem d_R_addOnes_20 : decode prog_9_method_10_code 20 = .ok (.if_icmp .ne 11, 3) := by decide +kernel
theorem d_R_addOnes_23 : decode prog_9_method_10_code 23 = .ok (.lload_n 1, 1) := by decide +kernel
theorem d_R_addOnes_24 : decode prog_9_method_10_code 24 = .ok (.lconst 1, 1) := by decide +kernel
theorem d_R_addOnes_25 : decode prog_9_method_10_code 25 = .ok (.iload_n 3, 1) := by decide +kernel
theorem d_R_addOnes_26 : decode prog_9_method_10_code 26 = .ok (.lshl, 1) := by decide +kernel
theorem d_R_addOnes_27 : decode prog_9_method_10_code 27 = .ok (.lor, 1) := by decide +kernel
theorem d_R_addOnes_28 : decode prog_9_method_10_code 28 = .ok (.goto 4, 3) := by decide +kernel
theorem d_R_addOnes_31 : decode prog_9_method_10_code 31 = .ok (.lload_n 1, 1) := by decide +kernel
theorem d_R_addOnes_32 : decode prog_9_method_10_code 32 = .ok (.lstore_n 1, 1) := by decide +kernel
theorem d_R_addOnes_33 : decode prog_9_method_10_code 33 = .ok (.iinc 3 1, 3) := by decide +kernel
theorem d_R_addOnes_36 : decode prog_9_method_10_code 36 = .ok (.goto (-32), 3) := by decide +kernel
theorem d_R_addOnes_39 : decode prog_9_method_10_code 39 = .ok (.lload_n 1, 1) := by decide +kernel
theorem d_R_addOnes_40 : decode prog_9_method_10_code 40 = .ok (.lconst 0, 1) := by decide +kernel
theorem d_R_addOnes_41 : decode prog_9_method_10_code 41 = .ok (.lcmp, 1) := by decide +kernel
theorem d_R_addOnes_42 : decode prog_9_method_10_code 42 = .ok (.ifCond .eq 10, 3) := by decide +kernel
theorem d_R_addOnes_45 : decode prog_9_method_10_code 45 = .ok (.aload_n 0, 1) := by decide +kernel
theorem d_R_addOnes_46 : decode prog_9_method_10_code 46 = .ok (.iconst 4, 1) := by decide +kernel
theorem d_R_addOnes_47 : decode prog_9_method_10_code 47 = .ok (.iconst 0, 1) := by decide +kernel
theorem d_R_addOnes_48 : decode prog_9_method_10_code 48 = .ok (.lload_n 1, 1) := by decide +kernel
theorem d_R_addOnes_49 : decode prog_9_method_10_code 49 = .ok (.invokevirtual 99, 3) := by decide +kernel
theorem d_R_addOnes_52 : decode prog_9_method_10_code 52 = .ok (.return_, 1) := by decide +kernel
def w_R_addOnes_52 (Φ : bs_R → bs_H → Prop) (h : bs_H) : Prop :=
  Φ (.ok none) h
def w_R_addOnes_32 (Φ : bs_R → bs_H → Prop) (nx4 : Nat → Int64 → Int32 → bs_H → Prop) (x0 : Nat) (x3 : Int32) (s0 : Int64) (h : bs_H) : Prop :=
  nx4 x0 s0 (x3 + 1) h
def w_R_addOnes_4_s (Φ : bs_R → bs_H → Prop) (nx4 : Nat → Int64 → Int32 → bs_H → Prop) (x0 : Nat) (x1 : Int64) (x3 : Int32) (h : bs_H) : Prop :=
  bs_fI h x0 7 1 (fun v1 => bs_if (v1 ≤ x3) (bs_if (x1 = 0) (w_R_addOnes_52 Φ h) (bs_on h x0 7 (w_R_add (bs_kV Φ fun h2 => (w_R_addOnes_52 Φ h2)) x0 4 0 x1 h))) (bs_fA h x0 7 2 (fun v3 => bs_lI h v3 x3 (fun v4 => bs_if (v4 = 65) (w_R_addOnes_32 Φ nx4 x0 x3 (x1 ||| (bs_shl 1 x3)) h) (w_R_addOnes_32 Φ nx4 x0 x3 x1 h)))))
def w_R_addOnes_4 (Φ : bs_R → bs_H → Prop) : Nat → Nat → Int64 → Int32 → bs_H → Prop
  | 0 => fun _ _ _ _ => False
  | n + 1 => fun x0 x1 x3 h => w_R_addOnes_4_s Φ (w_R_addOnes_4 Φ n) x0 x1 x3 h
def w_R_addOnes (Φ : bs_R → bs_H → Prop) (x0 : Nat) (h : bs_H) : Prop :=
  w_R_addOnes_4 Φ 1000 x0 0 0 h
theorem m_R_addOnes_52 {l : Launch} {R : Room} {Φ : bs_R → bs_H → Prop} (hR : bs_rm 2 R) {h : bs_H} (hw : w_R_addOnes_52 Φ h) : bs_J l K_R_addOnes R Φ 52 [] [] h := by
  unfold w_R_addOnes_52 at hw
  exact bj_vret (pc := 52) d_R_addOnes_52 rfl hw
theorem m_R_addOnes_32 {l : Launch} {R : Room} {Φ : bs_R → bs_H → Prop} (hR : bs_rm 2 R) {nx4 : Nat → Int64 → Int32 → bs_H → Prop} (hnx4 : ∀ (x0 : Nat) (x1 : Int64) (x3 : Int32) (h : bs_H), nx4 x0 x1 x3 h → bs_J l K_R_addOnes R Φ 4 [(0, .ref x0), (1, .long x1), (3, .int x3)] [] h) {x0 : Nat} {x3 : Int32} {s0 : Int64} {h : bs_H} (hw : w_R_addOnes_32 Φ nx4 x0 x3 s0 h) : bs_J l K_R_addOnes R Φ 32 [(0, .ref x0), (3, .int x3)] [.long s0] h := by
  unfold w_R_addOnes_32 at hw
  refine bj_lstore_n (pc := 32) (lo' := [(1, .long s0), (0, .ref x0), (3, .int x3)]) d_R_addOnes_32 rfl (by decide) rfl ?_
  refine bj_iinc (pc := 33) (v := (x3 + 1)) (lo' := [(3, .int (x3 + 1)), (1, .long s0), (0, .ref x0)]) 2 d_R_addOnes_33 rfl rfl (by decide) rfl ?_
  refine bj_goto (pc := 36) (tgt := 4) d_R_addOnes_36 (by decide) ?_
  refine bj_sub [2, 1, 0] (lo' := [(0, .ref x0), (1, .long s0), (3, .int (x3 + 1))]) rfl ?_
  exact hnx4 _ _ _ _ hw
theorem m_R_addOnes_4 {l : Launch} {R : Room} {Φ : bs_R → bs_H → Prop} (hR : bs_rm 2 R) : ∀ (n : Nat) (x0 : Nat) (x1 : Int64) (x3 : Int32) (h : bs_H), w_R_addOnes_4 Φ n x0 x1 x3 h → bs_J l K_R_addOnes R Φ 4 [(0, .ref x0), (1, .long x1), (3, .int x3)] [] h := by
  intro n
  induction n with
  | zero => intro x0 x1 x3 h hw; exact hw.elim
  | succ n ih =>
    have hnx4 := ih
    intro x0 x1 x3 h hw
    replace hw : w_R_addOnes_4_s Φ (w_R_addOnes_4 Φ n) x0 x1 x3 h := hw
    unfold w_R_addOnes_4_s at hw
    refine bj_iload_n (pc := 4) 2 d_R_addOnes_4 rfl rfl ?_
    refine bj_aload_n (pc := 5) 0 d_R_addOnes_5 rfl rfl ?_
    obtain ⟨fs, v1, hx, hv, hw⟩ := hw
    refine bj_get (pc := 6) (ci := 7) (k := 1) (fs := fs) (v := .int v1) d_R_addOnes_6 rfl (by decide) q_749 hx hv ?_
    refine bj_icmp_ge (pc := 9) (tgt := 39) d_R_addOnes_9 (by decide) (fun hc => ?_) (fun hc => ?_)
    · replace hw := hw.1 hc
      refine bj_lload_n (pc := 39) 1 d_R_addOnes_39 rfl rfl ?_
      refine bj_lconst (pc := 40) (v := 0) d_R_addOnes_40 (by decide) ?_
      refine bj_lc_eq (pc := 41) (tgt := 52) d_R_addOnes_41 d_R_addOnes_42 (by decide) (fun hc => ?_) (fun hc => ?_)
      · replace hw := hw.1 hc
        refine bj_sub [] (lo' := []) rfl ?_
        exact m_R_addOnes_52 hR hw
      · replace hw := hw.2 hc
        refine bj_aload_n (pc := 45) 0 d_R_addOnes_45 rfl rfl ?_
        refine bj_iconst (pc := 46) (v := 4) d_R_addOnes_46 (by decide) ?_
        refine bj_iconst (pc := 47) (v := 0) d_R_addOnes_47 (by decide) ?_
        refine bj_lload_n (pc := 48) 1 d_R_addOnes_48 rfl rfl ?_
        obtain ⟨⟨fs, hx⟩, hw⟩ := hw
        refine bj_callV (pc := 49) (np := 3) (K' := K_R_add) (argsL := [.int 4, .int 0, .long x1]) (st := []) (d1 := 1) (ci := 7) (fs := fs) rfl d_R_addOnes_49 (Or.inl q_863) q_865 rfl q_27 c_R_add n_R_add hR (by decide) (by decide) rfl (Nat.le_of_ble_eq_true rfl) rfl (Nat.le_of_ble_eq_true rfl) hx (fun R' hR' => m_R_add hR' hw) (bs_kV_ok fun h2 hw => ?_) (fun _ _ z => z)
        refine bj_sub [] (lo' := []) rfl ?_
        exact m_R_addOnes_52 hR hw
    · replace hw := hw.2 hc
      refine bj_aload_n (pc := 12) 0 d_R_addOnes_12 rfl rfl ?_
      obtain ⟨fs, v3, hx, hv, hw⟩ := hw
      refine bj_get (pc := 13) (ci := 7) (k := 2) (fs := fs) (v := .ref v3) d_R_addOnes_13 rfl (by decide) q_750 hx hv ?_
      refine bj_iload_n (pc := 16) 2 d_R_addOnes_16 rfl rfl ?_
      obtain ⟨n, f, v4, hx, hin, hv, hw⟩ := hw
      refine bj_iald (pc := 17) (n := n) (f := f) d_R_addOnes_17 hx hin hv ?_
      refine bj_bipush (pc := 18) (v := 65) d_R_addOnes_18 (by decide) ?_
      refine bj_icmp_ne (pc := 20) (tgt := 31) d_R_addOnes_20 (by decide) (fun hc => ?_) (fun hc => ?_)
      · replace hw := hw.2 hc
        refine bj_lload_n (pc := 31) 1 d_R_addOnes_31 rfl rfl ?_
        refine bj_sub [0, 2] (lo' := [(0, .ref x0), (3, .int x3)]) rfl ?_
        exact m_R_addOnes_32 hR hnx4 hw
      · replace hw := hw.1 hc
        refine bj_lload_n (pc := 23) 1 d_R_addOnes_23 rfl rfl ?_
        refine bj_lconst (pc := 24) (v := 1) d_R_addOnes_24 (by decide) ?_
        refine bj_iload_n (pc := 25) 2 d_R_addOnes_25 rfl rfl ?_
        refine bj_lshl (pc := 26) d_R_addOnes_26 ?_
        refine bj_lor (pc := 27) d_R_addOnes_27 ?_
        refine bj_goto (pc := 28) (tgt := 32) d_R_addOnes_28 (by decide) ?_
        refine bj_sub [0, 2] (lo' := [(0, .ref x0), (3, .int x3)]) rfl ?_
        exact m_R_addOnes_32 hR hnx4 hw
theorem m_R_addOnes {l : Launch} {R : Room} (hR : bs_rm 2 R) {Φ : bs_R → bs_H → Prop} {x0 : Nat} {h : bs_H} (hw : w_R_addOnes Φ x0 h) : bs_J l K_R_addOnes R Φ 0 [(0, .ref x0)] [] h := by
  unfold w_R_addOnes at hw
  refine bj_lconst (pc := 0) (v := 0) d_R_addOnes_0 (by decide) ?_
  refine bj_lstore_n (pc := 1) (lo' := [(1, .long 0), (0, .ref x0)]) d_R_addOnes_1 rfl (by decide) rfl ?_
  refine bj_iconst (pc := 2) (v := 0) d_R_addOnes_2 (by decide) ?_
  refine bj_istore_n (pc := 3) (lo' := [(3, .int 0), (1, .long 0), (0, .ref x0)]) d_R_addOnes_3 rfl (by decide) rfl ?_
  refine bj_sub [2, 1, 0] (lo' := [(0, .ref x0), (1, .long 0), (3, .int 0)]) rfl ?_
  exact m_R_addOnes_4 hR 1000 _ _ _ _ hw
theorem d_R_makeMoves_0 : decode prog_9_method_11_code 0 = .ok (.iload_n 1, 1) := by decide +kernel
theorem d_R_makeMoves_1 : decode prog_9_method_11_code 1 = .ok (.ifCond .eq 7, 3) := by decide +kernel
theorem d_R_makeMoves_4 : decode prog_9_method_11_code 4 = .ok (.iconst 0, 1) := by decide +kernel
theorem d_R_makeMoves_5 : decode prog_9_method_11_code 5 = .ok (.goto 9, 3) := by decide +kernel
theorem d_R_makeMoves_8 : decode prog_9_method_11_code 8 = .ok (.iconst 1, 1) := by decide +kernel
theorem d_R_makeMoves_9 : decode prog_9_method_11_code 9 = .ok (.aload_n 0, 1) := by decide +kernel
theorem d_R_makeMoves_10 : decode prog_9_method_11_code 10 = .ok (.getfield 89, 3) := by decide +kernel
theorem d_R_makeMoves_13 : decode prog_9_method_11_code 13 = .ok (.isub, 1) := by decide +kernel
theorem d_R_makeMoves_14 : decode prog_9_method_11_code 14 = .ok (.istore_n 2, 1) := by decide +kernel
theorem d_R_makeMoves_15 : decode prog_9_method_11_code 15 = .ok (.iload_n 2, 1) := by decide +kernel
theorem d_R_makeMoves_16 : decode prog_9_method_11_code 16 = .ok (.aload_n 0, 1) := by decide +kernel
theorem d_R_makeMoves_17 : decode prog_9_method_11_code 17 = .ok (.getfield 89, 3) := by decide +kernel
theorem d_R_makeMoves_20 : decode prog_9_method_11_code 20 = .ok (.if_icmp .ge 128, 3) := by decide +kernel
theorem d_R_makeMoves_23 : decode prog_9_method_11_code 23 = .ok (.lconst 0, 1) := by decide +kernel
theorem d_R_makeMoves_24 : decode prog_9_method_11_code 24 = .ok (.lstore_n 3, 1) := by decide +kernel
theorem d_R_makeMoves_25 : decode prog_9_method_11_code 25 = .ok (.iconst 0, 1) := by decide +kernel
theorem d_R_makeMoves_26 : decode prog_9_method_11_code 26 = .ok (.istore 5, 2) := by decide +kernel
theorem d_R_makeMoves_28 : decode prog_9_method_11_code 28 = .ok (.iload 5, 2) := by decide +kernel
theorem d_R_makeMoves_30 : decode prog_9_method_11_code 30 = .ok (.aload_n 0, 1) := by decide +kernel
theorem d_R_makeMoves_31 : decode prog_9_method_11_code 31 = .ok (.getfield 89, 3) := by decide +kernel
theorem d_R_makeMoves_34 : decode prog_9_method_11_code 34 = .ok (.if_icmp .ge 73, 3) := by decide +kernel
theorem d_R_makeMoves_37 : decode prog_9_method_11_code 37 = .ok (.iload 5, 2) := by decide +kernel
theorem d_R_makeMoves_39 : decode prog_9_method_11_code 39 = .ok (.aload_n 0, 1) := by decide +kernel
theorem d_R_makeMoves_40 : decode prog_9_method_11_code 40 = .ok (.getfield 7, 3) := by decide +kernel
theorem d_R_makeMoves_43 : decode prog_9_method_11_code 43 = .ok (.iload 5, 2) := by decide +kernel
theorem d_R_makeMoves_45 : decode prog_9_method_11_code 45 = .ok (.iaload, 1) := by decide +kernel
theorem d_R_makeMoves_46 : decode prog_9_method_11_code 46 = .ok (.isub, 1) := by decide +kernel
theorem d_R_makeMoves_47 : decode prog_9_method_11_code 47 = .ok (.istore 6, 2) := by decide +kernel
theorem d_R_makeMoves_49 : decode prog_9_method_11_code 49 = .ok (.iload_n 1, 1) := by decide +kernel
theorem d_R_makeMoves_50 : decode prog_9_method_11_code 50 = .ok (.ifCond .eq 18, 3) := by decide +kernel
theorem d_R_makeMoves_53 : decode prog_9_method_11_code 53 = .ok (.iload 6, 2) := by decide +kernel
theorem d_R_makeMoves_55 : decode prog_9_method_11_code 55 = .ok (.ifCond .ge 13, 3) := by decide +kernel
theorem d_R_makeMoves_58 : decode prog_9_method_11_code 58 = .ok (.iload 6, 2) := by decide +kernel
theorem d_R_makeMoves_60 : decode prog_9_method_11_code 60 = .ok (.aload_n 0, 1) := by decide +kernel
theorem d_R_makeMoves_61 : decode prog_9_method_11_code 61 = .ok (.getfield 89, 3) := by decide +kernel
theorem d_R_makeMoves_64 : decode prog_9_method_11_code 64 = .ok (.iadd, 1) := by decide +kernel
theorem d_R_makeMoves_65 : decode prog_9_method_11_code 65 = .ok (.goto 5, 3) := by decide +kernel
theorem d_R_makeMoves_68 : decode prog_9_method_11_code 68 = .ok (.iload 6, 2) := by decide +kernel
theorem d_R_makeMoves_70 : decode prog_9_method_11_code 70 = .ok (.istore 6, 2) := by decide +kernel
theorem d_R_makeMoves_72 : decode prog_9_method_11_code 72 = .ok (.aload_n 0, 1) := by decide +kernel
theorem d_R_makeMoves_73 : decode prog_9_method_11_code 73 = .ok (.getfield 7, 3) := by decide +kernel
theorem d_R_makeMoves_76 : decode prog_9_method_11_code 76 = .ok (.iload 5, 2) := by decide +kernel
theorem d_R_makeMoves_78 : decode prog_9_method_11_code 78 = .ok (.iaload, 1) := by decide +kernel
theorem d_R_makeMoves_79 : decode prog_9_method_11_code 79 = .ok (.bipush 64, 2) := by decide +kernel
theorem d_R_makeMoves_81 : decode prog_9_method_11_code 81 = .ok (.if_icmp .ge 18, 3) := by decide +kernel
theorem d_R_makeMoves_84 : decode prog_9_method_11_code 84 = .ok (.iload 6, 2) := by decide +kernel
theorem d_R_makeMoves_86 : decode prog_9_method_11_code 86 = .ok (.iload_n 2, 1) := by decide +kernel
theorem d_R_makeMoves_87 : decode prog_9_method_11_code 87 = .ok (.if_icmp .ne 12, 3) := by decide +kernel
theorem d_R_makeMoves_90 : decode prog_9_method_11_code 90 = .ok (.lload_n 3, 1) := by decide +kernel
theorem d_R_makeMoves_91 : decode prog_9_method_11_code 91 = .ok (.lconst 1, 1) := by decide +kernel
theorem d_R_makeMoves_92 : decode prog_9_method_11_code 92 = .ok (.iload 5, 2) := by decide +kernel
theorem d_R_makeMoves_94 : decode prog_9_method_11_code 94 = .ok (.lshl, 1) := by decide +kernel
theorem d_R_makeMoves_95 : decode prog_9_method_11_code 95 = .ok (.lor, 1) := by decide +kernel
theorem d_R_makeMoves_96 : decode prog_9_method_11_code 96 = .ok (.goto 4, 3) := by decide +kernel
theorem d_R_makeMoves_99 : decode prog_9_method_11_code 99 = .ok (.lload_n 3, 1) := by decide +kernel
theorem d_R_makeMoves_100 : decode prog_9_method_11_code 100 = .ok (.lstore_n 3, 1) := by decide +kernel
theorem d_R_makeMoves_101 : decode prog_9_method_11_code 101 = .ok (.iinc 5 1, 3) := by decide +kernel
theorem d_R_makeMoves_104 : decode prog_9_method_11_code 104 = .ok (.goto (-76), 3) := by decide +kernel
theorem d_R_makeMoves_107 : decode prog_9_method_11_code 107 = .ok (.lload_n 3, 1) := by decide +kernel
theorem d_R_makeMoves_108 : decode prog_9_method_11_code 108 = .ok (.lconst 0, 1) := by decide +kernel
theorem d_R_makeMoves_109 : decode prog_9_method_11_code 109 = .ok (.lcmp, 1) := by decide +kernel
theorem d_R_makeMoves_110 : decode prog_9_method_11_code 110 = .ok (.ifCond .eq 32, 3) := by decide +kernel
theorem d_R_makeMoves_113 : decode prog_9_method_11_code 113 = .ok (.aload_n 0, 1) := by decide +kernel
theorem d_R_makeMoves_114 : decode prog_9_method_11_code 114 = .ok (.iload_n 1, 1) := by decide +kernel
theorem d_R_makeMoves_115 : decode prog_9_method_11_code 115 = .ok (.ifCond .eq 7, 3) := by decide +kernel
theorem d_R_makeMoves_118 : decode prog_9_method_11_code 118 = .ok (.iconst 1, 1) := by decide +kernel
theorem d_R_makeMoves_119 : decode prog_9_method_11_code 119 = .ok (.goto 4, 3) := by decide +kernel
theorem d_R_makeMoves_122 : decode prog_9_method_11_code 122 = .ok (.iconst 0, 1) := by decide +kernel
theorem d_R_makeMoves_123 : decode prog_9_method_11_code 123 = .ok (.iload_n 2, 1) := by decide +kernel
theorem d_R_makeMoves_124 : decode prog_9_method_11_code 124 = .ok (.lconst 0, 1) := by decide +kernel
theorem d_R_makeMoves_125 : decode prog_9_method_11_code 125 = .ok (.invokevirtual 99, 3) := by decide +kernel
theorem d_R_makeMoves_128 : decode prog_9_method_11_code 128 = .ok (.aload_n 0, 1) := by decide +kernel
theorem d_R_makeMoves_129 : decode prog_9_method_11_code 129 = .ok (.iconst 2, 1) := by decide +kernel
theorem d_R_makeMoves_130 : decode prog_9_method_11_code 130 = .ok (.iconst 0, 1) := by decide +kernel
theorem d_R_makeMoves_131 : decode prog_9_method_11_code 131 = .ok (.lload_n 3, 1) := by decide +kernel
theorem d_R_makeMoves_132 : decode prog_9_method_11_code 132 = .ok (.invokevirtual 99, 3) := by decide +kernel
theorem d_R_makeMoves_135 : decode prog_9_method_11_code 135 = .ok (.aload_n 0, 1) := by decide +kernel
theorem d_R_makeMoves_136 : decode prog_9_method_11_code 136 = .ok (.iconst 3, 1) := by decide +kernel
theorem d_R_makeMoves_137 : decode prog_9_method_11_code 137 = .ok (.iconst 0, 1) := by decide +kernel
theorem d_R_makeMoves_138 : decode prog_9_method_11_code 138 = .ok (.lconst 0, 1) := by decide +kernel
theorem d_R_makeMoves_139 : decode prog_9_method_11_code 139 = .ok (.invokevirtual 99, 3) := by decide +kernel
theorem d_R_makeMoves_142 : decode prog_9_method_11_code 142 = .ok (.iinc 2 1, 3) := by decide +kernel
theorem d_R_makeMoves_145 : decode prog_9_method_11_code 145 = .ok (.goto (-130), 3) := by decide +kernel
theorem d_R_makeMoves_148 : decode prog_9_method_11_code 148 = .ok (.aload_n 0, 1) := by decide +kernel
theorem d_R_makeMoves_149 : decode prog_9_method_11_code 149 = .ok (.invokevirtual 103, 3) := by decide +kernel
theorem d_R_makeMoves_152 : decode prog_9_method_11_code 152 = .ok (.return_, 1) := by decide +kernel
def w_R_makeMoves_142 (Φ : bs_R → bs_H → Prop) (nx15 : Nat → Int32 → Int32 → bs_H → Prop) (x0 : Nat) (x1 : Int32) (x2 : Int32) (h : bs_H) : Prop :=
  nx15 x0 x1 (x2 + 1) h
def w_R_makeMoves_123 (Φ : bs_R → bs_H → Prop) (nx15 : Nat → Int32 → Int32 → bs_H → Prop) (x0 : Nat) (x1 : Int32) (x2 : Int32) (x3 : Int64) (s0 : Nat) (s1 : Int32) (h : bs_H) : Prop :=
  bs_on h s0 7 (w_R_add (bs_kV Φ fun h1 => (bs_on h1 x0 7 (w_R_add (bs_kV Φ fun h2 => (bs_on h2 x0 7 (w_R_add (bs_kV Φ fun h3 => (w_R_makeMoves_142 Φ nx15 x0 x1 x2 h3)) x0 3 0 0 h2))) x0 2 0 x3 h1))) s0 s1 x2 0 h)
def w_R_makeMoves_100 (Φ : bs_R → bs_H → Prop) (nx15 : Nat → Int32 → Int32 → bs_H → Prop) (nx28 : Nat → Int32 → Int32 → Int64 → Int32 → bs_H → Prop) (x0 : Nat) (x1 : Int32) (x2 : Int32) (x5 : Int32) (s0 : Int64) (h : bs_H) : Prop :=
  nx28 x0 x1 x2 s0 (x5 + 1) h
def w_R_makeMoves_99 (Φ : bs_R → bs_H → Prop) (nx15 : Nat → Int32 → Int32 → bs_H → Prop) (nx28 : Nat → Int32 → Int32 → Int64 → Int32 → bs_H → Prop) (x0 : Nat) (x1 : Int32) (x2 : Int32) (x3 : Int64) (x5 : Int32) (h : bs_H) : Prop :=
  w_R_makeMoves_100 Φ nx15 nx28 x0 x1 x2 x5 x3 h
def w_R_makeMoves_70 (Φ : bs_R → bs_H → Prop) (nx15 : Nat → Int32 → Int32 → bs_H → Prop) (nx28 : Nat → Int32 → Int32 → Int64 → Int32 → bs_H → Prop) (x0 : Nat) (x1 : Int32) (x2 : Int32) (x3 : Int64) (x5 : Int32) (s0 : Int32) (h : bs_H) : Prop :=
  bs_fA h x0 7 2 (fun v1 => bs_lI h v1 x5 (fun v2 => bs_if ((64 : Int32) ≤ v2) (w_R_makeMoves_99 Φ nx15 nx28 x0 x1 x2 x3 x5 h) (bs_if (s0 = x2) (w_R_makeMoves_100 Φ nx15 nx28 x0 x1 x2 x5 (x3 ||| (bs_shl 1 x5)) h) (w_R_makeMoves_99 Φ nx15 nx28 x0 x1 x2 x3 x5 h))))
def w_R_makeMoves_68 (Φ : bs_R → bs_H → Prop) (nx15 : Nat → Int32 → Int32 → bs_H → Prop) (nx28 : Nat → Int32 → Int32 → Int64 → Int32 → bs_H → Prop) (x0 : Nat) (x1 : Int32) (x2 : Int32) (x3 : Int64) (x5 : Int32) (x6 : Int32) (h : bs_H) : Prop :=
  w_R_makeMoves_70 Φ nx15 nx28 x0 x1 x2 x3 x5 x6 h
def w_R_makeMoves_28_s (Φ : bs_R → bs_H → Prop) (nx15 : Nat → Int32 → Int32 → bs_H → Prop) (nx28 : Nat → Int32 → Int32 → Int64 → Int32 → bs_H → Prop) (x0 : Nat) (x1 : Int32) (x2 : Int32) (x3 : Int64) (x5 : Int32) (h : bs_H) : Prop :=
  bs_fI h x0 7 1 (fun v1 => bs_if (v1 ≤ x5) (bs_if (x3 = 0) (w_R_makeMoves_142 Φ nx15 x0 x1 x2 h) (bs_if (x1 = 0) (w_R_makeMoves_123 Φ nx15 x0 x1 x2 x3 x0 0 h) (w_R_makeMoves_123 Φ nx15 x0 x1 x2 x3 x0 1 h))) (bs_fA h x0 7 2 (fun v2 => bs_lI h v2 x5 (fun v3 => bs_if (x1 = 0) (w_R_makeMoves_68 Φ nx15 nx28 x0 x1 x2 x3 x5 (x5 - v3) h) (bs_if ((0 : Int32) ≤ (x5 - v3)) (w_R_makeMoves_68 Φ nx15 nx28 x0 x1 x2 x3 x5 (x5 - v3) h) (bs_fI h x0 7 1 (fun v4 => w_R_makeMoves_70 Φ nx15 nx28 x0 x1 x2 x3 x5 ((x5 - v3) + v4) h)))))))
def w_R_makeMoves_28 (Φ : bs_R → bs_H → Prop) (nx15 : Nat → Int32 → Int32 → bs_H → Prop) : Nat → Nat → Int32 → Int32 → Int64 → Int32 → bs_H → Prop
  | 0 => fun _ _ _ _ _ _ => False
  | n + 1 => fun x0 x1 x2 x3 x5 h => w_R_makeMoves_28_s Φ nx15 (w_R_makeMoves_28 Φ nx15 n) x0 x1 x2 x3 x5 h
def w_R_makeMoves_15_s (Φ : bs_R → bs_H → Prop) (nx15 : Nat → Int32 → Int32 → bs_H → Prop) (x0 : Nat) (x1 : Int32) (x2 : Int32) (h : bs_H) : Prop :=
  bs_fI h x0 7 1 (fun v1 => bs_if (v1 ≤ x2) (bs_on h x0 7 (w_R_addOnes (bs_kV Φ fun h2 => (Φ (.ok none) h2)) x0 h)) (w_R_makeMoves_28 Φ nx15 1000 x0 x1 x2 0 0 h))
def w_R_makeMoves_15 (Φ : bs_R → bs_H → Prop) : Nat → Nat → Int32 → Int32 → bs_H → Prop
  | 0 => fun _ _ _ _ => False
  | n + 1 => fun x0 x1 x2 h => w_R_makeMoves_15_s Φ (w_R_makeMoves_15 Φ n) x0 x1 x2 h
def w_R_makeMoves_14 (Φ : bs_R → bs_H → Prop) (x0 : Nat) (x1 : Int32) (s0 : Int32) (h : bs_H) : Prop :=
  w_R_makeMoves_15 Φ 1000 x0 x1 s0 h
def w_R_makeMoves (Φ : bs_R → bs_H → Prop) (x0 : Nat) (x1 : Int32) (h : bs_H) : Prop :=
  bs_if (x1 = 0) (bs_fI h x0 7 1 (fun v1 => w_R_makeMoves_14 Φ x0 x1 ((1 : Int32) - v1) h)) (w_R_makeMoves_14 Φ x0 x1 0 h)
theorem m_R_makeMoves_142 {l : Launch} {R : Room} {Φ : bs_R → bs_H → Prop} (hR : bs_rm 3 R) {nx15 : Nat → Int32 → Int32 → bs_H → Prop} (hnx15 : ∀ (x0 : Nat) (x1 : Int32) (x2 : Int32) (h : bs_H), nx15 x0 x1 x2 h → bs_J l K_R_makeMoves R Φ 15 [(0, .ref x0), (1, .int x1), (2, .int x2)] [] h) {x0 : Nat} {x1 : Int32} {x2 : Int32} {h : bs_H} (hw : w_R_makeMoves_142 Φ nx15 x0 x1 x2 h) : bs_J l K_R_makeMoves R Φ 142 [(0, .ref x0), (1, .int x1), (2, .int x2)] [] h := by
  unfold w_R_makeMoves_142 at hw
  refine bj_iinc (pc := 142) (v := (x2 + 1)) (lo' := [(2, .int (x2 + 1)), (0, .ref x0), (1, .int x1)]) 2 d_R_makeMoves_142 rfl rfl (by decide) rfl ?_
  refine bj_goto (pc := 145) (tgt := 15) d_R_makeMoves_145 (by decide) ?_
  refine bj_sub [1, 2, 0] (lo' := [(0, .ref x0), (1, .int x1), (2, .int (x2 + 1))]) rfl ?_
  exact hnx15 _ _ _ _ hw
theorem m_R_makeMoves_123 {l : Launch} {R : Room} {Φ : bs_R → bs_H → Prop} (hR : bs_rm 3 R) {nx15 : Nat → Int32 → Int32 → bs_H → Prop} (hnx15 : ∀ (x0 : Nat) (x1 : Int32) (x2 : Int32) (h : bs_H), nx15 x0 x1 x2 h → bs_J l K_R_makeMoves R Φ 15 [(0, .ref x0), (1, .int x1), (2, .int x2)] [] h) {x0 : Nat} {x1 : Int32} {x2 : Int32} {x3 : Int64} {s0 : Nat} {s1 : Int32} {h : bs_H} (hw : w_R_makeMoves_123 Φ nx15 x0 x1 x2 x3 s0 s1 h) : bs_J l K_R_makeMoves R Φ 123 [(0, .ref x0), (1, .int x1), (2, .int x2), (3, .long x3)] [.int s1, .ref s0] h := by
  unfold w_R_makeMoves_123 at hw
  refine bj_iload_n (pc := 123) 2 d_R_makeMoves_123 rfl rfl ?_
  refine bj_lconst (pc := 124) (v := 0) d_R_makeMoves_124 (by decide) ?_
  obtain ⟨⟨fs, hx⟩, hw⟩ := hw
  refine bj_callV (pc := 125) (np := 3) (K' := K_R_add) (argsL := [.int s1, .int x2, .long 0]) (st := []) (d1 := 1) (ci := 7) (fs := fs) rfl d_R_makeMoves_125 (Or.inl q_863) q_865 rfl q_27 c_R_add n_R_add hR (by decide) (by decide) rfl (Nat.le_of_ble_eq_true rfl) rfl (Nat.le_of_ble_eq_true rfl) hx (fun R' hR' => m_R_add hR' hw) (bs_kV_ok fun h1 hw => ?_) (fun _ _ z => z)
  refine bj_aload_n (pc := 128) 0 d_R_makeMoves_128 rfl rfl ?_
  refine bj_iconst (pc := 129) (v := 2) d_R_makeMoves_129 (by decide) ?_
  refine bj_iconst (pc := 130) (v := 0) d_R_makeMoves_130 (by decide) ?_
  refine bj_lload_n (pc := 131) 3 d_R_makeMoves_131 rfl rfl ?_
  obtain ⟨⟨fs, hx⟩, hw⟩ := hw
  refine bj_callV (pc := 132) (np := 3) (K' := K_R_add) (argsL := [.int 2, .int 0, .long x3]) (st := []) (d1 := 1) (ci := 7) (fs := fs) rfl d_R_makeMoves_132 (Or.inl q_863) q_865 rfl q_27 c_R_add n_R_add hR (by decide) (by decide) rfl (Nat.le_of_ble_eq_true rfl) rfl (Nat.le_of_ble_eq_true rfl) hx (fun R' hR' => m_R_add hR' hw) (bs_kV_ok fun h2 hw => ?_) (fun _ _ z => z)
  refine bj_aload_n (pc := 135) 0 d_R_makeMoves_135 rfl rfl ?_
  refine bj_iconst (pc := 136) (v := 3) d_R_makeMoves_136 (by decide) ?_
  refine bj_iconst (pc := 137) (v := 0) d_R_makeMoves_137 (by decide) ?_
  refine bj_lconst (pc := 138) (v := 0) d_R_makeMoves_138 (by decide) ?_
  obtain ⟨⟨fs, hx⟩, hw⟩ := hw
  refine bj_callV (pc := 139) (np := 3) (K' := K_R_add) (argsL := [.int 3, .int 0, .long 0]) (st := []) (d1 := 1) (ci := 7) (fs := fs) rfl d_R_makeMoves_139 (Or.inl q_863) q_865 rfl q_27 c_R_add n_R_add hR (by decide) (by decide) rfl (Nat.le_of_ble_eq_true rfl) rfl (Nat.le_of_ble_eq_true rfl) hx (fun R' hR' => m_R_add hR' hw) (bs_kV_ok fun h3 hw => ?_) (fun _ _ z => z)
  refine bj_sub [0, 1, 2] (lo' := [(0, .ref x0), (1, .int x1), (2, .int x2)]) rfl ?_
  exact m_R_makeMoves_142 hR hnx15 hw
theorem m_R_makeMoves_100 {l : Launch} {R : Room} {Φ : bs_R → bs_H → Prop} (hR : bs_rm 3 R) {nx15 : Nat → Int32 → Int32 → bs_H → Prop} {nx28 : Nat → Int32 → Int32 → Int64 → Int32 → bs_H → Prop} (hnx15 : ∀ (x0 : Nat) (x1 : Int32) (x2 : Int32) (h : bs_H), nx15 x0 x1 x2 h → bs_J l K_R_makeMoves R Φ 15 [(0, .ref x0), (1, .int x1), (2, .int x2)] [] h) (hnx28 : ∀ (x0 : Nat) (x1 : Int32) (x2 : Int32) (x3 : Int64) (x5 : Int32) (h : bs_H), nx28 x0 x1 x2 x3 x5 h → bs_J l K_R_makeMoves R Φ 28 [(0, .ref x0), (1, .int x1), (2, .int x2), (3, .long x3), (5, .int x5)] [] h) {x0 : Nat} {x1 : Int32} {x2 : Int32} {x5 : Int32} {s0 : Int64} {h : bs_H} (hw : w_R_makeMoves_100 Φ nx15 nx28 x0 x1 x2 x5 s0 h) : bs_J l K_R_makeMoves R Φ 100 [(0, .ref x0), (1, .int x1), (2, .int x2), (5, .int x5)] [.long s0] h := by
  unfold w_R_makeMoves_100 at hw
  refine bj_lstore_n (pc := 100) (lo' := [(3, .long s0), (0, .ref x0), (1, .int x1), (2, .int x2), (5, .int x5)]) d_R_makeMoves_100 rfl (by decide) rfl ?_
  refine bj_iinc (pc := 101) (v := (x5 + 1)) (lo' := [(5, .int (x5 + 1)), (3, .long s0), (0, .ref x0), (1, .int x1), (2, .int x2)]) 4 d_R_makeMoves_101 rfl rfl (by decide) rfl ?_
  refine bj_goto (pc := 104) (tgt := 28) d_R_makeMoves_104 (by decide) ?_
  refine bj_sub [2, 3, 4, 1, 0] (lo' := [(0, .ref x0), (1, .int x1), (2, .int x2), (3, .long s0), (5, .int (x5 + 1))]) rfl ?_
  exact hnx28 _ _ _ _ _ _ hw
theorem m_R_makeMoves_99 {l : Launch} {R : Room} {Φ : bs_R → bs_H → Prop} (hR : bs_rm 3 R) {nx15 : Nat → Int32 → Int32 → bs_H → Prop} {nx28 : Nat → Int32 → Int32 → Int64 → Int32 → bs_H → Prop} (hnx15 : ∀ (x0 : Nat) (x1 : Int32) (x2 : Int32) (h : bs_H), nx15 x0 x1 x2 h → bs_J l K_R_makeMoves R Φ 15 [(0, .ref x0), (1, .int x1), (2, .int x2)] [] h) (hnx28 : ∀ (x0 : Nat) (x1 : Int32) (x2 : Int32) (x3 : Int64) (x5 : Int32) (h : bs_H), nx28 x0 x1 x2 x3 x5 h → bs_J l K_R_makeMoves R Φ 28 [(0, .ref x0), (1, .int x1), (2, .int x2), (3, .long x3), (5, .int x5)] [] h) {x0 : Nat} {x1 : Int32} {x2 : Int32} {x3 : Int64} {x5 : Int32} {h : bs_H} (hw : w_R_makeMoves_99 Φ nx15 nx28 x0 x1 x2 x3 x5 h) : bs_J l K_R_makeMoves R Φ 99 [(0, .ref x0), (1, .int x1), (2, .int x2), (3, .long x3), (5, .int x5)] [] h := by
  unfold w_R_makeMoves_99 at hw
  refine bj_lload_n (pc := 99) 3 d_R_makeMoves_99 rfl rfl ?_
  refine bj_sub [0, 1, 2, 4] (lo' := [(0, .ref x0), (1, .int x1), (2, .int x2), (5, .int x5)]) rfl ?_
  exact m_R_makeMoves_100 hR hnx15 hnx28 hw
theorem m_R_makeMoves_70 {l : Launch} {R : Room} {Φ : bs_R → bs_H → Prop} (hR : bs_rm 3 R) {nx15 : Nat → Int32 → Int32 → bs_H → Prop} {nx28 : Nat → Int32 → Int32 → Int64 → Int32 → bs_H → Prop} (hnx15 : ∀ (x0 : Nat) (x1 : Int32) (x2 : Int32) (h : bs_H), nx15 x0 x1 x2 h → bs_J l K_R_makeMoves R Φ 15 [(0, .ref x0), (1, .int x1), (2, .int x2)] [] h) (hnx28 : ∀ (x0 : Nat) (x1 : Int32) (x2 : Int32) (x3 : Int64) (x5 : Int32) (h : bs_H), nx28 x0 x1 x2 x3 x5 h → bs_J l K_R_makeMoves R Φ 28 [(0, .ref x0), (1, .int x1), (2, .int x2), (3, .long x3), (5, .int x5)] [] h) {x0 : Nat} {x1 : Int32} {x2 : Int32} {x3 : Int64} {x5 : Int32} {s0 : Int32} {h : bs_H} (hw : w_R_makeMoves_70 Φ nx15 nx28 x0 x1 x2 x3 x5 s0 h) : bs_J l K_R_makeMoves R Φ 70 [(0, .ref x0), (1, .int x1), (2, .int x2), (3, .long x3), (5, .int x5)] [.int s0] h := by
  unfold w_R_makeMoves_70 at hw
  refine bj_istore (pc := 70) (lo' := [(6, .int s0), (0, .ref x0), (1, .int x1), (2, .int x2), (3, .long x3), (5, .int x5)]) d_R_makeMoves_70 (by decide) rfl ?_
  refine bj_aload_n (pc := 72) 1 d_R_makeMoves_72 rfl rfl ?_
  obtain ⟨fs, v1, hx, hv, hw⟩ := hw
  refine bj_get (pc := 73) (ci := 7) (k := 2) (fs := fs) (v := .ref v1) d_R_makeMoves_73 rfl (by decide) q_750 hx hv ?_
  refine bj_iload (pc := 76) 5 d_R_makeMoves_76 rfl ?_
  obtain ⟨n, f, v2, hx, hin, hv, hw⟩ := hw
  refine bj_iald (pc := 78) (n := n) (f := f) d_R_makeMoves_78 hx hin hv ?_
  refine bj_bipush (pc := 79) (v := 64) d_R_makeMoves_79 (by decide) ?_
  refine bj_icmp_ge (pc := 81) (tgt := 99) d_R_makeMoves_81 (by decide) (fun hc => ?_) (fun hc => ?_)
  · replace hw := hw.1 hc
    refine bj_sub [1, 2, 3, 4, 5] (lo' := [(0, .ref x0), (1, .int x1), (2, .int x2), (3, .long x3), (5, .int x5)]) rfl ?_
    exact m_R_makeMoves_99 hR hnx15 hnx28 hw
  · replace hw := hw.2 hc
    refine bj_iload (pc := 84) 0 d_R_makeMoves_84 rfl ?_
    refine bj_iload_n (pc := 86) 3 d_R_makeMoves_86 rfl rfl ?_
    refine bj_icmp_ne (pc := 87) (tgt := 99) d_R_makeMoves_87 (by decide) (fun hc => ?_) (fun hc => ?_)
    · replace hw := hw.2 hc
      refine bj_sub [1, 2, 3, 4, 5] (lo' := [(0, .ref x0), (1, .int x1), (2, .int x2), (3, .long x3), (5, .int x5)]) rfl ?_
      exact m_R_makeMoves_99 hR hnx15 hnx28 hw
    · replace hw := hw.1 hc
      refine bj_lload_n (pc := 90) 4 d_R_makeMoves_90 rfl rfl ?_
      refine bj_lconst (pc := 91) (v := 1) d_R_makeMoves_91 (by decide) ?_
      refine bj_iload (pc := 92) 5 d_R_makeMoves_92 rfl ?_
      refine bj_lshl (pc := 94) d_R_makeMoves_94 ?_
      refine bj_lor (pc := 95) d_R_makeMoves_95 ?_
      refine bj_goto (pc := 96) (tgt := 100) d_R_makeMoves_96 (by decide) ?_
      refine bj_sub [1, 2, 3, 5] (lo' := [(0, .ref x0), (1, .int x1), (2, .int x2), (5, .int x5)]) rfl ?_
      exact m_R_makeMoves_100 hR hnx15 hnx28 hw
theorem m_R_makeMoves_68 {l : Launch} {R : Room} {Φ : bs_R → bs_H → Prop} (hR : bs_rm 3 R) {nx15 : Nat → Int32 → Int32 → bs_H → Prop} {nx28 : Nat → Int32 → Int32 → Int64 → Int32 → bs_H → Prop} (hnx15 : ∀ (x0 : Nat) (x1 : Int32) (x2 : Int32) (h : bs_H), nx15 x0 x1 x2 h → bs_J l K_R_makeMoves R Φ 15 [(0, .ref x0), (1, .int x1), (2, .int x2)] [] h) (hnx28 : ∀ (x0 : Nat) (x1 : Int32) (x2 : Int32) (x3 : Int64) (x5 : Int32) (h : bs_H), nx28 x0 x1 x2 x3 x5 h → bs_J l K_R_makeMoves R Φ 28 [(0, .ref x0), (1, .int x1), (2, .int x2), (3, .long x3), (5, .int x5)] [] h) {x0 : Nat} {x1 : Int32} {x2 : Int32} {x3 : Int64} {x5 : Int32} {x6 : Int32} {h : bs_H} (hw : w_R_makeMoves_68 Φ nx15 nx28 x0 x1 x2 x3 x5 x6 h) : bs_J l K_R_makeMoves R Φ 68 [(0, .ref x0), (1, .int x1), (2, .int x2), (3, .long x3), (5, .int x5), (6, .int x6)] [] h := by
  unfold w_R_makeMoves_68 at hw
  refine bj_iload (pc := 68) 5 d_R_makeMoves_68 rfl ?_
  refine bj_sub [0, 1, 2, 3, 4] (lo' := [(0, .ref x0), (1, .int x1), (2, .int x2), (3, .long x3), (5, .int x5)]) rfl ?_
  exact m_R_makeMoves_70 hR hnx15 hnx28 hw
theorem m_R_makeMoves_28 {l : Launch} {R : Room} {Φ : bs_R → bs_H → Prop} (hR : bs_rm 3 R) {nx15 : Nat → Int32 → Int32 → bs_H → Prop} (hnx15 : ∀ (x0 : Nat) (x1 : Int32) (x2 : Int32) (h : bs_H), nx15 x0 x1 x2 h → bs_J l K_R_makeMoves R Φ 15 [(0, .ref x0), (1, .int x1), (2, .int x2)] [] h) : ∀ (n : Nat) (x0 : Nat) (x1 : Int32) (x2 : Int32) (x3 : Int64) (x5 : Int32) (h : bs_H), w_R_makeMoves_28 Φ nx15 n x0 x1 x2 x3 x5 h → bs_J l K_R_makeMoves R Φ 28 [(0, .ref x0), (1, .int x1), (2, .int x2), (3, .long x3), (5, .int x5)] [] h := by
  intro n
  induction n with
  | zero => intro x0 x1 x2 x3 x5 h hw; exact hw.elim
  | succ n ih =>
    have hnx28 := ih
    intro x0 x1 x2 x3 x5 h hw
    replace hw : w_R_makeMoves_28_s Φ nx15 (w_R_makeMoves_28 Φ nx15 n) x0 x1 x2 x3 x5 h := hw
    unfold w_R_makeMoves_28_s at hw
    refine bj_iload (pc := 28) 4 d_R_makeMoves_28 rfl ?_
    refine bj_aload_n (pc := 30) 0 d_R_makeMoves_30 rfl rfl ?_
    obtain ⟨fs, v1, hx, hv, hw⟩ := hw
    refine bj_get (pc := 31) (ci := 7) (k := 1) (fs := fs) (v := .int v1) d_R_makeMoves_31 rfl (by decide) q_749 hx hv ?_
    refine bj_icmp_ge (pc := 34) (tgt := 107) d_R_makeMoves_34 (by decide) (fun hc => ?_) (fun hc => ?_)
    · replace hw := hw.1 hc
      refine bj_lload_n (pc := 107) 3 d_R_makeMoves_107 rfl rfl ?_
      refine bj_lconst (pc := 108) (v := 0) d_R_makeMoves_108 (by decide) ?_
      refine bj_lc_eq (pc := 109) (tgt := 142) d_R_makeMoves_109 d_R_makeMoves_110 (by decide) (fun hc => ?_) (fun hc => ?_)
      · replace hw := hw.1 hc
        refine bj_sub [0, 1, 2] (lo' := [(0, .ref x0), (1, .int x1), (2, .int x2)]) rfl ?_
        exact m_R_makeMoves_142 hR hnx15 hw
      · replace hw := hw.2 hc
        refine bj_aload_n (pc := 113) 0 d_R_makeMoves_113 rfl rfl ?_
        refine bj_iload_n (pc := 114) 1 d_R_makeMoves_114 rfl rfl ?_
        refine bj_if_eq (pc := 115) (tgt := 122) d_R_makeMoves_115 (by decide) (fun hc => ?_) (fun hc => ?_)
        · replace hw := hw.1 hc
          refine bj_iconst (pc := 122) (v := 0) d_R_makeMoves_122 (by decide) ?_
          refine bj_sub [0, 1, 2, 3] (lo' := [(0, .ref x0), (1, .int x1), (2, .int x2), (3, .long x3)]) rfl ?_
          exact m_R_makeMoves_123 hR hnx15 hw
        · replace hw := hw.2 hc
          refine bj_iconst (pc := 118) (v := 1) d_R_makeMoves_118 (by decide) ?_
          refine bj_goto (pc := 119) (tgt := 123) d_R_makeMoves_119 (by decide) ?_
          refine bj_sub [0, 1, 2, 3] (lo' := [(0, .ref x0), (1, .int x1), (2, .int x2), (3, .long x3)]) rfl ?_
          exact m_R_makeMoves_123 hR hnx15 hw
    · replace hw := hw.2 hc
      refine bj_iload (pc := 37) 4 d_R_makeMoves_37 rfl ?_
      refine bj_aload_n (pc := 39) 0 d_R_makeMoves_39 rfl rfl ?_
      obtain ⟨fs, v2, hx, hv, hw⟩ := hw
      refine bj_get (pc := 40) (ci := 7) (k := 2) (fs := fs) (v := .ref v2) d_R_makeMoves_40 rfl (by decide) q_750 hx hv ?_
      refine bj_iload (pc := 43) 4 d_R_makeMoves_43 rfl ?_
      obtain ⟨n, f, v3, hx, hin, hv, hw⟩ := hw
      refine bj_iald (pc := 45) (n := n) (f := f) d_R_makeMoves_45 hx hin hv ?_
      refine bj_isub (pc := 46) d_R_makeMoves_46 ?_
      refine bj_istore (pc := 47) (lo' := [(6, .int (x5 - v3)), (0, .ref x0), (1, .int x1), (2, .int x2), (3, .long x3), (5, .int x5)]) d_R_makeMoves_47 (by decide) rfl ?_
      refine bj_iload_n (pc := 49) 2 d_R_makeMoves_49 rfl rfl ?_
      refine bj_if_eq (pc := 50) (tgt := 68) d_R_makeMoves_50 (by decide) (fun hc => ?_) (fun hc => ?_)
      · replace hw := hw.1 hc
        refine bj_sub [1, 2, 3, 4, 5, 0] (lo' := [(0, .ref x0), (1, .int x1), (2, .int x2), (3, .long x3), (5, .int x5), (6, .int (x5 - v3))]) rfl ?_
        exact m_R_makeMoves_68 hR hnx15 hnx28 hw
      · replace hw := hw.2 hc
        refine bj_iload (pc := 53) 0 d_R_makeMoves_53 rfl ?_
        refine bj_if_ge (pc := 55) (tgt := 68) d_R_makeMoves_55 (by decide) (fun hc => ?_) (fun hc => ?_)
        · replace hw := hw.1 hc
          refine bj_sub [1, 2, 3, 4, 5, 0] (lo' := [(0, .ref x0), (1, .int x1), (2, .int x2), (3, .long x3), (5, .int x5), (6, .int (x5 - v3))]) rfl ?_
          exact m_R_makeMoves_68 hR hnx15 hnx28 hw
        · replace hw := hw.2 hc
          refine bj_iload (pc := 58) 0 d_R_makeMoves_58 rfl ?_
          refine bj_aload_n (pc := 60) 1 d_R_makeMoves_60 rfl rfl ?_
          obtain ⟨fs, v4, hx, hv, hw⟩ := hw
          refine bj_get (pc := 61) (ci := 7) (k := 1) (fs := fs) (v := .int v4) d_R_makeMoves_61 rfl (by decide) q_749 hx hv ?_
          refine bj_iadd (pc := 64) d_R_makeMoves_64 ?_
          refine bj_goto (pc := 65) (tgt := 70) d_R_makeMoves_65 (by decide) ?_
          refine bj_sub [1, 2, 3, 4, 5] (lo' := [(0, .ref x0), (1, .int x1), (2, .int x2), (3, .long x3), (5, .int x5)]) rfl ?_
          exact m_R_makeMoves_70 hR hnx15 hnx28 hw
theorem m_R_makeMoves_15 {l : Launch} {R : Room} {Φ : bs_R → bs_H → Prop} (hR : bs_rm 3 R) : ∀ (n : Nat) (x0 : Nat) (x1 : Int32) (x2 : Int32) (h : bs_H), w_R_makeMoves_15 Φ n x0 x1 x2 h → bs_J l K_R_makeMoves R Φ 15 [(0, .ref x0), (1, .int x1), (2, .int x2)] [] h := by
  intro n
  induction n with
  | zero => intro x0 x1 x2 h hw; exact hw.elim
  | succ n ih =>
    have hnx15 := ih
    intro x0 x1 x2 h hw
    replace hw : w_R_makeMoves_15_s Φ (w_R_makeMoves_15 Φ n) x0 x1 x2 h := hw
    unfold w_R_makeMoves_15_s at hw
    refine bj_iload_n (pc := 15) 2 d_R_makeMoves_15 rfl rfl ?_
    refine bj_aload_n (pc := 16) 0 d_R_makeMoves_16 rfl rfl ?_
    obtain ⟨fs, v1, hx, hv, hw⟩ := hw
    refine bj_get (pc := 17) (ci := 7) (k := 1) (fs := fs) (v := .int v1) d_R_makeMoves_17 rfl (by decide) q_749 hx hv ?_
    refine bj_icmp_ge (pc := 20) (tgt := 148) d_R_makeMoves_20 (by decide) (fun hc => ?_) (fun hc => ?_)
    · replace hw := hw.1 hc
      refine bj_aload_n (pc := 148) 0 d_R_makeMoves_148 rfl rfl ?_
      obtain ⟨⟨fs, hx⟩, hw⟩ := hw
      refine bj_callV (pc := 149) (np := 0) (K' := K_R_addOnes) (argsL := []) (st := []) (d1 := 2) (ci := 7) (fs := fs) rfl d_R_makeMoves_149 (Or.inl q_867) q_869 rfl q_28 c_R_addOnes n_R_addOnes hR (by decide) (by decide) rfl (Nat.le_of_ble_eq_true rfl) rfl (Nat.le_of_ble_eq_true rfl) hx (fun R' hR' => m_R_addOnes hR' hw) (bs_kV_ok fun h2 hw => ?_) (fun _ _ z => z)
      exact bj_vret (pc := 152) d_R_makeMoves_152 rfl hw
    · replace hw := hw.2 hc
      refine bj_lconst (pc := 23) (v := 0) d_R_makeMoves_23 (by decide) ?_
      refine bj_lstore_n (pc := 24) (lo' := [(3, .long 0), (0, .ref x0), (1, .int x1), (2, .int x2)]) d_R_makeMoves_24 rfl (by decide) rfl ?_
      refine bj_iconst (pc := 25) (v := 0) d_R_makeMoves_25 (by decide) ?_
      refine bj_istore (pc := 26) (lo' := [(5, .int 0), (3, .long 0), (0, .ref x0), (1, .int x1), (2, .int x2)]) d_R_makeMoves_26 (by decide) rfl ?_
      refine bj_sub [2, 3, 4, 1, 0] (lo' := [(0, .ref x0), (1, .int x1), (2, .int x2), (3, .long 0), (5, .int 0)]) rfl ?_
      exact m_R_makeMoves_28 hR hnx15 1000 _ _ _ _ _ _ hw
theorem m_R_makeMoves_14 {l : Launch} {R : Room} {Φ : bs_R → bs_H → Prop} (hR : bs_rm 3 R) {x0 : Nat} {x1 : Int32} {s0 : Int32} {h : bs_H} (hw : w_R_makeMoves_14 Φ x0 x1 s0 h) : bs_J l K_R_makeMoves R Φ 14 [(0, .ref x0), (1, .int x1)] [.int s0] h := by
  unfold w_R_makeMoves_14 at hw
  refine bj_istore_n (pc := 14) (lo' := [(2, .int s0), (0, .ref x0), (1, .int x1)]) d_R_makeMoves_14 rfl (by decide) rfl ?_
  refine bj_sub [1, 2, 0] (lo' := [(0, .ref x0), (1, .int x1), (2, .int s0)]) rfl ?_
  exact m_R_makeMoves_15 hR 1000 _ _ _ _ hw
theorem m_R_makeMoves {l : Launch} {R : Room} (hR : bs_rm 3 R) {Φ : bs_R → bs_H → Prop} {x0 : Nat} {x1 : Int32} {h : bs_H} (hw : w_R_makeMoves Φ x0 x1 h) : bs_J l K_R_makeMoves R Φ 0 [(0, .ref x0), (1, .int x1)] [] h := by
  unfold w_R_makeMoves at hw
  refine bj_iload_n (pc := 0) 1 d_R_makeMoves_0 rfl rfl ?_
  refine bj_if_eq (pc := 1) (tgt := 8) d_R_makeMoves_1 (by decide) (fun hc => ?_) (fun hc => ?_)
  · replace hw := hw.1 hc
    refine bj_iconst (pc := 8) (v := 1) d_R_makeMoves_8 (by decide) ?_
    refine bj_aload_n (pc := 9) 0 d_R_makeMoves_9 rfl rfl ?_
    obtain ⟨fs, v1, hx, hv, hw⟩ := hw
    refine bj_get (pc := 10) (ci := 7) (k := 1) (fs := fs) (v := .int v1) d_R_makeMoves_10 rfl (by decide) q_749 hx hv ?_
    refine bj_isub (pc := 13) d_R_makeMoves_13 ?_
    exact m_R_makeMoves_14 hR hw
  · replace hw := hw.2 hc
    refine bj_iconst (pc := 4) (v := 0) d_R_makeMoves_4 (by decide) ?_
    refine bj_goto (pc := 5) (tgt := 14) d_R_makeMoves_5 (by decide) ?_
    exact m_R_makeMoves_14 hR hw
theorem d_R_across_0 : decode prog_9_method_13_code 0 = .ok (.iload_n 1, 1) := by decide +kernel
theorem d_R_across_1 : decode prog_9_method_13_code 1 = .ok (.iload_n 2, 1) := by decide +kernel
theorem d_R_across_2 : decode prog_9_method_13_code 2 = .ok (.if_icmp .ge 9, 3) := by decide +kernel
theorem d_R_across_5 : decode prog_9_method_13_code 5 = .ok (.iload_n 1, 1) := by decide +kernel
theorem d_R_across_6 : decode prog_9_method_13_code 6 = .ok (.iload_n 2, 1) := by decide +kernel
theorem d_R_across_7 : decode prog_9_method_13_code 7 = .ok (.iadd, 1) := by decide +kernel
theorem d_R_across_8 : decode prog_9_method_13_code 8 = .ok (.goto 6, 3) := by decide +kernel
theorem d_R_across_11 : decode prog_9_method_13_code 11 = .ok (.iload_n 1, 1) := by decide +kernel
theorem d_R_across_12 : decode prog_9_method_13_code 12 = .ok (.iload_n 2, 1) := by decide +kernel
theorem d_R_across_13 : decode prog_9_method_13_code 13 = .ok (.isub, 1) := by decide +kernel
theorem d_R_across_14 : decode prog_9_method_13_code 14 = .ok (.ireturn, 1) := by decide +kernel
def w_R_across_14 (Φ : bs_R → bs_H → Prop) (s0 : Int32) (h : bs_H) : Prop :=
  Φ (.ok (some (.int s0))) h
def w_R_across (Φ : bs_R → bs_H → Prop) (x0 : Nat) (x1 : Int32) (x2 : Int32) (h : bs_H) : Prop :=
  bs_if (x2 ≤ x1) (w_R_across_14 Φ (x1 - x2) h) (w_R_across_14 Φ (x1 + x2) h)
theorem m_R_across_14 {l : Launch} {R : Room} {Φ : bs_R → bs_H → Prop} (hR : bs_rm 1 R) {s0 : Int32} {h : bs_H} (hw : w_R_across_14 Φ s0 h) : bs_J l K_R_across R Φ 14 [] [.int s0] h := by
  unfold w_R_across_14 at hw
  exact bj_iret (pc := 14) d_R_across_14 rfl hw
theorem m_R_across {l : Launch} {R : Room} (hR : bs_rm 1 R) {Φ : bs_R → bs_H → Prop} {x0 : Nat} {x1 : Int32} {x2 : Int32} {h : bs_H} (hw : w_R_across Φ x0 x1 x2 h) : bs_J l K_R_across R Φ 0 [(0, .ref x0), (1, .int x1), (2, .int x2)] [] h := by
  unfold w_R_across at hw
  refine bj_iload_n (pc := 0) 1 d_R_across_0 rfl rfl ?_
  refine bj_iload_n (pc := 1) 2 d_R_across_1 rfl rfl ?_
  refine bj_icmp_ge (pc := 2) (tgt := 11) d_R_across_2 (by decide) (fun hc => ?_) (fun hc => ?_)
  · replace hw := hw.1 hc
    refine bj_iload_n (pc := 11) 1 d_R_across_11 rfl rfl ?_
    refine bj_iload_n (pc := 12) 2 d_R_across_12 rfl rfl ?_
    refine bj_isub (pc := 13) d_R_across_13 ?_
    refine bj_sub [] (lo' := []) rfl ?_
    exact m_R_across_14 hR hw
  · replace hw := hw.2 hc
    refine bj_iload_n (pc := 5) 1 d_R_across_5 rfl rfl ?_
    refine bj_iload_n (pc := 6) 2 d_R_across_6 rfl rfl ?_
    refine bj_iadd (pc := 7) d_R_across_7 ?_
    refine bj_goto (pc := 8) (tgt := 14) d_R_across_8 (by decide) ?_
    refine bj_sub [] (lo' := []) rfl ?_
    exact m_R_across_14 hR hw
theorem d_R_decide_0 : decode prog_9_method_14_code 0 = .ok (.iload_n 1, 1) := by decide +kernel
theorem d_R_decide_1 : decode prog_9_method_14_code 1 = .ok (.istore_n 3, 1) := by decide +kernel
theorem d_R_decide_2 : decode prog_9_method_14_code 2 = .ok (.iload_n 3, 1) := by decide +kernel
theorem d_R_decide_3 : decode prog_9_method_14_code 3 = .ok (.iload_n 1, 1) := by decide +kernel
theorem d_R_decide_4 : decode prog_9_method_14_code 4 = .ok (.iconst 2, 1) := by decide +kernel
theorem d_R_decide_5 : decode prog_9_method_14_code 5 = .ok (.iload_n 2, 1) := by decide +kernel
theorem d_R_decide_6 : decode prog_9_method_14_code 6 = .ok (.imul, 1) := by decide +kernel
theorem d_R_decide_7 : decode prog_9_method_14_code 7 = .ok (.iadd, 1) := by decide +kernel
theorem d_R_decide_8 : decode prog_9_method_14_code 8 = .ok (.if_icmp .ge 23, 3) := by decide +kernel
theorem d_R_decide_11 : decode prog_9_method_14_code 11 = .ok (.aload_n 0, 1) := by decide +kernel
theorem d_R_decide_12 : decode prog_9_method_14_code 12 = .ok (.getfield 51, 3) := by decide +kernel
theorem d_R_decide_15 : decode prog_9_method_14_code 15 = .ok (.iload_n 3, 1) := by decide +kernel
theorem d_R_decide_16 : decode prog_9_method_14_code 16 = .ok (.iconst 0, 1) := by decide +kernel
theorem d_R_decide_17 : decode prog_9_method_14_code 17 = .ok (.iastore, 1) := by decide +kernel
theorem d_R_decide_18 : decode prog_9_method_14_code 18 = .ok (.aload_n 0, 1) := by decide +kernel
theorem d_R_decide_19 : decode prog_9_method_14_code 19 = .ok (.getfield 54, 3) := by decide +kernel
theorem d_R_decide_22 : decode prog_9_method_14_code 22 = .ok (.iload_n 3, 1) := by decide +kernel
theorem d_R_decide_23 : decode prog_9_method_14_code 23 = .ok (.iconst 0, 1) := by decide +kernel
theorem d_R_decide_24 : decode prog_9_method_14_code 24 = .ok (.iastore, 1) := by decide +kernel
theorem d_R_decide_25 : decode prog_9_method_14_code 25 = .ok (.iinc 3 1, 3) := by decide +kernel
theorem d_R_decide_28 : decode prog_9_method_14_code 28 = .ok (.goto (-26), 3) := by decide +kernel
theorem d_R_decide_31 : decode prog_9_method_14_code 31 = .ok (.iconst 0, 1) := by decide +kernel
theorem d_R_decide_32 : decode prog_9_method_14_code 32 = .ok (.istore_n 3, 1) := by decide +kernel
theorem d_R_decide_33 : decode prog_9_method_14_code 33 = .ok (.iload_n 3, 1) := by decide +kernel
theorem d_R_decide_34 : decode prog_9_method_14_code 34 = .ok (.iload_n 2, 1) := by decide +kernel
theorem d_R_decide_35 : decode prog_9_method_14_code 35 = .ok (.if_icmp .ge 119, 3) := by decide +kernel
theorem d_R_decide_38 : decode prog_9_method_14_code 38 = .ok (.iload_n 3, 1) := by decide +kernel
theorem d_R_decide_39 : decode prog_9_method_14_code 39 = .ok (.istore 4, 2) := by decide +kernel
theorem d_R_decide_41 : decode prog_9_method_14_code 41 = .ok (.aload_n 0, 1) := by decide +kernel
theorem d_R_decide_42 : decode prog_9_method_14_code 42 = .ok (.getfield 51, 3) := by decide +kernel
theorem d_R_decide_45 : decode prog_9_method_14_code 45 = .ok (.iload_n 1, 1) := by decide +kernel
theorem d_R_decide_46 : decode prog_9_method_14_code 46 = .ok (.iload 4, 2) := by decide +kernel
theorem d_R_decide_48 : decode prog_9_method_14_code 48 = .ok (.iadd, 1) := by decide +kernel
theorem d_R_decide_49 : decode prog_9_method_14_code 49 = .ok (.iaload, 1) := by decide +kernel
theorem d_R_decide_50 : decode prog_9_method_14_code 50 = .ok (.ifCond .ne 98, 3) := by decide +kernel
theorem d_R_decide_53 : decode prog_9_method_14_code 53 = .ok (.aload_n 0, 1) := by decide +kernel
theorem d_R_decide_54 : decode prog_9_method_14_code 54 = .ok (.getfield 51, 3) := by decide +kernel
theorem d_R_decide_57 : decode prog_9_method_14_code 57 = .ok (.iload_n 1, 1) := by decide +kernel
theorem d_R_decide_58 : decode prog_9_method_14_code 58 = .ok (.iload 4, 2) := by decide +kernel
theorem d_R_decide_60 : decode prog_9_method_14_code 60 = .ok (.iadd, 1) := by decide +kernel
theorem d_R_decide_61 : decode prog_9_method_14_code 61 = .ok (.iconst 1, 1) := by decide +kernel
theorem d_R_decide_62 : decode prog_9_method_14_code 62 = .ok (.iastore, 1) := by decide +kernel
theorem d_R_decide_63 : decode prog_9_method_14_code 63 = .ok (.aload_n 0, 1) := by decide +kernel
theorem d_R_decide_64 : decode prog_9_method_14_code 64 = .ok (.getfield 45, 3) := by decide +kernel
theorem d_R_decide_67 : decode prog_9_method_14_code 67 = .ok (.iload_n 1, 1) := by decide +kernel
theorem d_R_decide_68 : decode prog_9_method_14_code 68 = .ok (.iload 4, 2) := by decide +kernel
theorem d_R_decide_70 : decode prog_9_method_14_code 70 = .ok (.iadd, 1) := by decide +kernel
theorem d_R_decide_71 : decode prog_9_method_14_code 71 = .ok (.iaload, 1) := by decide +kernel
theorem d_R_decide_72 : decode prog_9_method_14_code 72 = .ok (.istore 5, 2) := by decide +kernel
theorem d_R_decide_74 : decode prog_9_method_14_code 74 = .ok (.aload_n 0, 1) := by decide +kernel
theorem d_R_decide_75 : decode prog_9_method_14_code 75 = .ok (.getfield 54, 3) := by decide +kernel
theorem d_R_decide_78 : decode prog_9_method_14_code 78 = .ok (.iload_n 1, 1) := by decide +kernel
theorem d_R_decide_79 : decode prog_9_method_14_code 79 = .ok (.iload 5, 2) := by decide +kernel
theorem d_R_decide_81 : decode prog_9_method_14_code 81 = .ok (.iadd, 1) := by decide +kernel
theorem d_R_decide_82 : decode prog_9_method_14_code 82 = .ok (.iconst 1, 1) := by decide +kernel
theorem d_R_decide_83 : decode prog_9_method_14_code 83 = .ok (.iastore, 1) := by decide +kernel
theorem d_R_decide_84 : decode prog_9_method_14_code 84 = .ok (.aload_n 0, 1) := by decide +kernel
theorem d_R_decide_85 : decode prog_9_method_14_code 85 = .ok (.iload 5, 2) := by decide +kernel
theorem d_R_decide_87 : decode prog_9_method_14_code 87 = .ok (.iload_n 2, 1) := by decide +kernel
theorem d_R_decide_88 : decode prog_9_method_14_code 88 = .ok (.invokevirtual 106, 3) := by decide +kernel
theorem d_R_decide_91 : decode prog_9_method_14_code 91 = .ok (.istore 6, 2) := by decide +kernel
theorem d_R_decide_93 : decode prog_9_method_14_code 93 = .ok (.aload_n 0, 1) := by decide +kernel
theorem d_R_decide_94 : decode prog_9_method_14_code 94 = .ok (.getfield 54, 3) := by decide +kernel
theorem d_R_decide_97 : decode prog_9_method_14_code 97 = .ok (.iload_n 1, 1) := by decide +kernel
theorem d_R_decide_98 : decode prog_9_method_14_code 98 = .ok (.iload 6, 2) := by decide +kernel
theorem d_R_decide_100 : decode prog_9_method_14_code 100 = .ok (.iadd, 1) := by decide +kernel
theorem d_R_decide_101 : decode prog_9_method_14_code 101 = .ok (.iconst 2, 1) := by decide +kernel
theorem d_R_decide_102 : decode prog_9_method_14_code 102 = .ok (.iastore, 1) := by decide +kernel
theorem d_R_decide_103 : decode prog_9_method_14_code 103 = .ok (.iconst 0, 1) := by decide +kernel
theorem d_R_decide_104 : decode prog_9_method_14_code 104 = .ok (.istore 7, 2) := by decide +kernel
theorem d_R_decide_106 : decode prog_9_method_14_code 106 = .ok (.aload_n 0, 1) := by decide +kernel
theorem d_R_decide_107 : decode prog_9_method_14_code 107 = .ok (.getfield 45, 3) := by decide +kernel
theorem d_R_decide_110 : decode prog_9_method_14_code 110 = .ok (.iload_n 1, 1) := by decide +kernel
theorem d_R_decide_111 : decode prog_9_method_14_code 111 = .ok (.iload 7, 2) := by decide +kernel
theorem d_R_decide_113 : decode prog_9_method_14_code 113 = .ok (.iadd, 1) := by decide +kernel
theorem d_R_decide_114 : decode prog_9_method_14_code 114 = .ok (.iaload, 1) := by decide +kernel
theorem d_R_decide_115 : decode prog_9_method_14_code 115 = .ok (.iload 6, 2) := by decide +kernel
theorem d_R_decide_117 : decode prog_9_method_14_code 117 = .ok (.if_icmp .eq 9, 3) := by decide +kernel
theorem d_R_decide_120 : decode prog_9_method_14_code 120 = .ok (.iinc 7 1, 3) := by decide +kernel
theorem d_R_decide_123 : decode prog_9_method_14_code 123 = .ok (.goto (-17), 3) := by decide +kernel
theorem d_R_decide_126 : decode prog_9_method_14_code 126 = .ok (.aload_n 0, 1) := by decide +kernel
theorem d_R_decide_127 : decode prog_9_method_14_code 127 = .ok (.getfield 51, 3) := by decide +kernel
theorem d_R_decide_130 : decode prog_9_method_14_code 130 = .ok (.iload_n 1, 1) := by decide +kernel
theorem d_R_decide_131 : decode prog_9_method_14_code 131 = .ok (.iload 7, 2) := by decide +kernel
theorem d_R_decide_133 : decode prog_9_method_14_code 133 = .ok (.iadd, 1) := by decide +kernel
theorem d_R_decide_134 : decode prog_9_method_14_code 134 = .ok (.iconst 2, 1) := by decide +kernel
theorem d_R_decide_135 : decode prog_9_method_14_code 135 = .ok (.iastore, 1) := by decide +kernel
theorem d_R_decide_136 : decode prog_9_method_14_code 136 = .ok (.aload_n 0, 1) := by decide +kernel
theorem d_R_decide_137 : decode prog_9_method_14_code 137 = .ok (.iload 7, 2) := by decide +kernel
theorem d_R_decide_139 : decode prog_9_method_14_code 139 = .ok (.iload_n 2, 1) := by decide +kernel
theorem d_R_decide_140 : decode prog_9_method_14_code 140 = .ok (.invokevirtual 106, 3) := by decide +kernel
theorem d_R_decide_143 : decode prog_9_method_14_code 143 = .ok (.istore 4, 2) := by decide +kernel
theorem d_R_decide_145 : decode prog_9_method_14_code 145 = .ok (.goto (-104), 3) := by decide +kernel
theorem d_R_decide_148 : decode prog_9_method_14_code 148 = .ok (.iinc 3 1, 3) := by decide +kernel
theorem d_R_decide_151 : decode prog_9_method_14_code 151 = .ok (.goto (-118), 3) := by decide +kernel
theorem d_R_decide_154 : decode prog_9_method_14_code 154 = .ok (.return_, 1) := by decide +kernel
def w_R_decide_106_s (Φ : bs_R → bs_H → Prop) (nx33 : Nat → Int32 → Int32 → Int32 → bs_H → Prop) (nx41 : Nat → Int32 → Int32 → Int32 → Int32 → bs_H → Prop) (nx106 : Nat → Int32 → Int32 → Int32 → Int32 → Int32 → bs_H → Prop) (x0 : Nat) (x1 : Int32) (x2 : Int32) (x3 : Int32) (x6 : Int32) (x7 : Int32) (h : bs_H) : Prop :=
  bs_fA h x0 7 15 (fun v1 => bs_lI h v1 (x1 + x7) (fun v2 => bs_if (v2 = x6) (bs_fA h x0 7 17 (fun v3 => bs_sI h v3 (x1 + x7) 2 (fun h4 => bs_on h4 x0 7 (w_R_across (bs_kI Φ fun v5 h6 => (nx41 x0 x1 x2 x3 v5 h6)) x0 x7 x2 h4)))) (nx106 x0 x1 x2 x3 x6 (x7 + 1) h)))
def w_R_decide_106 (Φ : bs_R → bs_H → Prop) (nx33 : Nat → Int32 → Int32 → Int32 → bs_H → Prop) (nx41 : Nat → Int32 → Int32 → Int32 → Int32 → bs_H → Prop) : Nat → Nat → Int32 → Int32 → Int32 → Int32 → Int32 → bs_H → Prop
  | 0 => fun _ _ _ _ _ _ _ => False
  | n + 1 => fun x0 x1 x2 x3 x6 x7 h => w_R_decide_106_s Φ nx33 nx41 (w_R_decide_106 Φ nx33 nx41 n) x0 x1 x2 x3 x6 x7 h
def w_R_decide_41_s (Φ : bs_R → bs_H → Prop) (nx33 : Nat → Int32 → Int32 → Int32 → bs_H → Prop) (nx41 : Nat → Int32 → Int32 → Int32 → Int32 → bs_H → Prop) (x0 : Nat) (x1 : Int32) (x2 : Int32) (x3 : Int32) (x4 : Int32) (h : bs_H) : Prop :=
  bs_fA h x0 7 17 (fun v1 => bs_lI h v1 (x1 + x4) (fun v2 => bs_if (v2 = 0) (bs_fA h x0 7 17 (fun v3 => bs_sI h v3 (x1 + x4) 1 (fun h4 => bs_fA h4 x0 7 15 (fun v5 => bs_lI h4 v5 (x1 + x4) (fun v6 => bs_fA h4 x0 7 18 (fun v7 => bs_sI h4 v7 (x1 + v6) 1 (fun h8 => bs_on h8 x0 7 (w_R_across (bs_kI Φ fun v9 h10 => (bs_fA h10 x0 7 18 (fun v11 => bs_sI h10 v11 (x1 + v9) 2 (fun h12 => w_R_decide_106 Φ nx33 nx41 1000 x0 x1 x2 x3 v9 0 h12)))) x0 v6 x2 h8)))))))) (nx33 x0 x1 x2 (x3 + 1) h)))
def w_R_decide_41 (Φ : bs_R → bs_H → Prop) (nx33 : Nat → Int32 → Int32 → Int32 → bs_H → Prop) : Nat → Nat → Int32 → Int32 → Int32 → Int32 → bs_H → Prop
  | 0 => fun _ _ _ _ _ _ => False
  | n + 1 => fun x0 x1 x2 x3 x4 h => w_R_decide_41_s Φ nx33 (w_R_decide_41 Φ nx33 n) x0 x1 x2 x3 x4 h
def w_R_decide_33_s (Φ : bs_R → bs_H → Prop) (nx33 : Nat → Int32 → Int32 → Int32 → bs_H → Prop) (x0 : Nat) (x1 : Int32) (x2 : Int32) (x3 : Int32) (h : bs_H) : Prop :=
  bs_if (x2 ≤ x3) (Φ (.ok none) h) (w_R_decide_41 Φ nx33 1000 x0 x1 x2 x3 x3 h)
def w_R_decide_33 (Φ : bs_R → bs_H → Prop) : Nat → Nat → Int32 → Int32 → Int32 → bs_H → Prop
  | 0 => fun _ _ _ _ _ => False
  | n + 1 => fun x0 x1 x2 x3 h => w_R_decide_33_s Φ (w_R_decide_33 Φ n) x0 x1 x2 x3 h
def w_R_decide_2_s (Φ : bs_R → bs_H → Prop) (nx2 : Nat → Int32 → Int32 → Int32 → bs_H → Prop) (x0 : Nat) (x1 : Int32) (x2 : Int32) (x3 : Int32) (h : bs_H) : Prop :=
  bs_if ((x1 + ((2 : Int32) * x2)) ≤ x3) (w_R_decide_33 Φ 1000 x0 x1 x2 0 h) (bs_fA h x0 7 17 (fun v1 => bs_sI h v1 x3 0 (fun h2 => bs_fA h2 x0 7 18 (fun v3 => bs_sI h2 v3 x3 0 (fun h4 => nx2 x0 x1 x2 (x3 + 1) h4)))))
def w_R_decide_2 (Φ : bs_R → bs_H → Prop) : Nat → Nat → Int32 → Int32 → Int32 → bs_H → Prop
  | 0 => fun _ _ _ _ _ => False
  | n + 1 => fun x0 x1 x2 x3 h => w_R_decide_2_s Φ (w_R_decide_2 Φ n) x0 x1 x2 x3 h
def w_R_decide (Φ : bs_R → bs_H → Prop) (x0 : Nat) (x1 : Int32) (x2 : Int32) (h : bs_H) : Prop :=
  w_R_decide_2 Φ 1000 x0 x1 x2 x1 h
theorem m_R_decide_106 {l : Launch} {R : Room} {Φ : bs_R → bs_H → Prop} (hR : bs_rm 2 R) {nx33 : Nat → Int32 → Int32 → Int32 → bs_H → Prop} {nx41 : Nat → Int32 → Int32 → Int32 → Int32 → bs_H → Prop} (hnx33 : ∀ (x0 : Nat) (x1 : Int32) (x2 : Int32) (x3 : Int32) (h : bs_H), nx33 x0 x1 x2 x3 h → bs_J l K_R_decide R Φ 33 [(0, .ref x0), (1, .int x1), (2, .int x2), (3, .int x3)] [] h) (hnx41 : ∀ (x0 : Nat) (x1 : Int32) (x2 : Int32) (x3 : Int32) (x4 : Int32) (h : bs_H), nx41 x0 x1 x2 x3 x4 h → bs_J l K_R_decide R Φ 41 [(0, .ref x0), (1, .int x1), (2, .int x2), (3, .int x3), (4, .int x4)] [] h) : ∀ (n : Nat) (x0 : Nat) (x1 : Int32) (x2 : Int32) (x3 : Int32) (x6 : Int32) (x7 : Int32) (h : bs_H), w_R_decide_106 Φ nx33 nx41 n x0 x1 x2 x3 x6 x7 h → bs_J l K_R_decide R Φ 106 [(0, .ref x0), (1, .int x1), (2, .int x2), (3, .int x3), (6, .int x6), (7, .int x7)] [] h := by
  intro n
  induction n with
  | zero => intro x0 x1 x2 x3 x6 x7 h hw; exact hw.elim
  | succ n ih =>
    have hnx106 := ih
    intro x0 x1 x2 x3 x6 x7 h hw
    replace hw : w_R_decide_106_s Φ nx33 nx41 (w_R_decide_106 Φ nx33 nx41 n) x0 x1 x2 x3 x6 x7 h := hw
    unfold w_R_decide_106_s at hw
    refine bj_aload_n (pc := 106) 0 d_R_decide_106 rfl rfl ?_
    obtain ⟨fs, v1, hx, hv, hw⟩ := hw
    refine bj_get (pc := 107) (ci := 7) (k := 15) (fs := fs) (v := .ref v1) d_R_decide_107 rfl (by decide) q_763 hx hv ?_
    refine bj_iload_n (pc := 110) 1 d_R_decide_110 rfl rfl ?_
    refine bj_iload (pc := 111) 5 d_R_decide_111 rfl ?_
    refine bj_iadd (pc := 113) d_R_decide_113 ?_
    obtain ⟨n, f, v2, hx, hin, hv, hw⟩ := hw
    refine bj_iald (pc := 114) (n := n) (f := f) d_R_decide_114 hx hin hv ?_
    refine bj_iload (pc := 115) 4 d_R_decide_115 rfl ?_
    refine bj_icmp_eq (pc := 117) (tgt := 126) d_R_decide_117 (by decide) (fun hc => ?_) (fun hc => ?_)
    · replace hw := hw.1 hc
      refine bj_aload_n (pc := 126) 0 d_R_decide_126 rfl rfl ?_
      obtain ⟨fs, v3, hx, hv, hw⟩ := hw
      refine bj_get (pc := 127) (ci := 7) (k := 17) (fs := fs) (v := .ref v3) d_R_decide_127 rfl (by decide) q_765 hx hv ?_
      refine bj_iload_n (pc := 130) 1 d_R_decide_130 rfl rfl ?_
      refine bj_iload (pc := 131) 5 d_R_decide_131 rfl ?_
      refine bj_iadd (pc := 133) d_R_decide_133 ?_
      refine bj_iconst (pc := 134) (v := 2) d_R_decide_134 (by decide) ?_
      obtain ⟨n, f, hx, hin, hw⟩ := hw
      refine bj_iast (pc := 135) (n := n) (f := f) d_R_decide_135 hx hin ?_
      refine bj_aload_n (pc := 136) 0 d_R_decide_136 rfl rfl ?_
      refine bj_iload (pc := 137) 5 d_R_decide_137 rfl ?_
      refine bj_iload_n (pc := 139) 2 d_R_decide_139 rfl rfl ?_
      obtain ⟨⟨fs, hx⟩, hw⟩ := hw
      refine bj_callV (pc := 140) (np := 2) (K' := K_R_across) (argsL := [.int x7, .int x2]) (st := []) (d1 := 1) (ci := 7) (fs := fs) rfl d_R_decide_140 (Or.inl q_883) q_885 rfl q_32 c_R_across n_R_across hR (by decide) (by decide) rfl (Nat.le_of_ble_eq_true rfl) rfl (Nat.le_of_ble_eq_true rfl) hx (fun R' hR' => m_R_across hR' hw) (bs_kI_ok fun v5 h6 hw => ?_) (fun _ _ z => z)
      refine bj_istore (pc := 143) (lo' := [(4, .int v5), (0, .ref x0), (1, .int x1), (2, .int x2), (3, .int x3), (6, .int x6), (7, .int x7)]) d_R_decide_143 (by decide) rfl ?_
      refine bj_goto (pc := 145) (tgt := 41) d_R_decide_145 (by decide) ?_
      refine bj_sub [1, 2, 3, 4, 0] (lo' := [(0, .ref x0), (1, .int x1), (2, .int x2), (3, .int x3), (4, .int v5)]) rfl ?_
      exact hnx41 _ _ _ _ _ _ hw
    · replace hw := hw.2 hc
      refine bj_iinc (pc := 120) (v := (x7 + 1)) (lo' := [(7, .int (x7 + 1)), (0, .ref x0), (1, .int x1), (2, .int x2), (3, .int x3), (6, .int x6)]) 5 d_R_decide_120 rfl rfl (by decide) rfl ?_
      refine bj_goto (pc := 123) (tgt := 106) d_R_decide_123 (by decide) ?_
      refine bj_sub [1, 2, 3, 4, 5, 0] (lo' := [(0, .ref x0), (1, .int x1), (2, .int x2), (3, .int x3), (6, .int x6), (7, .int (x7 + 1))]) rfl ?_
      exact hnx106 _ _ _ _ _ _ _ hw
theorem m_R_decide_41 {l : Launch} {R : Room} {Φ : bs_R → bs_H → Prop} (hR : bs_rm 2 R) {nx33 : Nat → Int32 → Int32 → Int32 → bs_H → Prop} (hnx33 : ∀ (x0 : Nat) (x1 : Int32) (x2 : Int32) (x3 : Int32) (h : bs_H), nx33 x0 x1 x2 x3 h → bs_J l K_R_decide R Φ 33 [(0, .ref x0), (1, .int x1), (2, .int x2), (3, .int x3)] [] h) : ∀ (n : Nat) (x0 : Nat) (x1 : Int32) (x2 : Int32) (x3 : Int32) (x4 : Int32) (h : bs_H), w_R_decide_41 Φ nx33 n x0 x1 x2 x3 x4 h → bs_J l K_R_decide R Φ 41 [(0, .ref x0), (1, .int x1), (2, .int x2), (3, .int x3), (4, .int x4)] [] h := by
  intro n
  induction n with
  | zero => intro x0 x1 x2 x3 x4 h hw; exact hw.elim
  | succ n ih =>
    have hnx41 := ih
    intro x0 x1 x2 x3 x4 h hw
    replace hw : w_R_decide_41_s Φ nx33 (w_R_decide_41 Φ nx33 n) x0 x1 x2 x3 x4 h := hw
    unfold w_R_decide_41_s at hw
    refine bj_aload_n (pc := 41) 0 d_R_decide_41 rfl rfl ?_
    obtain ⟨fs, v1, hx, hv, hw⟩ := hw
    refine bj_get (pc := 42) (ci := 7) (k := 17) (fs := fs) (v := .ref v1) d_R_decide_42 rfl (by decide) q_765 hx hv ?_
    refine bj_iload_n (pc := 45) 1 d_R_decide_45 rfl rfl ?_
    refine bj_iload (pc := 46) 4 d_R_decide_46 rfl ?_
    refine bj_iadd (pc := 48) d_R_decide_48 ?_
    obtain ⟨n, f, v2, hx, hin, hv, hw⟩ := hw
    refine bj_iald (pc := 49) (n := n) (f := f) d_R_decide_49 hx hin hv ?_
    refine bj_if_ne (pc := 50) (tgt := 148) d_R_decide_50 (by decide) (fun hc => ?_) (fun hc => ?_)
    · replace hw := hw.2 hc
      refine bj_iinc (pc := 148) (v := (x3 + 1)) (lo' := [(3, .int (x3 + 1)), (0, .ref x0), (1, .int x1), (2, .int x2), (4, .int x4)]) 3 d_R_decide_148 rfl rfl (by decide) rfl ?_
      refine bj_goto (pc := 151) (tgt := 33) d_R_decide_151 (by decide) ?_
      refine bj_sub [1, 2, 3, 0] (lo' := [(0, .ref x0), (1, .int x1), (2, .int x2), (3, .int (x3 + 1))]) rfl ?_
      exact hnx33 _ _ _ _ _ hw
    · replace hw := hw.1 hc
      refine bj_aload_n (pc := 53) 0 d_R_decide_53 rfl rfl ?_
      obtain ⟨fs, v3, hx, hv, hw⟩ := hw
      refine bj_get (pc := 54) (ci := 7) (k := 17) (fs := fs) (v := .ref v3) d_R_decide_54 rfl (by decide) q_765 hx hv ?_
      refine bj_iload_n (pc := 57) 1 d_R_decide_57 rfl rfl ?_
      refine bj_iload (pc := 58) 4 d_R_decide_58 rfl ?_
      refine bj_iadd (pc := 60) d_R_decide_60 ?_
      refine bj_iconst (pc := 61) (v := 1) d_R_decide_61 (by decide) ?_
      obtain ⟨n, f, hx, hin, hw⟩ := hw
      refine bj_iast (pc := 62) (n := n) (f := f) d_R_decide_62 hx hin ?_
      refine bj_aload_n (pc := 63) 0 d_R_decide_63 rfl rfl ?_
      obtain ⟨fs, v5, hx, hv, hw⟩ := hw
      refine bj_get (pc := 64) (ci := 7) (k := 15) (fs := fs) (v := .ref v5) d_R_decide_64 rfl (by decide) q_763 hx hv ?_
      refine bj_iload_n (pc := 67) 1 d_R_decide_67 rfl rfl ?_
      refine bj_iload (pc := 68) 4 d_R_decide_68 rfl ?_
      refine bj_iadd (pc := 70) d_R_decide_70 ?_
      obtain ⟨n, f, v6, hx, hin, hv, hw⟩ := hw
      refine bj_iald (pc := 71) (n := n) (f := f) d_R_decide_71 hx hin hv ?_
      refine bj_istore (pc := 72) (lo' := [(5, .int v6), (0, .ref x0), (1, .int x1), (2, .int x2), (3, .int x3), (4, .int x4)]) d_R_decide_72 (by decide) rfl ?_
      refine bj_aload_n (pc := 74) 1 d_R_decide_74 rfl rfl ?_
      obtain ⟨fs, v7, hx, hv, hw⟩ := hw
      refine bj_get (pc := 75) (ci := 7) (k := 18) (fs := fs) (v := .ref v7) d_R_decide_75 rfl (by decide) q_766 hx hv ?_
      refine bj_iload_n (pc := 78) 2 d_R_decide_78 rfl rfl ?_
      refine bj_iload (pc := 79) 0 d_R_decide_79 rfl ?_
      refine bj_iadd (pc := 81) d_R_decide_81 ?_
      refine bj_iconst (pc := 82) (v := 1) d_R_decide_82 (by decide) ?_
      obtain ⟨n, f, hx, hin, hw⟩ := hw
      refine bj_iast (pc := 83) (n := n) (f := f) d_R_decide_83 hx hin ?_
      refine bj_aload_n (pc := 84) 1 d_R_decide_84 rfl rfl ?_
      refine bj_iload (pc := 85) 0 d_R_decide_85 rfl ?_
      refine bj_iload_n (pc := 87) 3 d_R_decide_87 rfl rfl ?_
      obtain ⟨⟨fs, hx⟩, hw⟩ := hw
      refine bj_callV (pc := 88) (np := 2) (K' := K_R_across) (argsL := [.int v6, .int x2]) (st := []) (d1 := 1) (ci := 7) (fs := fs) rfl d_R_decide_88 (Or.inl q_883) q_885 rfl q_32 c_R_across n_R_across hR (by decide) (by decide) rfl (Nat.le_of_ble_eq_true rfl) rfl (Nat.le_of_ble_eq_true rfl) hx (fun R' hR' => m_R_across hR' hw) (bs_kI_ok fun v9 h10 hw => ?_) (fun _ _ z => z)
      refine bj_istore (pc := 91) (lo' := [(6, .int v9), (5, .int v6), (0, .ref x0), (1, .int x1), (2, .int x2), (3, .int x3), (4, .int x4)]) d_R_decide_91 (by decide) rfl ?_
      refine bj_aload_n (pc := 93) 2 d_R_decide_93 rfl rfl ?_
      obtain ⟨fs, v11, hx, hv, hw⟩ := hw
      refine bj_get (pc := 94) (ci := 7) (k := 18) (fs := fs) (v := .ref v11) d_R_decide_94 rfl (by decide) q_766 hx hv ?_
      refine bj_iload_n (pc := 97) 3 d_R_decide_97 rfl rfl ?_
      refine bj_iload (pc := 98) 0 d_R_decide_98 rfl ?_
      refine bj_iadd (pc := 100) d_R_decide_100 ?_
      refine bj_iconst (pc := 101) (v := 2) d_R_decide_101 (by decide) ?_
      obtain ⟨n, f, hx, hin, hw⟩ := hw
      refine bj_iast (pc := 102) (n := n) (f := f) d_R_decide_102 hx hin ?_
      refine bj_iconst (pc := 103) (v := 0) d_R_decide_103 (by decide) ?_
      refine bj_istore (pc := 104) (lo' := [(7, .int 0), (6, .int v9), (5, .int v6), (0, .ref x0), (1, .int x1), (2, .int x2), (3, .int x3), (4, .int x4)]) d_R_decide_104 (by decide) rfl ?_
      refine bj_sub [3, 4, 5, 6, 1, 0] (lo' := [(0, .ref x0), (1, .int x1), (2, .int x2), (3, .int x3), (6, .int v9), (7, .int 0)]) rfl ?_
      exact m_R_decide_106 hR hnx33 hnx41 1000 _ _ _ _ _ _ _ hw
theorem m_R_decide_33 {l : Launch} {R : Room} {Φ : bs_R → bs_H → Prop} (hR : bs_rm 2 R) : ∀ (n : Nat) (x0 : Nat) (x1 : Int32) (x2 : Int32) (x3 : Int32) (h : bs_H), w_R_decide_33 Φ n x0 x1 x2 x3 h → bs_J l K_R_decide R Φ 33 [(0, .ref x0), (1, .int x1), (2, .int x2), (3, .int x3)] [] h := by
  intro n
  induction n with
  | zero => intro x0 x1 x2 x3 h hw; exact hw.elim
  | succ n ih =>
    have hnx33 := ih
    intro x0 x1 x2 x3 h hw
    replace hw : w_R_decide_33_s Φ (w_R_decide_33 Φ n) x0 x1 x2 x3 h := hw
    unfold w_R_decide_33_s at hw
    refine bj_iload_n (pc := 33) 3 d_R_decide_33 rfl rfl ?_
    refine bj_iload_n (pc := 34) 2 d_R_decide_34 rfl rfl ?_
    refine bj_icmp_ge (pc := 35) (tgt := 154) d_R_decide_35 (by decide) (fun hc => ?_) (fun hc => ?_)
    · replace hw := hw.1 hc
      exact bj_vret (pc := 154) d_R_decide_154 rfl hw
    · replace hw := hw.2 hc
      refine bj_iload_n (pc := 38) 3 d_R_decide_38 rfl rfl ?_
      refine bj_istore (pc := 39) (lo' := [(4, .int x3), (0, .ref x0), (1, .int x1), (2, .int x2), (3, .int x3)]) d_R_decide_39 (by decide) rfl ?_
      refine bj_sub [1, 2, 3, 4, 0] (lo' := [(0, .ref x0), (1, .int x1), (2, .int x2), (3, .int x3), (4, .int x3)]) rfl ?_
      exact m_R_decide_41 hR hnx33 1000 _ _ _ _ _ _ hw
theorem m_R_decide_2 {l : Launch} {R : Room} {Φ : bs_R → bs_H → Prop} (hR : bs_rm 2 R) : ∀ (n : Nat) (x0 : Nat) (x1 : Int32) (x2 : Int32) (x3 : Int32) (h : bs_H), w_R_decide_2 Φ n x0 x1 x2 x3 h → bs_J l K_R_decide R Φ 2 [(0, .ref x0), (1, .int x1), (2, .int x2), (3, .int x3)] [] h := by
  intro n
  induction n with
  | zero => intro x0 x1 x2 x3 h hw; exact hw.elim
  | succ n ih =>
    have hnx2 := ih
    intro x0 x1 x2 x3 h hw
    replace hw : w_R_decide_2_s Φ (w_R_decide_2 Φ n) x0 x1 x2 x3 h := hw
    unfold w_R_decide_2_s at hw
    refine bj_iload_n (pc := 2) 3 d_R_decide_2 rfl rfl ?_
    refine bj_iload_n (pc := 3) 1 d_R_decide_3 rfl rfl ?_
    refine bj_iconst (pc := 4) (v := 2) d_R_decide_4 (by decide) ?_
    refine bj_iload_n (pc := 5) 2 d_R_decide_5 rfl rfl ?_
    refine bj_imul (pc := 6) d_R_decide_6 ?_
    refine bj_iadd (pc := 7) d_R_decide_7 ?_
    refine bj_icmp_ge (pc := 8) (tgt := 31) d_R_decide_8 (by decide) (fun hc => ?_) (fun hc => ?_)
    · replace hw := hw.1 hc
      refine bj_iconst (pc := 31) (v := 0) d_R_decide_31 (by decide) ?_
      refine bj_istore_n (pc := 32) (lo' := [(3, .int 0), (0, .ref x0), (1, .int x1), (2, .int x2)]) d_R_decide_32 rfl (by decide) rfl ?_
      refine bj_sub [1, 2, 3, 0] (lo' := [(0, .ref x0), (1, .int x1), (2, .int x2), (3, .int 0)]) rfl ?_
      exact m_R_decide_33 hR 1000 _ _ _ _ _ hw
    · replace hw := hw.2 hc
      refine bj_aload_n (pc := 11) 0 d_R_decide_11 rfl rfl ?_
      obtain ⟨fs, v1, hx, hv, hw⟩ := hw
      refine bj_get (pc := 12) (ci := 7) (k := 17) (fs := fs) (v := .ref v1) d_R_decide_12 rfl (by decide) q_765 hx hv ?_
      refine bj_iload_n (pc := 15) 3 d_R_decide_15 rfl rfl ?_
      refine bj_iconst (pc := 16) (v := 0) d_R_decide_16 (by decide) ?_
      obtain ⟨n, f, hx, hin, hw⟩ := hw
      refine bj_iast (pc := 17) (n := n) (f := f) d_R_decide_17 hx hin ?_
      refine bj_aload_n (pc := 18) 0 d_R_decide_18 rfl rfl ?_
      obtain ⟨fs, v3, hx, hv, hw⟩ := hw
      refine bj_get (pc := 19) (ci := 7) (k := 18) (fs := fs) (v := .ref v3) d_R_decide_19 rfl (by decide) q_766 hx hv ?_
      refine bj_iload_n (pc := 22) 3 d_R_decide_22 rfl rfl ?_
      refine bj_iconst (pc := 23) (v := 0) d_R_decide_23 (by decide) ?_
      obtain ⟨n, f, hx, hin, hw⟩ := hw
      refine bj_iast (pc := 24) (n := n) (f := f) d_R_decide_24 hx hin ?_
      refine bj_iinc (pc := 25) (v := (x3 + 1)) (lo' := [(3, .int (x3 + 1)), (0, .ref x0), (1, .int x1), (2, .int x2)]) 3 d_R_decide_25 rfl rfl (by decide) rfl ?_
      refine bj_goto (pc := 28) (tgt := 2) d_R_decide_28 (by decide) ?_
      refine bj_sub [1, 2, 3, 0] (lo' := [(0, .ref x0), (1, .int x1), (2, .int x2), (3, .int (x3 + 1))]) rfl ?_
      exact hnx2 _ _ _ _ _ hw
theorem m_R_decide {l : Launch} {R : Room} (hR : bs_rm 2 R) {Φ : bs_R → bs_H → Prop} {x0 : Nat} {x1 : Int32} {x2 : Int32} {h : bs_H} (hw : w_R_decide Φ x0 x1 x2 h) : bs_J l K_R_decide R Φ 0 [(0, .ref x0), (1, .int x1), (2, .int x2)] [] h := by
  unfold w_R_decide at hw
  refine bj_iload_n (pc := 0) 1 d_R_decide_0 rfl rfl ?_
  refine bj_istore_n (pc := 1) (lo' := [(3, .int x1), (0, .ref x0), (1, .int x1), (2, .int x2)]) d_R_decide_1 rfl (by decide) rfl ?_
  refine bj_sub [1, 2, 3, 0] (lo' := [(0, .ref x0), (1, .int x1), (2, .int x2), (3, .int x1)]) rfl ?_
  exact m_R_decide_2 hR 1000 _ _ _ _ _ hw
theorem d_R_split_0 : decode prog_9_method_15_code 0 = .ok (.aload_n 0, 1) := by decide +kernel
theorem d_R_split_1 : decode prog_9_method_15_code 1 = .ok (.iload_n 1, 1) := by decide +kernel
theorem d_R_split_2 : decode prog_9_method_15_code 2 = .ok (.iload_n 2, 1) := by decide +kernel
theorem d_R_split_3 : decode prog_9_method_15_code 3 = .ok (.invokevirtual 110, 3) := by decide +kernel
theorem d_R_split_6 : decode prog_9_method_15_code 6 = .ok (.iconst 0, 1) := by decide +kernel
theorem d_R_split_7 : decode prog_9_method_15_code 7 = .ok (.istore 4, 2) := by decide +kernel
theorem d_R_split_9 : decode prog_9_method_15_code 9 = .ok (.iload 4, 2) := by decide +kernel
theorem d_R_split_11 : decode prog_9_method_15_code 11 = .ok (.iload_n 2, 1) := by decide +kernel
theorem d_R_split_12 : decode prog_9_method_15_code 12 = .ok (.if_icmp .ge 162, 3) := by decide +kernel
theorem d_R_split_15 : decode prog_9_method_15_code 15 = .ok (.aload_n 0, 1) := by decide +kernel
theorem d_R_split_16 : decode prog_9_method_15_code 16 = .ok (.getfield 57, 3) := by decide +kernel
theorem d_R_split_19 : decode prog_9_method_15_code 19 = .ok (.iload_n 3, 1) := by decide +kernel
theorem d_R_split_20 : decode prog_9_method_15_code 20 = .ok (.aload_n 0, 1) := by decide +kernel
theorem d_R_split_21 : decode prog_9_method_15_code 21 = .ok (.getfield 54, 3) := by decide +kernel
theorem d_R_split_24 : decode prog_9_method_15_code 24 = .ok (.iload_n 1, 1) := by decide +kernel
theorem d_R_split_25 : decode prog_9_method_15_code 25 = .ok (.iload 4, 2) := by decide +kernel
theorem d_R_split_27 : decode prog_9_method_15_code 27 = .ok (.iadd, 1) := by decide +kernel
theorem d_R_split_28 : decode prog_9_method_15_code 28 = .ok (.iaload, 1) := by decide +kernel
theorem d_R_split_29 : decode prog_9_method_15_code 29 = .ok (.iconst 2, 1) := by decide +kernel
theorem d_R_split_30 : decode prog_9_method_15_code 30 = .ok (.if_icmp .ne 19, 3) := by decide +kernel
theorem d_R_split_33 : decode prog_9_method_15_code 33 = .ok (.aload_n 0, 1) := by decide +kernel
theorem d_R_split_34 : decode prog_9_method_15_code 34 = .ok (.getfield 57, 3) := by decide +kernel
theorem d_R_split_37 : decode prog_9_method_15_code 37 = .ok (.iload_n 3, 1) := by decide +kernel
theorem d_R_split_38 : decode prog_9_method_15_code 38 = .ok (.laload, 1) := by decide +kernel
theorem d_R_split_39 : decode prog_9_method_15_code 39 = .ok (.lconst 1, 1) := by decide +kernel
theorem d_R_split_40 : decode prog_9_method_15_code 40 = .ok (.iload_n 1, 1) := by decide +kernel
theorem d_R_split_41 : decode prog_9_method_15_code 41 = .ok (.iload 4, 2) := by decide +kernel
theorem d_R_split_43 : decode prog_9_method_15_code 43 = .ok (.iadd, 1) := by decide +kernel
theorem d_R_split_44 : decode prog_9_method_15_code 44 = .ok (.lshl, 1) := by decide +kernel
theorem d_R_split_45 : decode prog_9_method_15_code 45 = .ok (.lor, 1) := by decide +kernel
theorem d_R_split_46 : decode prog_9_method_15_code 46 = .ok (.goto 9, 3) := by decide +kernel
theorem d_R_split_49 : decode prog_9_method_15_code 49 = .ok (.aload_n 0, 1) := by decide +kernel
theorem d_R_split_50 : decode prog_9_method_15_code 50 = .ok (.getfield 57, 3) := by decide +kernel
theorem d_R_split_53 : decode prog_9_method_15_code 53 = .ok (.iload_n 3, 1) := by decide +kernel
theorem d_R_split_54 : decode prog_9_method_15_code 54 = .ok (.laload, 1) := by decide +kernel
theorem d_R_split_55 : decode prog_9_method_15_code 55 = .ok (.lastore, 1) := by decide +kernel
theorem d_R_split_56 : decode prog_9_method_15_code 56 = .ok (.aload_n 0, 1) := by decide +kernel
theorem d_R_split_57 : decode prog_9_method_15_code 57 = .ok (.getfield 60, 3) := by decide +kernel
theorem d_R_split_60 : decode prog_9_method_15_code 60 = .ok (.iload_n 3, 1) := by decide +kernel
theorem d_R_split_61 : decode prog_9_method_15_code 61 = .ok (.aload_n 0, 1) := by decide +kernel
theorem d_R_split_62 : decode prog_9_method_15_code 62 = .ok (.getfield 51, 3) := by decide +kernel
theorem d_R_split_65 : decode prog_9_method_15_code 65 = .ok (.iload_n 1, 1) := by decide +kernel
theorem d_R_split_66 : decode prog_9_method_15_code 66 = .ok (.iload 4, 2) := by decide +kernel
theorem d_R_split_68 : decode prog_9_method_15_code 68 = .ok (.iadd, 1) := by decide +kernel
theorem d_R_split_69 : decode prog_9_method_15_code 69 = .ok (.iaload, 1) := by decide +kernel
theorem d_R_split_70 : decode prog_9_method_15_code 70 = .ok (.iconst 2, 1) := by decide +kernel
theorem d_R_split_71 : decode prog_9_method_15_code 71 = .ok (.if_icmp .ne 19, 3) := by decide +kernel
theorem d_R_split_74 : decode prog_9_method_15_code 74 = .ok (.aload_n 0, 1) := by decide +kernel
theorem d_R_split_75 : decode prog_9_method_15_code 75 = .ok (.getfield 60, 3) := by decide +kernel
theorem d_R_split_78 : decode prog_9_method_15_code 78 = .ok (.iload_n 3, 1) := by decide +kernel
theorem d_R_split_79 : decode prog_9_method_15_code 79 = .ok (.laload, 1) := by decide +kernel
theorem d_R_split_80 : decode prog_9_method_15_code 80 = .ok (.lconst 1, 1) := by decide +kernel
theorem d_R_split_81 : decode prog_9_method_15_code 81 = .ok (.iload_n 1, 1) := by decide +kernel
theorem d_R_split_82 : decode prog_9_method_15_code 82 = .ok (.iload 4, 2) := by decide +kernel
theorem d_R_split_84 : decode prog_9_method_15_code 84 = .ok (.iadd, 1) := by decide +kernel
theorem d_R_split_85 : decode prog_9_method_15_code 85 = .ok (.lshl, 1) := by decide +kernel
theorem d_R_split_86 : decode prog_9_method_15_code 86 = .ok (.lor, 1) := by decide +kernel
theorem d_R_split_87 : decode prog_9_method_15_code 87 = .ok (.goto 9, 3) := by decide +kernel
theorem d_R_split_90 : decode prog_9_method_15_code 90 = .ok (.aload_n 0, 1) := by decide +kernel
theorem d_R_split_91 : decode prog_9_method_15_code 91 = .ok (.getfield 60, 3) := by decide +kernel
theorem d_R_split_94 : decode prog_9_method_15_code 94 = .ok (.iload_n 3, 1) := by decide +kernel
theorem d_R_split_95 : decode prog_9_method_15_code 95 = .ok (.laload, 1) := by decide +kernel
theorem d_R_split_96 : decode prog_9_method_15_code 96 = .ok (.lastore, 1) := by decide +kernel
theorem d_R_split_97 : decode prog_9_method_15_code 97 = .ok (.aload_n 0, 1) := by decide +kernel
theorem d_R_split_98 : decode prog_9_method_15_code 98 = .ok (.getfield 51, 3) := by decide +kernel
theorem d_R_split_101 : decode prog_9_method_15_code 101 = .ok (.iload_n 1, 1) := by decide +kernel
theorem d_R_split_102 : decode prog_9_method_15_code 102 = .ok (.iload 4, 2) := by decide +kernel
theorem d_R_split_104 : decode prog_9_method_15_code 104 = .ok (.iadd, 1) := by decide +kernel
theorem d_R_split_105 : decode prog_9_method_15_code 105 = .ok (.iaload, 1) := by decide +kernel
theorem d_R_split_106 : decode prog_9_method_15_code 106 = .ok (.iconst 1, 1) := by decide +kernel
theorem d_R_split_107 : decode prog_9_method_15_code 107 = .ok (.if_icmp .ne 8, 3) := by decide +kernel
theorem d_R_split_110 : decode prog_9_method_15_code 110 = .ok (.iload 4, 2) := by decide +kernel
theorem d_R_split_112 : decode prog_9_method_15_code 112 = .ok (.goto 7, 3) := by decide +kernel
theorem d_R_split_115 : decode prog_9_method_15_code 115 = .ok (.iload 4, 2) := by decide +kernel
theorem d_R_split_117 : decode prog_9_method_15_code 117 = .ok (.iload_n 2, 1) := by decide +kernel
theorem d_R_split_118 : decode prog_9_method_15_code 118 = .ok (.iadd, 1) := by decide +kernel
theorem d_R_split_119 : decode prog_9_method_15_code 119 = .ok (.istore 5, 2) := by decide +kernel
theorem d_R_split_121 : decode prog_9_method_15_code 121 = .ok (.aload_n 0, 1) := by decide +kernel
theorem d_R_split_122 : decode prog_9_method_15_code 122 = .ok (.getfield 48, 3) := by decide +kernel
theorem d_R_split_125 : decode prog_9_method_15_code 125 = .ok (.iload_n 1, 1) := by decide +kernel
theorem d_R_split_126 : decode prog_9_method_15_code 126 = .ok (.iload 4, 2) := by decide +kernel
theorem d_R_split_128 : decode prog_9_method_15_code 128 = .ok (.iadd, 1) := by decide +kernel
theorem d_R_split_129 : decode prog_9_method_15_code 129 = .ok (.aload_n 0, 1) := by decide +kernel
theorem d_R_split_130 : decode prog_9_method_15_code 130 = .ok (.getfield 45, 3) := by decide +kernel
theorem d_R_split_133 : decode prog_9_method_15_code 133 = .ok (.iload_n 1, 1) := by decide +kernel
theorem d_R_split_134 : decode prog_9_method_15_code 134 = .ok (.iload 5, 2) := by decide +kernel
theorem d_R_split_136 : decode prog_9_method_15_code 136 = .ok (.iadd, 1) := by decide +kernel
theorem d_R_split_137 : decode prog_9_method_15_code 137 = .ok (.iaload, 1) := by decide +kernel
theorem d_R_split_138 : decode prog_9_method_15_code 138 = .ok (.iload_n 2, 1) := by decide +kernel
theorem d_R_split_139 : decode prog_9_method_15_code 139 = .ok (.irem, 1) := by decide +kernel
theorem d_R_split_140 : decode prog_9_method_15_code 140 = .ok (.iastore, 1) := by decide +kernel
theorem d_R_split_141 : decode prog_9_method_15_code 141 = .ok (.aload_n 0, 1) := by decide +kernel
theorem d_R_split_142 : decode prog_9_method_15_code 142 = .ok (.getfield 48, 3) := by decide +kernel
theorem d_R_split_145 : decode prog_9_method_15_code 145 = .ok (.iload_n 1, 1) := by decide +kernel
theorem d_R_split_146 : decode prog_9_method_15_code 146 = .ok (.iload_n 2, 1) := by decide +kernel
theorem d_R_split_147 : decode prog_9_method_15_code 147 = .ok (.iadd, 1) := by decide +kernel
theorem d_R_split_148 : decode prog_9_method_15_code 148 = .ok (.iload 4, 2) := by decide +kernel
theorem d_R_split_150 : decode prog_9_method_15_code 150 = .ok (.iadd, 1) := by decide +kernel
theorem d_R_split_151 : decode prog_9_method_15_code 151 = .ok (.aload_n 0, 1) := by decide +kernel
theorem d_R_split_152 : decode prog_9_method_15_code 152 = .ok (.getfield 45, 3) := by decide +kernel
theorem d_R_split_155 : decode prog_9_method_15_code 155 = .ok (.iload_n 1, 1) := by decide +kernel
theorem d_R_split_156 : decode prog_9_method_15_code 156 = .ok (.aload_n 0, 1) := by decide +kernel
theorem d_R_split_157 : decode prog_9_method_15_code 157 = .ok (.iload 5, 2) := by decide +kernel
theorem d_R_split_159 : decode prog_9_method_15_code 159 = .ok (.iload_n 2, 1) := by decide +kernel
theorem d_R_split_160 : decode prog_9_method_15_code 160 = .ok (.invokevirtual 106, 3) := by decide +kernel
theorem d_R_split_163 : decode prog_9_method_15_code 163 = .ok (.iadd, 1) := by decide +kernel
theorem d_R_split_164 : decode prog_9_method_15_code 164 = .ok (.iaload, 1) := by decide +kernel
theorem d_R_split_165 : decode prog_9_method_15_code 165 = .ok (.iload_n 2, 1) := by decide +kernel
theorem d_R_split_166 : decode prog_9_method_15_code 166 = .ok (.irem, 1) := by decide +kernel
theorem d_R_split_167 : decode prog_9_method_15_code 167 = .ok (.iastore, 1) := by decide +kernel
theorem d_R_split_168 : decode prog_9_method_15_code 168 = .ok (.iinc 4 1, 3) := by decide +kernel
theorem d_R_split_171 : decode prog_9_method_15_code 171 = .ok (.goto (-162), 3) := by decide +kernel
theorem d_R_split_174 : decode prog_9_method_15_code 174 = .ok (.return_, 1) := by decide +kernel
def w_R_split_119 (Φ : bs_R → bs_H → Prop) (nx9 : Nat → Int32 → Int32 → Int32 → Int32 → bs_H → Prop) (x0 : Nat) (x1 : Int32) (x2 : Int32) (x3 : Int32) (x4 : Int32) (s0 : Int32) (h : bs_H) : Prop :=
  bs_fA h x0 7 16 (fun v1 => bs_fA h x0 7 15 (fun v2 => bs_lI h v2 (x1 + s0) (fun v3 => (¬ x2 = 0 ∧ bs_sI h v1 (x1 + x4) (v3 - v3 / x2 * x2) (fun h4 => bs_fA h4 x0 7 16 (fun v5 => bs_fA h4 x0 7 15 (fun v6 => bs_on h4 x0 7 (w_R_across (bs_kI Φ fun v7 h8 => (bs_lI h8 v6 (x1 + v7) (fun v9 => (¬ x2 = 0 ∧ bs_sI h8 v5 ((x1 + x2) + x4) (v9 - v9 / x2 * x2) (fun h10 => nx9 x0 x1 x2 x3 (x4 + 1) h10))))) x0 s0 x2 h4))))))))
def w_R_split_96 (Φ : bs_R → bs_H → Prop) (nx9 : Nat → Int32 → Int32 → Int32 → Int32 → bs_H → Prop) (x0 : Nat) (x1 : Int32) (x2 : Int32) (x3 : Int32) (x4 : Int32) (s0 : Nat) (s1 : Int32) (s2 : Int64) (h : bs_H) : Prop :=
  bs_sL h s0 s1 s2 (fun h1 => bs_fA h1 x0 7 17 (fun v2 => bs_lI h1 v2 (x1 + x4) (fun v3 => bs_if (v3 = 1) (w_R_split_119 Φ nx9 x0 x1 x2 x3 x4 x4 h1) (w_R_split_119 Φ nx9 x0 x1 x2 x3 x4 (x4 + x2) h1))))
def w_R_split_55 (Φ : bs_R → bs_H → Prop) (nx9 : Nat → Int32 → Int32 → Int32 → Int32 → bs_H → Prop) (x0 : Nat) (x1 : Int32) (x2 : Int32) (x3 : Int32) (x4 : Int32) (s0 : Nat) (s1 : Int32) (s2 : Int64) (h : bs_H) : Prop :=
  bs_sL h s0 s1 s2 (fun h1 => bs_fA h1 x0 7 20 (fun v2 => bs_fA h1 x0 7 17 (fun v3 => bs_lI h1 v3 (x1 + x4) (fun v4 => bs_if (v4 = 2) (bs_fA h1 x0 7 20 (fun v7 => bs_lL h1 v7 x3 (fun v8 => w_R_split_96 Φ nx9 x0 x1 x2 x3 x4 v2 x3 (v8 ||| (bs_shl 1 (x1 + x4))) h1))) (bs_fA h1 x0 7 20 (fun v5 => bs_lL h1 v5 x3 (fun v6 => w_R_split_96 Φ nx9 x0 x1 x2 x3 x4 v2 x3 v6 h1)))))))
def w_R_split_9_s (Φ : bs_R → bs_H → Prop) (nx9 : Nat → Int32 → Int32 → Int32 → Int32 → bs_H → Prop) (x0 : Nat) (x1 : Int32) (x2 : Int32) (x3 : Int32) (x4 : Int32) (h : bs_H) : Prop :=
  bs_if (x2 ≤ x4) (Φ (.ok none) h) (bs_fA h x0 7 19 (fun v1 => bs_fA h x0 7 18 (fun v2 => bs_lI h v2 (x1 + x4) (fun v3 => bs_if (v3 = 2) (bs_fA h x0 7 19 (fun v6 => bs_lL h v6 x3 (fun v7 => w_R_split_55 Φ nx9 x0 x1 x2 x3 x4 v1 x3 (v7 ||| (bs_shl 1 (x1 + x4))) h))) (bs_fA h x0 7 19 (fun v4 => bs_lL h v4 x3 (fun v5 => w_R_split_55 Φ nx9 x0 x1 x2 x3 x4 v1 x3 v5 h)))))))
def w_R_split_9 (Φ : bs_R → bs_H → Prop) : Nat → Nat → Int32 → Int32 → Int32 → Int32 → bs_H → Prop
  | 0 => fun _ _ _ _ _ _ => False
  | n + 1 => fun x0 x1 x2 x3 x4 h => w_R_split_9_s Φ (w_R_split_9 Φ n) x0 x1 x2 x3 x4 h
def w_R_split (Φ : bs_R → bs_H → Prop) (x0 : Nat) (x1 : Int32) (x2 : Int32) (x3 : Int32) (h : bs_H) : Prop :=
  bs_on h x0 7 (w_R_decide (bs_kV Φ fun h1 => (w_R_split_9 Φ 1000 x0 x1 x2 x3 0 h1)) x0 x1 x2 h)
theorem m_R_split_119 {l : Launch} {R : Room} {Φ : bs_R → bs_H → Prop} (hR : bs_rm 3 R) {nx9 : Nat → Int32 → Int32 → Int32 → Int32 → bs_H → Prop} (hnx9 : ∀ (x0 : Nat) (x1 : Int32) (x2 : Int32) (x3 : Int32) (x4 : Int32) (h : bs_H), nx9 x0 x1 x2 x3 x4 h → bs_J l K_R_split R Φ 9 [(0, .ref x0), (1, .int x1), (2, .int x2), (3, .int x3), (4, .int x4)] [] h) {x0 : Nat} {x1 : Int32} {x2 : Int32} {x3 : Int32} {x4 : Int32} {s0 : Int32} {h : bs_H} (hw : w_R_split_119 Φ nx9 x0 x1 x2 x3 x4 s0 h) : bs_J l K_R_split R Φ 119 [(0, .ref x0), (1, .int x1), (2, .int x2), (3, .int x3), (4, .int x4)] [.int s0] h := by
  unfold w_R_split_119 at hw
  refine bj_istore (pc := 119) (lo' := [(5, .int s0), (0, .ref x0), (1, .int x1), (2, .int x2), (3, .int x3), (4, .int x4)]) d_R_split_119 (by decide) rfl ?_
  refine bj_aload_n (pc := 121) 1 d_R_split_121 rfl rfl ?_
  obtain ⟨fs, v1, hx, hv, hw⟩ := hw
  refine bj_get (pc := 122) (ci := 7) (k := 16) (fs := fs) (v := .ref v1) d_R_split_122 rfl (by decide) q_764 hx hv ?_
  refine bj_iload_n (pc := 125) 2 d_R_split_125 rfl rfl ?_
  refine bj_iload (pc := 126) 5 d_R_split_126 rfl ?_
  refine bj_iadd (pc := 128) d_R_split_128 ?_
  refine bj_aload_n (pc := 129) 1 d_R_split_129 rfl rfl ?_
  obtain ⟨fs, v2, hx, hv, hw⟩ := hw
  refine bj_get (pc := 130) (ci := 7) (k := 15) (fs := fs) (v := .ref v2) d_R_split_130 rfl (by decide) q_763 hx hv ?_
  refine bj_iload_n (pc := 133) 2 d_R_split_133 rfl rfl ?_
  refine bj_iload (pc := 134) 0 d_R_split_134 rfl ?_
  refine bj_iadd (pc := 136) d_R_split_136 ?_
  obtain ⟨n, f, v3, hx, hin, hv, hw⟩ := hw
  refine bj_iald (pc := 137) (n := n) (f := f) d_R_split_137 hx hin hv ?_
  refine bj_iload_n (pc := 138) 3 d_R_split_138 rfl rfl ?_
  obtain ⟨hz, hw⟩ := hw
  refine bj_irem (pc := 139) d_R_split_139 hz ?_
  obtain ⟨n, f, hx, hin, hw⟩ := hw
  refine bj_iast (pc := 140) (n := n) (f := f) d_R_split_140 hx hin ?_
  refine bj_aload_n (pc := 141) 1 d_R_split_141 rfl rfl ?_
  obtain ⟨fs, v5, hx, hv, hw⟩ := hw
  refine bj_get (pc := 142) (ci := 7) (k := 16) (fs := fs) (v := .ref v5) d_R_split_142 rfl (by decide) q_764 hx hv ?_
  refine bj_iload_n (pc := 145) 2 d_R_split_145 rfl rfl ?_
  refine bj_iload_n (pc := 146) 3 d_R_split_146 rfl rfl ?_
  refine bj_iadd (pc := 147) d_R_split_147 ?_
  refine bj_iload (pc := 148) 5 d_R_split_148 rfl ?_
  refine bj_iadd (pc := 150) d_R_split_150 ?_
  refine bj_aload_n (pc := 151) 1 d_R_split_151 rfl rfl ?_
  obtain ⟨fs, v6, hx, hv, hw⟩ := hw
  refine bj_get (pc := 152) (ci := 7) (k := 15) (fs := fs) (v := .ref v6) d_R_split_152 rfl (by decide) q_763 hx hv ?_
  refine bj_iload_n (pc := 155) 2 d_R_split_155 rfl rfl ?_
  refine bj_aload_n (pc := 156) 1 d_R_split_156 rfl rfl ?_
  refine bj_iload (pc := 157) 0 d_R_split_157 rfl ?_
  refine bj_iload_n (pc := 159) 3 d_R_split_159 rfl rfl ?_
  obtain ⟨⟨fs, hx⟩, hw⟩ := hw
  refine bj_callV (pc := 160) (np := 2) (K' := K_R_across) (argsL := [.int s0, .int x2]) (st := [.int x1, .ref v6, .int ((x1 + x2) + x4), .ref v5]) (d1 := 1) (ci := 7) (fs := fs) rfl d_R_split_160 (Or.inl q_883) q_885 rfl q_32 c_R_across n_R_across hR (by decide) (by decide) rfl (Nat.le_of_ble_eq_true rfl) rfl (Nat.le_of_ble_eq_true rfl) hx (fun R' hR' => m_R_across hR' hw) (bs_kI_ok fun v7 h8 hw => ?_) (fun _ _ z => z)
  refine bj_iadd (pc := 163) d_R_split_163 ?_
  obtain ⟨n, f, v9, hx, hin, hv, hw⟩ := hw
  refine bj_iald (pc := 164) (n := n) (f := f) d_R_split_164 hx hin hv ?_
  refine bj_iload_n (pc := 165) 3 d_R_split_165 rfl rfl ?_
  obtain ⟨hz, hw⟩ := hw
  refine bj_irem (pc := 166) d_R_split_166 hz ?_
  obtain ⟨n, f, hx, hin, hw⟩ := hw
  refine bj_iast (pc := 167) (n := n) (f := f) d_R_split_167 hx hin ?_
  refine bj_iinc (pc := 168) (v := (x4 + 1)) (lo' := [(4, .int (x4 + 1)), (5, .int s0), (0, .ref x0), (1, .int x1), (2, .int x2), (3, .int x3)]) 5 d_R_split_168 rfl rfl (by decide) rfl ?_
  refine bj_goto (pc := 171) (tgt := 9) d_R_split_171 (by decide) ?_
  refine bj_sub [2, 3, 4, 5, 0] (lo' := [(0, .ref x0), (1, .int x1), (2, .int x2), (3, .int x3), (4, .int (x4 + 1))]) rfl ?_
  exact hnx9 _ _ _ _ _ _ hw
theorem m_R_split_96 {l : Launch} {R : Room} {Φ : bs_R → bs_H → Prop} (hR : bs_rm 3 R) {nx9 : Nat → Int32 → Int32 → Int32 → Int32 → bs_H → Prop} (hnx9 : ∀ (x0 : Nat) (x1 : Int32) (x2 : Int32) (x3 : Int32) (x4 : Int32) (h : bs_H), nx9 x0 x1 x2 x3 x4 h → bs_J l K_R_split R Φ 9 [(0, .ref x0), (1, .int x1), (2, .int x2), (3, .int x3), (4, .int x4)] [] h) {x0 : Nat} {x1 : Int32} {x2 : Int32} {x3 : Int32} {x4 : Int32} {s0 : Nat} {s1 : Int32} {s2 : Int64} {h : bs_H} (hw : w_R_split_96 Φ nx9 x0 x1 x2 x3 x4 s0 s1 s2 h) : bs_J l K_R_split R Φ 96 [(0, .ref x0), (1, .int x1), (2, .int x2), (3, .int x3), (4, .int x4)] [.long s2, .int s1, .ref s0] h := by
  unfold w_R_split_96 at hw
  obtain ⟨n, f, hx, hin, hw⟩ := hw
  refine bj_last (pc := 96) (n := n) (f := f) d_R_split_96 hx hin ?_
  refine bj_aload_n (pc := 97) 0 d_R_split_97 rfl rfl ?_
  obtain ⟨fs, v2, hx, hv, hw⟩ := hw
  refine bj_get (pc := 98) (ci := 7) (k := 17) (fs := fs) (v := .ref v2) d_R_split_98 rfl (by decide) q_765 hx hv ?_
  refine bj_iload_n (pc := 101) 1 d_R_split_101 rfl rfl ?_
  refine bj_iload (pc := 102) 4 d_R_split_102 rfl ?_
  refine bj_iadd (pc := 104) d_R_split_104 ?_
  obtain ⟨n, f, v3, hx, hin, hv, hw⟩ := hw
  refine bj_iald (pc := 105) (n := n) (f := f) d_R_split_105 hx hin hv ?_
  refine bj_iconst (pc := 106) (v := 1) d_R_split_106 (by decide) ?_
  refine bj_icmp_ne (pc := 107) (tgt := 115) d_R_split_107 (by decide) (fun hc => ?_) (fun hc => ?_)
  · replace hw := hw.2 hc
    refine bj_iload (pc := 115) 4 d_R_split_115 rfl ?_
    refine bj_iload_n (pc := 117) 2 d_R_split_117 rfl rfl ?_
    refine bj_iadd (pc := 118) d_R_split_118 ?_
    exact m_R_split_119 hR hnx9 hw
  · replace hw := hw.1 hc
    refine bj_iload (pc := 110) 4 d_R_split_110 rfl ?_
    refine bj_goto (pc := 112) (tgt := 119) d_R_split_112 (by decide) ?_
    exact m_R_split_119 hR hnx9 hw
theorem m_R_split_55 {l : Launch} {R : Room} {Φ : bs_R → bs_H → Prop} (hR : bs_rm 3 R) {nx9 : Nat → Int32 → Int32 → Int32 → Int32 → bs_H → Prop} (hnx9 : ∀ (x0 : Nat) (x1 : Int32) (x2 : Int32) (x3 : Int32) (x4 : Int32) (h : bs_H), nx9 x0 x1 x2 x3 x4 h → bs_J l K_R_split R Φ 9 [(0, .ref x0), (1, .int x1), (2, .int x2), (3, .int x3), (4, .int x4)] [] h) {x0 : Nat} {x1 : Int32} {x2 : Int32} {x3 : Int32} {x4 : Int32} {s0 : Nat} {s1 : Int32} {s2 : Int64} {h : bs_H} (hw : w_R_split_55 Φ nx9 x0 x1 x2 x3 x4 s0 s1 s2 h) : bs_J l K_R_split R Φ 55 [(0, .ref x0), (1, .int x1), (2, .int x2), (3, .int x3), (4, .int x4)] [.long s2, .int s1, .ref s0] h := by
  unfold w_R_split_55 at hw
  obtain ⟨n, f, hx, hin, hw⟩ := hw
  refine bj_last (pc := 55) (n := n) (f := f) d_R_split_55 hx hin ?_
  refine bj_aload_n (pc := 56) 0 d_R_split_56 rfl rfl ?_
  obtain ⟨fs, v2, hx, hv, hw⟩ := hw
  refine bj_get (pc := 57) (ci := 7) (k := 20) (fs := fs) (v := .ref v2) d_R_split_57 rfl (by decide) q_768 hx hv ?_
  refine bj_iload_n (pc := 60) 3 d_R_split_60 rfl rfl ?_
  refine bj_aload_n (pc := 61) 0 d_R_split_61 rfl rfl ?_
  obtain ⟨fs, v3, hx, hv, hw⟩ := hw
  refine bj_get (pc := 62) (ci := 7) (k := 17) (fs := fs) (v := .ref v3) d_R_split_62 rfl (by decide) q_765 hx hv ?_
  refine bj_iload_n (pc := 65) 1 d_R_split_65 rfl rfl ?_
  refine bj_iload (pc := 66) 4 d_R_split_66 rfl ?_
  refine bj_iadd (pc := 68) d_R_split_68 ?_
  obtain ⟨n, f, v4, hx, hin, hv, hw⟩ := hw
  refine bj_iald (pc := 69) (n := n) (f := f) d_R_split_69 hx hin hv ?_
  refine bj_iconst (pc := 70) (v := 2) d_R_split_70 (by decide) ?_
  refine bj_icmp_ne (pc := 71) (tgt := 90) d_R_split_71 (by decide) (fun hc => ?_) (fun hc => ?_)
  · replace hw := hw.2 hc
    refine bj_aload_n (pc := 90) 0 d_R_split_90 rfl rfl ?_
    obtain ⟨fs, v5, hx, hv, hw⟩ := hw
    refine bj_get (pc := 91) (ci := 7) (k := 20) (fs := fs) (v := .ref v5) d_R_split_91 rfl (by decide) q_768 hx hv ?_
    refine bj_iload_n (pc := 94) 3 d_R_split_94 rfl rfl ?_
    obtain ⟨n, f, v6, hx, hin, hv, hw⟩ := hw
    refine bj_lald (pc := 95) (n := n) (f := f) d_R_split_95 hx hin hv ?_
    exact m_R_split_96 hR hnx9 hw
  · replace hw := hw.1 hc
    refine bj_aload_n (pc := 74) 0 d_R_split_74 rfl rfl ?_
    obtain ⟨fs, v7, hx, hv, hw⟩ := hw
    refine bj_get (pc := 75) (ci := 7) (k := 20) (fs := fs) (v := .ref v7) d_R_split_75 rfl (by decide) q_768 hx hv ?_
    refine bj_iload_n (pc := 78) 3 d_R_split_78 rfl rfl ?_
    obtain ⟨n, f, v8, hx, hin, hv, hw⟩ := hw
    refine bj_lald (pc := 79) (n := n) (f := f) d_R_split_79 hx hin hv ?_
    refine bj_lconst (pc := 80) (v := 1) d_R_split_80 (by decide) ?_
    refine bj_iload_n (pc := 81) 1 d_R_split_81 rfl rfl ?_
    refine bj_iload (pc := 82) 4 d_R_split_82 rfl ?_
    refine bj_iadd (pc := 84) d_R_split_84 ?_
    refine bj_lshl (pc := 85) d_R_split_85 ?_
    refine bj_lor (pc := 86) d_R_split_86 ?_
    refine bj_goto (pc := 87) (tgt := 96) d_R_split_87 (by decide) ?_
    exact m_R_split_96 hR hnx9 hw
theorem m_R_split_9 {l : Launch} {R : Room} {Φ : bs_R → bs_H → Prop} (hR : bs_rm 3 R) : ∀ (n : Nat) (x0 : Nat) (x1 : Int32) (x2 : Int32) (x3 : Int32) (x4 : Int32) (h : bs_H), w_R_split_9 Φ n x0 x1 x2 x3 x4 h → bs_J l K_R_split R Φ 9 [(0, .ref x0), (1, .int x1), (2, .int x2), (3, .int x3), (4, .int x4)] [] h := by
  intro n
  induction n with
  | zero => intro x0 x1 x2 x3 x4 h hw; exact hw.elim
  | succ n ih =>
    have hnx9 := ih
    intro x0 x1 x2 x3 x4 h hw
    replace hw : w_R_split_9_s Φ (w_R_split_9 Φ n) x0 x1 x2 x3 x4 h := hw
    unfold w_R_split_9_s at hw
    refine bj_iload (pc := 9) 4 d_R_split_9 rfl ?_
    refine bj_iload_n (pc := 11) 2 d_R_split_11 rfl rfl ?_
    refine bj_icmp_ge (pc := 12) (tgt := 174) d_R_split_12 (by decide) (fun hc => ?_) (fun hc => ?_)
    · replace hw := hw.1 hc
      exact bj_vret (pc := 174) d_R_split_174 rfl hw
    · replace hw := hw.2 hc
      refine bj_aload_n (pc := 15) 0 d_R_split_15 rfl rfl ?_
      obtain ⟨fs, v1, hx, hv, hw⟩ := hw
      refine bj_get (pc := 16) (ci := 7) (k := 19) (fs := fs) (v := .ref v1) d_R_split_16 rfl (by decide) q_767 hx hv ?_
      refine bj_iload_n (pc := 19) 3 d_R_split_19 rfl rfl ?_
      refine bj_aload_n (pc := 20) 0 d_R_split_20 rfl rfl ?_
      obtain ⟨fs, v2, hx, hv, hw⟩ := hw
      refine bj_get (pc := 21) (ci := 7) (k := 18) (fs := fs) (v := .ref v2) d_R_split_21 rfl (by decide) q_766 hx hv ?_
      refine bj_iload_n (pc := 24) 1 d_R_split_24 rfl rfl ?_
      refine bj_iload (pc := 25) 4 d_R_split_25 rfl ?_
      refine bj_iadd (pc := 27) d_R_split_27 ?_
      obtain ⟨n, f, v3, hx, hin, hv, hw⟩ := hw
      refine bj_iald (pc := 28) (n := n) (f := f) d_R_split_28 hx hin hv ?_
      refine bj_iconst (pc := 29) (v := 2) d_R_split_29 (by decide) ?_
      refine bj_icmp_ne (pc := 30) (tgt := 49) d_R_split_30 (by decide) (fun hc => ?_) (fun hc => ?_)
      · replace hw := hw.2 hc
        refine bj_aload_n (pc := 49) 0 d_R_split_49 rfl rfl ?_
        obtain ⟨fs, v4, hx, hv, hw⟩ := hw
        refine bj_get (pc := 50) (ci := 7) (k := 19) (fs := fs) (v := .ref v4) d_R_split_50 rfl (by decide) q_767 hx hv ?_
        refine bj_iload_n (pc := 53) 3 d_R_split_53 rfl rfl ?_
        obtain ⟨n, f, v5, hx, hin, hv, hw⟩ := hw
        refine bj_lald (pc := 54) (n := n) (f := f) d_R_split_54 hx hin hv ?_
        exact m_R_split_55 hR hnx9 hw
      · replace hw := hw.1 hc
        refine bj_aload_n (pc := 33) 0 d_R_split_33 rfl rfl ?_
        obtain ⟨fs, v6, hx, hv, hw⟩ := hw
        refine bj_get (pc := 34) (ci := 7) (k := 19) (fs := fs) (v := .ref v6) d_R_split_34 rfl (by decide) q_767 hx hv ?_
        refine bj_iload_n (pc := 37) 3 d_R_split_37 rfl rfl ?_
        obtain ⟨n, f, v7, hx, hin, hv, hw⟩ := hw
        refine bj_lald (pc := 38) (n := n) (f := f) d_R_split_38 hx hin hv ?_
        refine bj_lconst (pc := 39) (v := 1) d_R_split_39 (by decide) ?_
        refine bj_iload_n (pc := 40) 1 d_R_split_40 rfl rfl ?_
        refine bj_iload (pc := 41) 4 d_R_split_41 rfl ?_
        refine bj_iadd (pc := 43) d_R_split_43 ?_
        refine bj_lshl (pc := 44) d_R_split_44 ?_
        refine bj_lor (pc := 45) d_R_split_45 ?_
        refine bj_goto (pc := 46) (tgt := 55) d_R_split_46 (by decide) ?_
        exact m_R_split_55 hR hnx9 hw
theorem m_R_split {l : Launch} {R : Room} (hR : bs_rm 3 R) {Φ : bs_R → bs_H → Prop} {x0 : Nat} {x1 : Int32} {x2 : Int32} {x3 : Int32} {h : bs_H} (hw : w_R_split Φ x0 x1 x2 x3 h) : bs_J l K_R_split R Φ 0 [(0, .ref x0), (1, .int x1), (2, .int x2), (3, .int x3)] [] h := by
  unfold w_R_split at hw
  refine bj_aload_n (pc := 0) 0 d_R_split_0 rfl rfl ?_
  refine bj_iload_n (pc := 1) 1 d_R_split_1 rfl rfl ?_
  refine bj_iload_n (pc := 2) 2 d_R_split_2 rfl rfl ?_
  obtain ⟨⟨fs, hx⟩, hw⟩ := hw
  refine bj_callV (pc := 3) (np := 2) (K' := K_R_decide) (argsL := [.int x1, .int x2]) (st := []) (d1 := 2) (ci := 7) (fs := fs) rfl d_R_split_3 (Or.inl q_879) q_881 rfl q_31 c_R_decide n_R_decide hR (by decide) (by decide) rfl (Nat.le_of_ble_eq_true rfl) rfl (Nat.le_of_ble_eq_true rfl) hx (fun R' hR' => m_R_decide hR' hw) (bs_kV_ok fun h1 hw => ?_) (fun _ _ z => z)
  refine bj_iconst (pc := 6) (v := 0) d_R_split_6 (by decide) ?_
  refine bj_istore (pc := 7) (lo' := [(4, .int 0), (0, .ref x0), (1, .int x1), (2, .int x2), (3, .int x3)]) d_R_split_7 (by decide) rfl ?_
  refine bj_sub [1, 2, 3, 4, 0] (lo' := [(0, .ref x0), (1, .int x1), (2, .int x2), (3, .int x3), (4, .int 0)]) rfl ?_
  exact m_R_split_9 hR 1000 _ _ _ _ _ _ hw
