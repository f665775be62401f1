/-! Decode rows, meanings and rows of: S_perform, S_trace, S_hasOne, S_isRight, B_check, R_check, S_setOf, B_origins, L_origins, R_origins, B_constant, L_constant, R_constant, P_allTicks, B_ticks, R_ticks, M_becomeCopy, B_keep, L_keep. Written by program. -/
theorem d_S_perform_0 : decode prog_6_method_6_code 0 = .ok (.iload_n 1, 1) := by decide +kernel
theorem d_S_perform_1 : decode prog_6_method_6_code 1 = .ok (.tableswitch 123 0 7 #[47, 55, 63, 71, 82, 95, 104, 115], 47) := by decide +kernel
theorem d_S_perform_48 : decode prog_6_method_6_code 48 = .ok (.aload_n 0, 1) := by decide +kernel
theorem d_S_perform_49 : decode prog_6_method_6_code 49 = .ok (.iload_n 2, 1) := by decide +kernel
theorem d_S_perform_50 : decode prog_6_method_6_code 50 = .ok (.invokevirtual 58, 3) := by decide +kernel
theorem d_S_perform_53 : decode prog_6_method_6_code 53 = .ok (.goto 76, 3) := by decide +kernel
theorem d_S_perform_56 : decode prog_6_method_6_code 56 = .ok (.aload_n 0, 1) := by decide +kernel
theorem d_S_perform_57 : decode prog_6_method_6_code 57 = .ok (.iload_n 2, 1) := by decide +kernel
theorem d_S_perform_58 : decode prog_6_method_6_code 58 = .ok (.invokevirtual 62, 3) := by decide +kernel
theorem d_S_perform_61 : decode prog_6_method_6_code 61 = .ok (.goto 68, 3) := by decide +kernel
theorem d_S_perform_64 : decode prog_6_method_6_code 64 = .ok (.aload_n 0, 1) := by decide +kernel
theorem d_S_perform_65 : decode prog_6_method_6_code 65 = .ok (.lload_n 3, 1) := by decide +kernel
theorem d_S_perform_66 : decode prog_6_method_6_code 66 = .ok (.invokevirtual 65, 3) := by decide +kernel
theorem d_S_perform_69 : decode prog_6_method_6_code 69 = .ok (.goto 60, 3) := by decide +kernel
theorem d_S_perform_72 : decode prog_6_method_6_code 72 = .ok (.aload_n 0, 1) := by decide +kernel
theorem d_S_perform_73 : decode prog_6_method_6_code 73 = .ok (.aload_n 0, 1) := by decide +kernel
theorem d_S_perform_74 : decode prog_6_method_6_code 74 = .ok (.getfield 15, 3) := by decide +kernel
theorem d_S_perform_77 : decode prog_6_method_6_code 77 = .ok (.invokevirtual 69, 3) := by decide +kernel
theorem d_S_perform_80 : decode prog_6_method_6_code 80 = .ok (.goto 49, 3) := by decide +kernel
theorem d_S_perform_83 : decode prog_6_method_6_code 83 = .ok (.aload_n 0, 1) := by decide +kernel
theorem d_S_perform_84 : decode prog_6_method_6_code 84 = .ok (.dup, 1) := by decide +kernel
theorem d_S_perform_85 : decode prog_6_method_6_code 85 = .ok (.getfield 21, 3) := by decide +kernel
theorem d_S_perform_88 : decode prog_6_method_6_code 88 = .ok (.lload_n 3, 1) := by decide +kernel
theorem d_S_perform_89 : decode prog_6_method_6_code 89 = .ok (.lor, 1) := by decide +kernel
theorem d_S_perform_90 : decode prog_6_method_6_code 90 = .ok (.putfield 21, 3) := by decide +kernel
theorem d_S_perform_93 : decode prog_6_method_6_code 93 = .ok (.goto 36, 3) := by decide +kernel
theorem d_S_perform_96 : decode prog_6_method_6_code 96 = .ok (.aload_n 0, 1) := by decide +kernel
theorem d_S_perform_97 : decode prog_6_method_6_code 97 = .ok (.iload_n 2, 1) := by decide +kernel
theorem d_S_perform_98 : decode prog_6_method_6_code 98 = .ok (.lload_n 3, 1) := by decide +kernel
theorem d_S_perform_99 : decode prog_6_method_6_code 99 = .ok (.invokevirtual 73, 3) := by decide +kernel
theorem d_S_perform_102 : decode prog_6_method_6_code 102 = .ok (.goto 27, 3) := by decide +kernel
theorem d_S_perform_105 : decode prog_6_method_6_code 105 = .ok (.aload_n 0, 1) := by decide +kernel
theorem d_S_perform_106 : decode prog_6_method_6_code 106 = .ok (.aload_n 0, 1) := by decide +kernel
theorem d_S_perform_107 : decode prog_6_method_6_code 107 = .ok (.getfield 9, 3) := by decide +kernel
theorem d_S_perform_110 : decode prog_6_method_6_code 110 = .ok (.invokevirtual 69, 3) := by decide +kernel
theorem d_S_perform_113 : decode prog_6_method_6_code 113 = .ok (.goto 16, 3) := by decide +kernel
theorem d_S_perform_116 : decode prog_6_method_6_code 116 = .ok (.aload_n 0, 1) := by decide +kernel
theorem d_S_perform_117 : decode prog_6_method_6_code 117 = .ok (.lload_n 3, 1) := by decide +kernel
theorem d_S_perform_118 : decode prog_6_method_6_code 118 = .ok (.invokevirtual 77, 3) := by decide +kernel
theorem d_S_perform_121 : decode prog_6_method_6_code 121 = .ok (.goto 8, 3) := by decide +kernel
theorem d_S_perform_124 : decode prog_6_method_6_code 124 = .ok (.aload_n 0, 1) := by decide +kernel
theorem d_S_perform_125 : decode prog_6_method_6_code 125 = .ok (.lload_n 3, 1) := by decide +kernel
theorem d_S_perform_126 : decode prog_6_method_6_code 126 = .ok (.invokevirtual 80, 3) := by decide +kernel
theorem d_S_perform_129 : decode prog_6_method_6_code 129 = .ok (.return_, 1) := by decide +kernel
def w_S_perform_129 (Φ : bs_R → bs_H → Prop) (h : bs_H) : Prop :=
  Φ (.ok none) h
def w_S_perform (Φ : bs_R → bs_H → Prop) (x0 : Nat) (x1 : Int32) (x2 : Int32) (x3 : Int64) (h : bs_H) : Prop :=
  bs_if (x1 = 0) (bs_on h x0 4 (w_S_shift (bs_kV Φ fun h1 => (w_S_perform_129 Φ h1)) x0 x2 h)) (bs_if (x1 = 1) (bs_on h x0 4 (w_S_rotate (bs_kV Φ fun h2 => (w_S_perform_129 Φ h2)) x0 x2 h)) (bs_if (x1 = 2) (bs_on h x0 4 (w_S_clearOutside (bs_kV Φ fun h3 => (w_S_perform_129 Φ h3)) x0 x3 h)) (bs_if (x1 = 3) (bs_fA h x0 4 1 (fun v4 => bs_on h x0 4 (w_S_addToResult (bs_kV Φ fun h5 => (w_S_perform_129 Φ h5)) x0 v4 h))) (bs_if (x1 = 4) (bs_fL h x0 4 3 (fun v6 => bs_p h x0 4 3 (.long (v6 ||| x3)) (fun h7 => w_S_perform_129 Φ h7))) (bs_if (x1 = 5) (bs_on h x0 4 (w_S_swap (bs_kV Φ fun h8 => (w_S_perform_129 Φ h8)) x0 x2 x3 h)) (bs_if (x1 = 6) (bs_fA h x0 4 0 (fun v9 => bs_on h x0 4 (w_S_addToResult (bs_kV Φ fun h10 => (w_S_perform_129 Φ h10)) x0 v9 h))) (bs_if (x1 = 7) (bs_on h x0 4 (w_S_gather (bs_kV Φ fun h11 => (w_S_perform_129 Φ h11)) x0 x3 h)) (bs_on h x0 4 (w_S_scatter (bs_kV Φ fun h12 => (w_S_perform_129 Φ h12)) x0 x3 h)))))))))
theorem m_S_perform_129 {l : Launch} {R : Room} {Φ : bs_R → bs_H → Prop} (hR : bs_rm 3 R) {h : bs_H} (hw : w_S_perform_129 Φ h) : bs_J l K_S_perform R Φ 129 [] [] h := by
  unfold w_S_perform_129 at hw
  exact bj_vret (pc := 129) d_S_perform_129 rfl hw
theorem m_S_perform {l : Launch} {R : Room} (hR : bs_rm 3 R) {Φ : bs_R → bs_H → Prop} {x0 : Nat} {x1 : Int32} {x2 : Int32} {x3 : Int64} {h : bs_H} (hw : w_S_perform Φ x0 x1 x2 x3 h) : bs_J l K_S_perform R Φ 0 [(0, .ref x0), (1, .int x1), (2, .int x2), (3, .long x3)] [] h := by
  unfold w_S_perform at hw
  refine bj_iload_n (pc := 0) 1 d_S_perform_0 rfl rfl ?_
  by_cases hc0 : x1 = 0
  · replace hw := hw.1 hc0
    refine bj_tableIn (pc := 1) (tgt := 48) d_S_perform_1 (by rw [hc0]; decide) (by rw [hc0]; decide) (by rw [hc0]; rfl) (by decide) ?_
    refine bj_aload_n (pc := 48) 0 d_S_perform_48 rfl rfl ?_
    refine bj_iload_n (pc := 49) 2 d_S_perform_49 rfl rfl ?_
    obtain ⟨⟨fs, hx⟩, hw⟩ := hw
    refine bj_callV (pc := 50) (np := 1) (K' := K_S_shift) (argsL := [.int x2]) (st := []) (d1 := 1) (ci := 4) (fs := fs) rfl d_S_perform_50 (Or.inl q_316) q_318 rfl q_5 c_S_shift n_S_shift hR (by decide) (by decide) rfl (Nat.le_of_ble_eq_true rfl) rfl (Nat.le_of_ble_eq_true rfl) hx (fun R' hR' => m_S_shift hR' hw) (bs_kV_ok fun h1 hw => ?_) (fun _ _ z => z)
    refine bj_goto (pc := 53) (tgt := 129) d_S_perform_53 (by decide) ?_
    refine bj_sub [] (lo' := []) rfl ?_
    exact m_S_perform_129 hR hw
  replace hw := hw.2 hc0
  by_cases hc1 : x1 = 1
  · replace hw := hw.1 hc1
    refine bj_tableIn (pc := 1) (tgt := 56) d_S_perform_1 (by rw [hc1]; decide) (by rw [hc1]; decide) (by rw [hc1]; rfl) (by decide) ?_
    refine bj_aload_n (pc := 56) 0 d_S_perform_56 rfl rfl ?_
    refine bj_iload_n (pc := 57) 2 d_S_perform_57 rfl rfl ?_
    obtain ⟨⟨fs, hx⟩, hw⟩ := hw
    refine bj_callV (pc := 58) (np := 1) (K' := K_S_rotate) (argsL := [.int x2]) (st := []) (d1 := 1) (ci := 4) (fs := fs) rfl d_S_perform_58 (Or.inl q_320) q_322 rfl q_6 c_S_rotate n_S_rotate hR (by decide) (by decide) rfl (Nat.le_of_ble_eq_true rfl) rfl (Nat.le_of_ble_eq_true rfl) hx (fun R' hR' => m_S_rotate hR' hw) (bs_kV_ok fun h2 hw => ?_) (fun _ _ z => z)
    refine bj_goto (pc := 61) (tgt := 129) d_S_perform_61 (by decide) ?_
    refine bj_sub [] (lo' := []) rfl ?_
    exact m_S_perform_129 hR hw
  replace hw := hw.2 hc1
  by_cases hc2 : x1 = 2
  · replace hw := hw.1 hc2
    refine bj_tableIn (pc := 1) (tgt := 64) d_S_perform_1 (by rw [hc2]; decide) (by rw [hc2]; decide) (by rw [hc2]; rfl) (by decide) ?_
    refine bj_aload_n (pc := 64) 0 d_S_perform_64 rfl rfl ?_
    refine bj_lload_n (pc := 65) 3 d_S_perform_65 rfl rfl ?_
    obtain ⟨⟨fs, hx⟩, hw⟩ := hw
    refine bj_callV (pc := 66) (np := 1) (K' := K_S_clearOutside) (argsL := [.long x3]) (st := []) (d1 := 2) (ci := 4) (fs := fs) rfl d_S_perform_66 (Or.inl q_324) q_326 rfl q_7 c_S_clearOutside n_S_clearOutside hR (by decide) (by decide) rfl (Nat.le_of_ble_eq_true rfl) rfl (Nat.le_of_ble_eq_true rfl) hx (fun R' hR' => m_S_clearOutside hR' hw) (bs_kV_ok fun h3 hw => ?_) (fun _ _ z => z)
    refine bj_goto (pc := 69) (tgt := 129) d_S_perform_69 (by decide) ?_
    refine bj_sub [] (lo' := []) rfl ?_
    exact m_S_perform_129 hR hw
  replace hw := hw.2 hc2
  by_cases hc3 : x1 = 3
  · replace hw := hw.1 hc3
    refine bj_tableIn (pc := 1) (tgt := 72) d_S_perform_1 (by rw [hc3]; decide) (by rw [hc3]; decide) (by rw [hc3]; rfl) (by decide) ?_
    refine bj_aload_n (pc := 72) 0 d_S_perform_72 rfl rfl ?_
    refine bj_aload_n (pc := 73) 0 d_S_perform_73 rfl rfl ?_
    obtain ⟨fs, v4, hx, hv, hw⟩ := hw
    refine bj_get (pc := 74) (ci := 4) (k := 1) (fs := fs) (v := .ref v4) d_S_perform_74 rfl (by decide) q_133 hx hv ?_
    obtain ⟨⟨fs, hx⟩, hw⟩ := hw
    refine bj_callV (pc := 77) (np := 1) (K' := K_S_addToResult) (argsL := [.ref v4]) (st := []) (d1 := 1) (ci := 4) (fs := fs) rfl d_S_perform_77 (Or.inl q_329) q_331 rfl q_8 c_S_addToResult n_S_addToResult hR (by decide) (by decide) rfl (Nat.le_of_ble_eq_true rfl) rfl (Nat.le_of_ble_eq_true rfl) hx (fun R' hR' => m_S_addToResult hR' hw) (bs_kV_ok fun h5 hw => ?_) (fun _ _ z => z)
    refine bj_goto (pc := 80) (tgt := 129) d_S_perform_80 (by decide) ?_
    refine bj_sub [] (lo' := []) rfl ?_
    exact m_S_perform_129 hR hw
  replace hw := hw.2 hc3
  by_cases hc4 : x1 = 4
  · replace hw := hw.1 hc4
    refine bj_tableIn (pc := 1) (tgt := 83) d_S_perform_1 (by rw [hc4]; decide) (by rw [hc4]; decide) (by rw [hc4]; rfl) (by decide) ?_
    refine bj_aload_n (pc := 83) 0 d_S_perform_83 rfl rfl ?_
    refine bj_dup (pc := 84) d_S_perform_84 rfl ?_
    obtain ⟨fs, v6, hx, hv, hw⟩ := hw
    refine bj_get (pc := 85) (ci := 4) (k := 3) (fs := fs) (v := .long v6) d_S_perform_85 rfl (by decide) q_135 hx hv ?_
    refine bj_lload_n (pc := 88) 3 d_S_perform_88 rfl rfl ?_
    refine bj_lor (pc := 89) d_S_perform_89 ?_
    obtain ⟨fs, hx, hlen, hw⟩ := hw
    refine bj_put (pc := 90) (ci := 4) (k := 3) (fs := fs) (v := (.long (v6 ||| x3))) (ty := .long) d_S_perform_90 rfl (by decide) q_135 rfl (by decide +kernel) rfl rfl hx hlen ?_
    refine bj_goto (pc := 93) (tgt := 129) d_S_perform_93 (by decide) ?_
    refine bj_sub [] (lo' := []) rfl ?_
    exact m_S_perform_129 hR hw
  replace hw := hw.2 hc4
  by_cases hc5 : x1 = 5
  · replace hw := hw.1 hc5
    refine bj_tableIn (pc := 1) (tgt := 96) d_S_perform_1 (by rw [hc5]; decide) (by rw [hc5]; decide) (by rw [hc5]; rfl) (by decide) ?_
    refine bj_aload_n (pc := 96) 0 d_S_perform_96 rfl rfl ?_
    refine bj_iload_n (pc := 97) 2 d_S_perform_97 rfl rfl ?_
    refine bj_lload_n (pc := 98) 3 d_S_perform_98 rfl rfl ?_
    obtain ⟨⟨fs, hx⟩, hw⟩ := hw
    refine bj_callV (pc := 99) (np := 2) (K' := K_S_swap) (argsL := [.int x2, .long x3]) (st := []) (d1 := 2) (ci := 4) (fs := fs) rfl d_S_perform_99 (Or.inl q_333) q_335 rfl q_9 c_S_swap n_S_swap hR (by decide) (by decide) rfl (Nat.le_of_ble_eq_true rfl) rfl (Nat.le_of_ble_eq_true rfl) hx (fun R' hR' => m_S_swap hR' hw) (bs_kV_ok fun h8 hw => ?_) (fun _ _ z => z)
    refine bj_goto (pc := 102) (tgt := 129) d_S_perform_102 (by decide) ?_
    refine bj_sub [] (lo' := []) rfl ?_
    exact m_S_perform_129 hR hw
  replace hw := hw.2 hc5
  by_cases hc6 : x1 = 6
  · replace hw := hw.1 hc6
    refine bj_tableIn (pc := 1) (tgt := 105) d_S_perform_1 (by rw [hc6]; decide) (by rw [hc6]; decide) (by rw [hc6]; rfl) (by decide) ?_
    refine bj_aload_n (pc := 105) 0 d_S_perform_105 rfl rfl ?_
    refine bj_aload_n (pc := 106) 0 d_S_perform_106 rfl rfl ?_
    obtain ⟨fs, v9, hx, hv, hw⟩ := hw
    refine bj_get (pc := 107) (ci := 4) (k := 0) (fs := fs) (v := .ref v9) d_S_perform_107 rfl (by decide) q_132 hx hv ?_
    obtain ⟨⟨fs, hx⟩, hw⟩ := hw
    refine bj_callV (pc := 110) (np := 1) (K' := K_S_addToResult) (argsL := [.ref v9]) (st := []) (d1 := 1) (ci := 4) (fs := fs) rfl d_S_perform_110 (Or.inl q_329) q_331 rfl q_8 c_S_addToResult n_S_addToResult hR (by decide) (by decide) rfl (Nat.le_of_ble_eq_true rfl) rfl (Nat.le_of_ble_eq_true rfl) hx (fun R' hR' => m_S_addToResult hR' hw) (bs_kV_ok fun h10 hw => ?_) (fun _ _ z => z)
    refine bj_goto (pc := 113) (tgt := 129) d_S_perform_113 (by decide) ?_
    refine bj_sub [] (lo' := []) rfl ?_
    exact m_S_perform_129 hR hw
  replace hw := hw.2 hc6
  by_cases hc7 : x1 = 7
  · replace hw := hw.1 hc7
    refine bj_tableIn (pc := 1) (tgt := 116) d_S_perform_1 (by rw [hc7]; decide) (by rw [hc7]; decide) (by rw [hc7]; rfl) (by decide) ?_
    refine bj_aload_n (pc := 116) 0 d_S_perform_116 rfl rfl ?_
    refine bj_lload_n (pc := 117) 3 d_S_perform_117 rfl rfl ?_
    obtain ⟨⟨fs, hx⟩, hw⟩ := hw
    refine bj_callV (pc := 118) (np := 1) (K' := K_S_gather) (argsL := [.long x3]) (st := []) (d1 := 2) (ci := 4) (fs := fs) rfl d_S_perform_118 (Or.inl q_337) q_339 rfl q_10 c_S_gather n_S_gather hR (by decide) (by decide) rfl (Nat.le_of_ble_eq_true rfl) rfl (Nat.le_of_ble_eq_true rfl) hx (fun R' hR' => m_S_gather hR' hw) (bs_kV_ok fun h11 hw => ?_) (fun _ _ z => z)
    refine bj_goto (pc := 121) (tgt := 129) d_S_perform_121 (by decide) ?_
    refine bj_sub [] (lo' := []) rfl ?_
    exact m_S_perform_129 hR hw
  replace hw := hw.2 hc7
  refine bj_tableOut (pc := 1) (tgt := 124) d_S_perform_1 ?_ (by decide) ?_
  · have n0 := lv_neT (k := 0) (a := 0) hc0 (by decide) ; have n1 := lv_neT (k := 1) (a := 1) hc1 (by decide) ; have n2 := lv_neT (k := 2) (a := 2) hc2 (by decide) ; have n3 := lv_neT (k := 3) (a := 3) hc3 (by decide) ; have n4 := lv_neT (k := 4) (a := 4) hc4 (by decide) ; have n5 := lv_neT (k := 5) (a := 5) hc5 (by decide) ; have n6 := lv_neT (k := 6) (a := 6) hc6 (by decide) ; have n7 := lv_neT (k := 7) (a := 7) hc7 (by decide) ; omega
  refine bj_aload_n (pc := 124) 0 d_S_perform_124 rfl rfl ?_
  refine bj_lload_n (pc := 125) 3 d_S_perform_125 rfl rfl ?_
  obtain ⟨⟨fs, hx⟩, hw⟩ := hw
  refine bj_callV (pc := 126) (np := 1) (K' := K_S_scatter) (argsL := [.long x3]) (st := []) (d1 := 2) (ci := 4) (fs := fs) rfl d_S_perform_126 (Or.inl q_341) q_343 rfl q_11 c_S_scatter n_S_scatter hR (by decide) (by decide) rfl (Nat.le_of_ble_eq_true rfl) rfl (Nat.le_of_ble_eq_true rfl) hx (fun R' hR' => m_S_scatter hR' hw) (bs_kV_ok fun h12 hw => ?_) (fun _ _ z => z)
  refine bj_sub [] (lo' := []) rfl ?_
  exact m_S_perform_129 hR hw
theorem d_S_trace_0 : decode prog_6_method_2_code 0 = .ok (.aload_n 0, 1) := by decide +kernel
theorem d_S_trace_1 : decode prog_6_method_2_code 1 = .ok (.iload_n 2, 1) := by decide +kernel
theorem d_S_trace_2 : decode prog_6_method_2_code 2 = .ok (.putfield 25, 3) := by decide +kernel
theorem d_S_trace_5 : decode prog_6_method_2_code 5 = .ok (.aload_n 0, 1) := by decide +kernel
theorem d_S_trace_6 : decode prog_6_method_2_code 6 = .ok (.lconst 0, 1) := by decide +kernel
theorem d_S_trace_7 : decode prog_6_method_2_code 7 = .ok (.putfield 21, 3) := by decide +kernel
theorem d_S_trace_10 : decode prog_6_method_2_code 10 = .ok (.iconst 0, 1) := by decide +kernel
theorem d_S_trace_11 : decode prog_6_method_2_code 11 = .ok (.istore_n 3, 1) := by decide +kernel
theorem d_S_trace_12 : decode prog_6_method_2_code 12 = .ok (.iload_n 3, 1) := by decide +kernel
theorem d_S_trace_13 : decode prog_6_method_2_code 13 = .ok (.aload_n 0, 1) := by decide +kernel
theorem d_S_trace_14 : decode prog_6_method_2_code 14 = .ok (.getfield 25, 3) := by decide +kernel
theorem d_S_trace_17 : decode prog_6_method_2_code 17 = .ok (.if_icmp .ge 32, 3) := by decide +kernel
theorem d_S_trace_20 : decode prog_6_method_2_code 20 = .ok (.aload_n 0, 1) := by decide +kernel
theorem d_S_trace_21 : decode prog_6_method_2_code 21 = .ok (.getfield 9, 3) := by decide +kernel
theorem d_S_trace_24 : decode prog_6_method_2_code 24 = .ok (.iload_n 3, 1) := by decide +kernel
theorem d_S_trace_25 : decode prog_6_method_2_code 25 = .ok (.lconst 1, 1) := by decide +kernel
theorem d_S_trace_26 : decode prog_6_method_2_code 26 = .ok (.iload_n 3, 1) := by decide +kernel
theorem d_S_trace_27 : decode prog_6_method_2_code 27 = .ok (.lshl, 1) := by decide +kernel
theorem d_S_trace_28 : decode prog_6_method_2_code 28 = .ok (.lastore, 1) := by decide +kernel
theorem d_S_trace_29 : decode prog_6_method_2_code 29 = .ok (.aload_n 0, 1) := by decide +kernel
theorem d_S_trace_30 : decode prog_6_method_2_code 30 = .ok (.getfield 15, 3) := by decide +kernel
theorem d_S_trace_33 : decode prog_6_method_2_code 33 = .ok (.iload_n 3, 1) := by decide +kernel
theorem d_S_trace_34 : decode prog_6_method_2_code 34 = .ok (.lconst 0, 1) := by decide +kernel
theorem d_S_trace_35 : decode prog_6_method_2_code 35 = .ok (.lastore, 1) := by decide +kernel
theorem d_S_trace_36 : decode prog_6_method_2_code 36 = .ok (.aload_n 0, 1) := by decide +kernel
theorem d_S_trace_37 : decode prog_6_method_2_code 37 = .ok (.getfield 18, 3) := by decide +kernel
theorem d_S_trace_40 : decode prog_6_method_2_code 40 = .ok (.iload_n 3, 1) := by decide +kernel
theorem d_S_trace_41 : decode prog_6_method_2_code 41 = .ok (.lconst 0, 1) := by decide +kernel
theorem d_S_trace_42 : decode prog_6_method_2_code 42 = .ok (.lastore, 1) := by decide +kernel
theorem d_S_trace_43 : decode prog_6_method_2_code 43 = .ok (.iinc 3 1, 3) := by decide +kernel
theorem d_S_trace_46 : decode prog_6_method_2_code 46 = .ok (.goto (-34), 3) := by decide +kernel
theorem d_S_trace_49 : decode prog_6_method_2_code 49 = .ok (.iconst 0, 1) := by decide +kernel
theorem d_S_trace_50 : decode prog_6_method_2_code 50 = .ok (.istore_n 3, 1) := by decide +kernel
theorem d_S_trace_51 : decode prog_6_method_2_code 51 = .ok (.iload_n 3, 1) := by decide +kernel
theorem d_S_trace_52 : decode prog_6_method_2_code 52 = .ok (.aload_n 1, 1) := by decide +kernel
theorem d_S_trace_53 : decode prog_6_method_2_code 53 = .ok (.invokevirtual 29, 3) := by decide +kernel
theorem d_S_trace_56 : decode prog_6_method_2_code 56 = .ok (.if_icmp .ge 28, 3) := by decide +kernel
theorem d_S_trace_59 : decode prog_6_method_2_code 59 = .ok (.aload_n 0, 1) := by decide +kernel
theorem d_S_trace_60 : decode prog_6_method_2_code 60 = .ok (.aload_n 1, 1) := by decide +kernel
theorem d_S_trace_61 : decode prog_6_method_2_code 61 = .ok (.iload_n 3, 1) := by decide +kernel
theorem d_S_trace_62 : decode prog_6_method_2_code 62 = .ok (.invokevirtual 35, 3) := by decide +kernel
theorem d_S_trace_65 : decode prog_6_method_2_code 65 = .ok (.aload_n 1, 1) := by decide +kernel
theorem d_S_trace_66 : decode prog_6_method_2_code 66 = .ok (.iload_n 3, 1) := by decide +kernel
theorem d_S_trace_67 : decode prog_6_method_2_code 67 = .ok (.invokevirtual 39, 3) := by decide +kernel
theorem d_S_trace_70 : decode prog_6_method_2_code 70 = .ok (.aload_n 1, 1) := by decide +kernel
theorem d_S_trace_71 : decode prog_6_method_2_code 71 = .ok (.iload_n 3, 1) := by decide +kernel
theorem d_S_trace_72 : decode prog_6_method_2_code 72 = .ok (.invokevirtual 42, 3) := by decide +kernel
theorem d_S_trace_75 : decode prog_6_method_2_code 75 = .ok (.invokevirtual 46, 3) := by decide +kernel
theorem d_S_trace_78 : decode prog_6_method_2_code 78 = .ok (.iinc 3 1, 3) := by decide +kernel
theorem d_S_trace_81 : decode prog_6_method_2_code 81 = .ok (.goto (-30), 3) := by decide +kernel
theorem d_S_trace_84 : decode prog_6_method_2_code 84 = .ok (.return_, 1) := by decide +kernel
def w_S_trace_51_s (Φ : bs_R → bs_H → Prop) (nx51 : Nat → Nat → Int32 → bs_H → Prop) (x0 : Nat) (x1 : Nat) (x3 : Int32) (h : bs_H) : Prop :=
  bs_on h x1 2 (w_P_length (bs_kI Φ fun v1 h2 => (bs_if (v1 ≤ x3) (Φ (.ok none) h2) (bs_on h2 x1 2 (w_P_opAt (bs_kI Φ fun v3 h4 => (bs_on h4 x1 2 (w_P_amountAt (bs_kI Φ fun v5 h6 => (bs_on h6 x1 2 (w_P_maskAt (bs_kL Φ fun v7 h8 => (bs_on h8 x0 4 (w_S_perform (bs_kV Φ fun h9 => (nx51 x0 x1 (x3 + 1) h9)) x0 v3 v5 v7 h8))) x1 x3 h6))) x1 x3 h4))) x1 x3 h2)))) x1 h)
def w_S_trace_51 (Φ : bs_R → bs_H → Prop) : Nat → Nat → Nat → Int32 → bs_H → Prop
  | 0 => fun _ _ _ _ => False
  | n + 1 => fun x0 x1 x3 h => w_S_trace_51_s Φ (w_S_trace_51 Φ n) x0 x1 x3 h
def w_S_trace_12_s (Φ : bs_R → bs_H → Prop) (nx12 : Nat → Nat → Int32 → bs_H → Prop) (x0 : Nat) (x1 : Nat) (x3 : Int32) (h : bs_H) : Prop :=
  bs_fI h x0 4 4 (fun v1 => bs_if (v1 ≤ x3) (w_S_trace_51 Φ 1000 x0 x1 0 h) (bs_fA h x0 4 0 (fun v2 => bs_sL h v2 x3 (bs_shl 1 x3) (fun h3 => bs_fA h3 x0 4 1 (fun v4 => bs_sL h3 v4 x3 0 (fun h5 => bs_fA h5 x0 4 2 (fun v6 => bs_sL h5 v6 x3 0 (fun h7 => nx12 x0 x1 (x3 + 1) h7))))))))
def w_S_trace_12 (Φ : bs_R → bs_H → Prop) : Nat → Nat → Nat → Int32 → bs_H → Prop
  | 0 => fun _ _ _ _ => False
  | n + 1 => fun x0 x1 x3 h => w_S_trace_12_s Φ (w_S_trace_12 Φ n) x0 x1 x3 h
def w_S_trace (Φ : bs_R → bs_H → Prop) (x0 : Nat) (x1 : Nat) (x2 : Int32) (h : bs_H) : Prop :=
  bs_p h x0 4 4 (.int x2) (fun h1 => bs_p h1 x0 4 3 (.long 0) (fun h2 => w_S_trace_12 Φ 1000 x0 x1 0 h2))
theorem m_S_trace_51 {l : Launch} {R : Room} {Φ : bs_R → bs_H → Prop} (hR : bs_rm 4 R) : ∀ (n : Nat) (x0 : Nat) (x1 : Nat) (x3 : Int32) (h : bs_H), w_S_trace_51 Φ n x0 x1 x3 h → bs_J l K_S_trace R Φ 51 [(0, .ref x0), (1, .ref x1), (3, .int x3)] [] h := by
  intro n
  induction n with
  | zero => intro x0 x1 x3 h hw; exact hw.elim
  | succ n ih =>
    have hnx51 := ih
    intro x0 x1 x3 h hw
    replace hw : w_S_trace_51_s Φ (w_S_trace_51 Φ n) x0 x1 x3 h := hw
    unfold w_S_trace_51_s at hw
    refine bj_iload_n (pc := 51) 2 d_S_trace_51 rfl rfl ?_
    refine bj_aload_n (pc := 52) 1 d_S_trace_52 rfl rfl ?_
    obtain ⟨⟨fs, hx⟩, hw⟩ := hw
    refine bj_callV (pc := 53) (np := 0) (K' := K_P_length) (argsL := []) (st := [.int x3]) (d1 := 1) (ci := 2) (fs := fs) rfl d_S_trace_53 (Or.inl q_308) q_229 rfl q_230 c_P_length n_P_length hR (by decide) (by decide) rfl (Nat.le_of_ble_eq_true rfl) rfl (Nat.le_of_ble_eq_true rfl) hx (fun R' hR' => m_P_length hR' hw) (bs_kI_ok fun v1 h2 hw => ?_) (fun _ _ z => z)
    refine bj_icmp_ge (pc := 56) (tgt := 84) d_S_trace_56 (by decide) (fun hc => ?_) (fun hc => ?_)
    · replace hw := hw.1 hc
      exact bj_vret (pc := 84) d_S_trace_84 rfl hw
    · replace hw := hw.2 hc
      refine bj_aload_n (pc := 59) 0 d_S_trace_59 rfl rfl ?_
      refine bj_aload_n (pc := 60) 1 d_S_trace_60 rfl rfl ?_
      refine bj_iload_n (pc := 61) 2 d_S_trace_61 rfl rfl ?_
      obtain ⟨⟨fs, hx⟩, hw⟩ := hw
      refine bj_callV (pc := 62) (np := 1) (K' := K_P_opAt) (argsL := [.int x3]) (st := [.ref x0]) (d1 := 1) (ci := 2) (fs := fs) rfl d_S_trace_62 (Or.inl q_309) q_250 rfl q_251 c_P_opAt n_P_opAt hR (by decide) (by decide) rfl (Nat.le_of_ble_eq_true rfl) rfl (Nat.le_of_ble_eq_true rfl) hx (fun R' hR' => m_P_opAt hR' hw) (bs_kI_ok fun v3 h4 hw => ?_) (fun _ _ z => z)
      refine bj_aload_n (pc := 65) 1 d_S_trace_65 rfl rfl ?_
      refine bj_iload_n (pc := 66) 2 d_S_trace_66 rfl rfl ?_
      obtain ⟨⟨fs, hx⟩, hw⟩ := hw
      refine bj_callV (pc := 67) (np := 1) (K' := K_P_amountAt) (argsL := [.int x3]) (st := [.int v3, .ref x0]) (d1 := 1) (ci := 2) (fs := fs) rfl d_S_trace_67 (Or.inl q_310) q_254 rfl q_255 c_P_amountAt n_P_amountAt hR (by decide) (by decide) rfl (Nat.le_of_ble_eq_true rfl) rfl (Nat.le_of_ble_eq_true rfl) hx (fun R' hR' => m_P_amountAt hR' hw) (bs_kI_ok fun v5 h6 hw => ?_) (fun _ _ z => z)
      refine bj_aload_n (pc := 70) 1 d_S_trace_70 rfl rfl ?_
      refine bj_iload_n (pc := 71) 2 d_S_trace_71 rfl rfl ?_
      obtain ⟨⟨fs, hx⟩, hw⟩ := hw
      refine bj_callV (pc := 72) (np := 1) (K' := K_P_maskAt) (argsL := [.int x3]) (st := [.int v5, .int v3, .ref x0]) (d1 := 1) (ci := 2) (fs := fs) rfl d_S_trace_72 (Or.inl q_311) q_258 rfl q_259 c_P_maskAt n_P_maskAt hR (by decide) (by decide) rfl (Nat.le_of_ble_eq_true rfl) rfl (Nat.le_of_ble_eq_true rfl) hx (fun R' hR' => m_P_maskAt hR' hw) (bs_kL_ok fun v7 h8 hw => ?_) (fun _ _ z => z)
      obtain ⟨⟨fs, hx⟩, hw⟩ := hw
      refine bj_callV (pc := 75) (np := 3) (K' := K_S_perform) (argsL := [.int v3, .int v5, .long v7]) (st := []) (d1 := 3) (ci := 4) (fs := fs) rfl d_S_trace_75 (Or.inl q_312) q_314 rfl q_4 c_S_perform n_S_perform hR (by decide) (by decide) rfl (Nat.le_of_ble_eq_true rfl) rfl (Nat.le_of_ble_eq_true rfl) hx (fun R' hR' => m_S_perform hR' hw) (bs_kV_ok fun h9 hw => ?_) (fun _ _ z => z)
      refine bj_iinc (pc := 78) (v := (x3 + 1)) (lo' := [(3, .int (x3 + 1)), (0, .ref x0), (1, .ref x1)]) 2 d_S_trace_78 rfl rfl (by decide) rfl ?_
      refine bj_goto (pc := 81) (tgt := 51) d_S_trace_81 (by decide) ?_
      refine bj_sub [1, 2, 0] (lo' := [(0, .ref x0), (1, .ref x1), (3, .int (x3 + 1))]) rfl ?_
      exact hnx51 _ _ _ _ hw
theorem m_S_trace_12 {l : Launch} {R : Room} {Φ : bs_R → bs_H → Prop} (hR : bs_rm 4 R) : ∀ (n : Nat) (x0 : Nat) (x1 : Nat) (x3 : Int32) (h : bs_H), w_S_trace_12 Φ n x0 x1 x3 h → bs_J l K_S_trace R Φ 12 [(0, .ref x0), (1, .ref x1), (3, .int x3)] [] h := by
  intro n
  induction n with
  | zero => intro x0 x1 x3 h hw; exact hw.elim
  | succ n ih =>
    have hnx12 := ih
    intro x0 x1 x3 h hw
    replace hw : w_S_trace_12_s Φ (w_S_trace_12 Φ n) x0 x1 x3 h := hw
    unfold w_S_trace_12_s at hw
    refine bj_iload_n (pc := 12) 2 d_S_trace_12 rfl rfl ?_
    refine bj_aload_n (pc := 13) 0 d_S_trace_13 rfl rfl ?_
    obtain ⟨fs, v1, hx, hv, hw⟩ := hw
    refine bj_get (pc := 14) (ci := 4) (k := 4) (fs := fs) (v := .int v1) d_S_trace_14 rfl (by decide) q_136 hx hv ?_
    refine bj_icmp_ge (pc := 17) (tgt := 49) d_S_trace_17 (by decide) (fun hc => ?_) (fun hc => ?_)
    · replace hw := hw.1 hc
      refine bj_iconst (pc := 49) (v := 0) d_S_trace_49 (by decide) ?_
      refine bj_istore_n (pc := 50) (lo' := [(3, .int 0), (0, .ref x0), (1, .ref x1)]) d_S_trace_50 rfl (by decide) rfl ?_
      refine bj_sub [1, 2, 0] (lo' := [(0, .ref x0), (1, .ref x1), (3, .int 0)]) rfl ?_
      exact m_S_trace_51 hR 1000 _ _ _ _ hw
    · replace hw := hw.2 hc
      refine bj_aload_n (pc := 20) 0 d_S_trace_20 rfl rfl ?_
      obtain ⟨fs, v2, hx, hv, hw⟩ := hw
      refine bj_get (pc := 21) (ci := 4) (k := 0) (fs := fs) (v := .ref v2) d_S_trace_21 rfl (by decide) q_132 hx hv ?_
      refine bj_iload_n (pc := 24) 2 d_S_trace_24 rfl rfl ?_
      refine bj_lconst (pc := 25) (v := 1) d_S_trace_25 (by decide) ?_
      refine bj_iload_n (pc := 26) 2 d_S_trace_26 rfl rfl ?_
      refine bj_lshl (pc := 27) d_S_trace_27 ?_
      obtain ⟨n, f, hx, hin, hw⟩ := hw
      refine bj_last (pc := 28) (n := n) (f := f) d_S_trace_28 hx hin ?_
      refine bj_aload_n (pc := 29) 0 d_S_trace_29 rfl rfl ?_
      obtain ⟨fs, v4, hx, hv, hw⟩ := hw
      refine bj_get (pc := 30) (ci := 4) (k := 1) (fs := fs) (v := .ref v4) d_S_trace_30 rfl (by decide) q_133 hx hv ?_
      refine bj_iload_n (pc := 33) 2 d_S_trace_33 rfl rfl ?_
      refine bj_lconst (pc := 34) (v := 0) d_S_trace_34 (by decide) ?_
      obtain ⟨n, f, hx, hin, hw⟩ := hw
      refine bj_last (pc := 35) (n := n) (f := f) d_S_trace_35 hx hin ?_
      refine bj_aload_n (pc := 36) 0 d_S_trace_36 rfl rfl ?_
      obtain ⟨fs, v6, hx, hv, hw⟩ := hw
      refine bj_get (pc := 37) (ci := 4) (k := 2) (fs := fs) (v := .ref v6) d_S_trace_37 rfl (by decide) q_134 hx hv ?_
      refine bj_iload_n (pc := 40) 2 d_S_trace_40 rfl rfl ?_
      refine bj_lconst (pc := 41) (v := 0) d_S_trace_41 (by decide) ?_
      obtain ⟨n, f, hx, hin, hw⟩ := hw
      refine bj_last (pc := 42) (n := n) (f := f) d_S_trace_42 hx hin ?_
      refine bj_iinc (pc := 43) (v := (x3 + 1)) (lo' := [(3, .int (x3 + 1)), (0, .ref x0), (1, .ref x1)]) 2 d_S_trace_43 rfl rfl (by decide) rfl ?_
      refine bj_goto (pc := 46) (tgt := 12) d_S_trace_46 (by decide) ?_
      refine bj_sub [1, 2, 0] (lo' := [(0, .ref x0), (1, .ref x1), (3, .int (x3 + 1))]) rfl ?_
      exact hnx12 _ _ _ _ hw
theorem m_S_trace {l : Launch} {R : Room} (hR : bs_rm 4 R) {Φ : bs_R → bs_H → Prop} {x0 : Nat} {x1 : Nat} {x2 : Int32} {h : bs_H} (hw : w_S_trace Φ x0 x1 x2 h) : bs_J l K_S_trace R Φ 0 [(0, .ref x0), (1, .ref x1), (2, .int x2)] [] h := by
  unfold w_S_trace at hw
  refine bj_aload_n (pc := 0) 0 d_S_trace_0 rfl rfl ?_
  refine bj_iload_n (pc := 1) 2 d_S_trace_1 rfl rfl ?_
  obtain ⟨fs, hx, hlen, hw⟩ := hw
  refine bj_put (pc := 2) (ci := 4) (k := 4) (fs := fs) (v := (.int x2)) (ty := .int) d_S_trace_2 rfl (by decide) q_136 rfl (by decide +kernel) rfl rfl hx hlen ?_
  refine bj_aload_n (pc := 5) 0 d_S_trace_5 rfl rfl ?_
  refine bj_lconst (pc := 6) (v := 0) d_S_trace_6 (by decide) ?_
  obtain ⟨fs, hx, hlen, hw⟩ := hw
  refine bj_put (pc := 7) (ci := 4) (k := 3) (fs := fs) (v := (.long 0)) (ty := .long) d_S_trace_7 rfl (by decide) q_135 rfl (by decide +kernel) rfl rfl hx hlen ?_
  refine bj_iconst (pc := 10) (v := 0) d_S_trace_10 (by decide) ?_
  refine bj_istore_n (pc := 11) (lo' := [(3, .int 0), (0, .ref x0), (1, .ref x1), (2, .int x2)]) d_S_trace_11 rfl (by decide) rfl ?_
  refine bj_sub [1, 2, 0] (lo' := [(0, .ref x0), (1, .ref x1), (3, .int 0)]) rfl ?_
  exact m_S_trace_12 hR 1000 _ _ _ _ hw
theorem d_S_hasOne_0 : decode prog_6_method_4_code 0 = .ok (.aload_n 0, 1) := by decide +kernel
theorem d_S_hasOne_1 : decode prog_6_method_4_code 1 = .ok (.getfield 21, 3) := by decide +kernel
theorem d_S_hasOne_4 : decode prog_6_method_4_code 4 = .ok (.iload_n 1, 1) := by decide +kernel
theorem d_S_hasOne_5 : decode prog_6_method_4_code 5 = .ok (.invokestatic 50, 3) := by decide +kernel
theorem d_S_hasOne_8 : decode prog_6_method_4_code 8 = .ok (.ireturn, 1) := by decide +kernel
def w_S_hasOne (Φ : bs_R → bs_H → Prop) (x0 : Nat) (x1 : Int32) (h : bs_H) : Prop :=
  bs_fL h x0 4 3 (fun v1 => w_B_holds (bs_kI Φ fun v2 h3 => (bs_rZ Φ v2 h3)) v1 x1 h)
theorem m_S_hasOne {l : Launch} {R : Room} (hR : bs_rm 2 R) {Φ : bs_R → bs_H → Prop} {x0 : Nat} {x1 : Int32} {h : bs_H} (hw : w_S_hasOne Φ x0 x1 h) : bs_J l K_S_hasOne R Φ 0 [(0, .ref x0), (1, .int x1)] [] h := by
  unfold w_S_hasOne at hw
  refine bj_aload_n (pc := 0) 0 d_S_hasOne_0 rfl rfl ?_
  obtain ⟨fs, v1, hx, hv, hw⟩ := hw
  refine bj_get (pc := 1) (ci := 4) (k := 3) (fs := fs) (v := .long v1) d_S_hasOne_1 rfl (by decide) q_135 hx hv ?_
  refine bj_iload_n (pc := 4) 1 d_S_hasOne_4 rfl rfl ?_
  refine bj_callS (pc := 5) (np := 2) (K' := K_B_holds) (argsL := [.long v1, .int x1]) (st := []) (d1 := 1) rfl d_S_hasOne_5 (Or.inr ⟨_, q_328⟩) q_277 q_46 c_B_holds n_B_holds hR (by decide) (by decide) rfl (Nat.le_of_ble_eq_true rfl) rfl (Nat.le_of_ble_eq_true rfl) (fun R' hR' => m_B_holds hR' hw) (bs_kI_ok fun v2 h3 hw => ?_) (fun _ _ z => z)
  exact bj_zret (pc := 8) d_S_hasOne_8 rfl hw.1 hw.2
theorem d_S_isRight_0 : decode prog_6_method_5_code 0 = .ok (.iload_n 2, 1) := by decide +kernel
theorem d_S_isRight_1 : decode prog_6_method_5_code 1 = .ok (.bipush 65, 2) := by decide +kernel
theorem d_S_isRight_3 : decode prog_6_method_5_code 3 = .ok (.if_icmp .ne 9, 3) := by decide +kernel
theorem d_S_isRight_6 : decode prog_6_method_5_code 6 = .ok (.aload_n 0, 1) := by decide +kernel
theorem d_S_isRight_7 : decode prog_6_method_5_code 7 = .ok (.iload_n 1, 1) := by decide +kernel
theorem d_S_isRight_8 : decode prog_6_method_5_code 8 = .ok (.invokevirtual 54, 3) := by decide +kernel
theorem d_S_isRight_11 : decode prog_6_method_5_code 11 = .ok (.ireturn, 1) := by decide +kernel
theorem d_S_isRight_12 : decode prog_6_method_5_code 12 = .ok (.iload_n 2, 1) := by decide +kernel
theorem d_S_isRight_13 : decode prog_6_method_5_code 13 = .ok (.bipush 64, 2) := by decide +kernel
theorem d_S_isRight_15 : decode prog_6_method_5_code 15 = .ok (.if_icmp .ne 7, 3) := by decide +kernel
theorem d_S_isRight_18 : decode prog_6_method_5_code 18 = .ok (.lconst 0, 1) := by decide +kernel
theorem d_S_isRight_19 : decode prog_6_method_5_code 19 = .ok (.goto 6, 3) := by decide +kernel
theorem d_S_isRight_22 : decode prog_6_method_5_code 22 = .ok (.lconst 1, 1) := by decide +kernel
theorem d_S_isRight_23 : decode prog_6_method_5_code 23 = .ok (.iload_n 2, 1) := by decide +kernel
theorem d_S_isRight_24 : decode prog_6_method_5_code 24 = .ok (.lshl, 1) := by decide +kernel
theorem d_S_isRight_25 : decode prog_6_method_5_code 25 = .ok (.lstore_n 3, 1) := by decide +kernel
theorem d_S_isRight_26 : decode prog_6_method_5_code 26 = .ok (.aload_n 0, 1) := by decide +kernel
theorem d_S_isRight_27 : decode prog_6_method_5_code 27 = .ok (.getfield 18, 3) := by decide +kernel
theorem d_S_isRight_30 : decode prog_6_method_5_code 30 = .ok (.iload_n 1, 1) := by decide +kernel
theorem d_S_isRight_31 : decode prog_6_method_5_code 31 = .ok (.laload, 1) := by decide +kernel
theorem d_S_isRight_32 : decode prog_6_method_5_code 32 = .ok (.lload_n 3, 1) := by decide +kernel
theorem d_S_isRight_33 : decode prog_6_method_5_code 33 = .ok (.lcmp, 1) := by decide +kernel
theorem d_S_isRight_34 : decode prog_6_method_5_code 34 = .ok (.ifCond .ne 15, 3) := by decide +kernel
theorem d_S_isRight_37 : decode prog_6_method_5_code 37 = .ok (.aload_n 0, 1) := by decide +kernel
theorem d_S_isRight_38 : decode prog_6_method_5_code 38 = .ok (.iload_n 1, 1) := by decide +kernel
theorem d_S_isRight_39 : decode prog_6_method_5_code 39 = .ok (.invokevirtual 54, 3) := by decide +kernel
theorem d_S_isRight_42 : decode prog_6_method_5_code 42 = .ok (.ifCond .ne 7, 3) := by decide +kernel
theorem d_S_isRight_45 : decode prog_6_method_5_code 45 = .ok (.iconst 1, 1) := by decide +kernel
theorem d_S_isRight_46 : decode prog_6_method_5_code 46 = .ok (.goto 4, 3) := by decide +kernel
theorem d_S_isRight_49 : decode prog_6_method_5_code 49 = .ok (.iconst 0, 1) := by decide +kernel
theorem d_S_isRight_50 : decode prog_6_method_5_code 50 = .ok (.ireturn, 1) := by decide +kernel
def w_S_isRight_50 (Φ : bs_R → bs_H → Prop) (s0 : Int32) (h : bs_H) : Prop :=
  bs_rZ Φ s0 h
def w_S_isRight_49 (Φ : bs_R → bs_H → Prop) (h : bs_H) : Prop :=
  w_S_isRight_50 Φ 0 h
def w_S_isRight_25 (Φ : bs_R → bs_H → Prop) (x0 : Nat) (x1 : Int32) (s0 : Int64) (h : bs_H) : Prop :=
  bs_fA h x0 4 2 (fun v1 => bs_lL h v1 x1 (fun v2 => bs_if (v2 = s0) (bs_on h x0 4 (w_S_hasOne (bs_kI Φ fun v3 h4 => (bs_if (v3 = 0) (w_S_isRight_50 Φ 1 h4) (w_S_isRight_49 Φ h4))) x0 x1 h)) (w_S_isRight_49 Φ h)))
def w_S_isRight (Φ : bs_R → bs_H → Prop) (x0 : Nat) (x1 : Int32) (x2 : Int32) (h : bs_H) : Prop :=
  bs_if (x2 = 65) (bs_on h x0 4 (w_S_hasOne (bs_kI Φ fun v1 h2 => (bs_rZ Φ v1 h2)) x0 x1 h)) (bs_if (x2 = 64) (w_S_isRight_25 Φ x0 x1 0 h) (w_S_isRight_25 Φ x0 x1 (bs_shl 1 x2) h))
theorem m_S_isRight_50 {l : Launch} {R : Room} {Φ : bs_R → bs_H → Prop} (hR : bs_rm 3 R) {s0 : Int32} {h : bs_H} (hw : w_S_isRight_50 Φ s0 h) : bs_J l K_S_isRight R Φ 50 [] [.int s0] h := by
  unfold w_S_isRight_50 at hw
  exact bj_zret (pc := 50) d_S_isRight_50 rfl hw.1 hw.2
theorem m_S_isRight_49 {l : Launch} {R : Room} {Φ : bs_R → bs_H → Prop} (hR : bs_rm 3 R) {h : bs_H} (hw : w_S_isRight_49 Φ h) : bs_J l K_S_isRight R Φ 49 [] [] h := by
  unfold w_S_isRight_49 at hw
  refine bj_iconst (pc := 49) (v := 0) d_S_isRight_49 (by decide) ?_
  exact m_S_isRight_50 hR hw
theorem m_S_isRight_25 {l : Launch} {R : Room} {Φ : bs_R → bs_H → Prop} (hR : bs_rm 3 R) {x0 : Nat} {x1 : Int32} {s0 : Int64} {h : bs_H} (hw : w_S_isRight_25 Φ x0 x1 s0 h) : bs_J l K_S_isRight R Φ 25 [(0, .ref x0), (1, .int x1)] [.long s0] h := by
  unfold w_S_isRight_25 at hw
  refine bj_lstore_n (pc := 25) (lo' := [(3, .long s0), (0, .ref x0), (1, .int x1)]) d_S_isRight_25 rfl (by decide) rfl ?_
  refine bj_aload_n (pc := 26) 1 d_S_isRight_26 rfl rfl ?_
  obtain ⟨fs, v1, hx, hv, hw⟩ := hw
  refine bj_get (pc := 27) (ci := 4) (k := 2) (fs := fs) (v := .ref v1) d_S_isRight_27 rfl (by decide) q_134 hx hv ?_
  refine bj_iload_n (pc := 30) 2 d_S_isRight_30 rfl rfl ?_
  obtain ⟨n, f, v2, hx, hin, hv, hw⟩ := hw
  refine bj_lald (pc := 31) (n := n) (f := f) d_S_isRight_31 hx hin hv ?_
  refine bj_lload_n (pc := 32) 0 d_S_isRight_32 rfl rfl ?_
  refine bj_lc_ne (pc := 33) (tgt := 49) d_S_isRight_33 d_S_isRight_34 (by decide) (fun hc => ?_) (fun hc => ?_)
  · replace hw := hw.2 hc
    refine bj_sub [] (lo' := []) rfl ?_
    exact m_S_isRight_49 hR hw
  · replace hw := hw.1 hc
    refine bj_aload_n (pc := 37) 1 d_S_isRight_37 rfl rfl ?_
    refine bj_iload_n (pc := 38) 2 d_S_isRight_38 rfl rfl ?_
    obtain ⟨⟨fs, hx⟩, hw⟩ := hw
    refine bj_callV (pc := 39) (np := 1) (K' := K_S_hasOne) (argsL := [.int x1]) (st := []) (d1 := 2) (ci := 4) (fs := fs) rfl d_S_isRight_39 (Or.inl q_359) q_360 rfl q_361 c_S_hasOne n_S_hasOne hR (by decide) (by decide) rfl (Nat.le_of_ble_eq_true rfl) rfl (Nat.le_of_ble_eq_true rfl) hx (fun R' hR' => m_S_hasOne hR' hw) (bs_kI_ok fun v3 h4 hw => ?_) (fun _ _ z => z)
    refine bj_if_ne (pc := 42) (tgt := 49) d_S_isRight_42 (by decide) (fun hc => ?_) (fun hc => ?_)
    · replace hw := hw.2 hc
      refine bj_sub [] (lo' := []) rfl ?_
      exact m_S_isRight_49 hR hw
    · replace hw := hw.1 hc
      refine bj_iconst (pc := 45) (v := 1) d_S_isRight_45 (by decide) ?_
      refine bj_goto (pc := 46) (tgt := 50) d_S_isRight_46 (by decide) ?_
      refine bj_sub [] (lo' := []) rfl ?_
      exact m_S_isRight_50 hR hw
theorem m_S_isRight {l : Launch} {R : Room} (hR : bs_rm 3 R) {Φ : bs_R → bs_H → Prop} {x0 : Nat} {x1 : Int32} {x2 : Int32} {h : bs_H} (hw : w_S_isRight Φ x0 x1 x2 h) : bs_J l K_S_isRight R Φ 0 [(0, .ref x0), (1, .int x1), (2, .int x2)] [] h := by
  unfold w_S_isRight at hw
  refine bj_iload_n (pc := 0) 2 d_S_isRight_0 rfl rfl ?_
  refine bj_bipush (pc := 1) (v := 65) d_S_isRight_1 (by decide) ?_
  refine bj_icmp_ne (pc := 3) (tgt := 12) d_S_isRight_3 (by decide) (fun hc => ?_) (fun hc => ?_)
  · replace hw := hw.2 hc
    refine bj_iload_n (pc := 12) 2 d_S_isRight_12 rfl rfl ?_
    refine bj_bipush (pc := 13) (v := 64) d_S_isRight_13 (by decide) ?_
    refine bj_icmp_ne (pc := 15) (tgt := 22) d_S_isRight_15 (by decide) (fun hc => ?_) (fun hc => ?_)
    · replace hw := hw.2 hc
      refine bj_lconst (pc := 22) (v := 1) d_S_isRight_22 (by decide) ?_
      refine bj_iload_n (pc := 23) 2 d_S_isRight_23 rfl rfl ?_
      refine bj_lshl (pc := 24) d_S_isRight_24 ?_
      refine bj_sub [0, 1] (lo' := [(0, .ref x0), (1, .int x1)]) rfl ?_
      exact m_S_isRight_25 hR hw
    · replace hw := hw.1 hc
      refine bj_lconst (pc := 18) (v := 0) d_S_isRight_18 (by decide) ?_
      refine bj_goto (pc := 19) (tgt := 25) d_S_isRight_19 (by decide) ?_
      refine bj_sub [0, 1] (lo' := [(0, .ref x0), (1, .int x1)]) rfl ?_
      exact m_S_isRight_25 hR hw
  · replace hw := hw.1 hc
    refine bj_aload_n (pc := 6) 0 d_S_isRight_6 rfl rfl ?_
    refine bj_iload_n (pc := 7) 1 d_S_isRight_7 rfl rfl ?_
    obtain ⟨⟨fs, hx⟩, hw⟩ := hw
    refine bj_callV (pc := 8) (np := 1) (K' := K_S_hasOne) (argsL := [.int x1]) (st := []) (d1 := 2) (ci := 4) (fs := fs) rfl d_S_isRight_8 (Or.inl q_359) q_360 rfl q_361 c_S_hasOne n_S_hasOne hR (by decide) (by decide) rfl (Nat.le_of_ble_eq_true rfl) rfl (Nat.le_of_ble_eq_true rfl) hx (fun R' hR' => m_S_hasOne hR' hw) (bs_kI_ok fun v1 h2 hw => ?_) (fun _ _ z => z)
    exact bj_zret (pc := 11) d_S_isRight_11 rfl hw.1 hw.2
theorem d_B_check_0 : decode prog_1_method_12_code 0 = .ok (.aload_n 0, 1) := by decide +kernel
theorem d_B_check_1 : decode prog_1_method_12_code 1 = .ok (.getfield 44, 3) := by decide +kernel
theorem d_B_check_4 : decode prog_1_method_12_code 4 = .ok (.aload_n 0, 1) := by decide +kernel
theorem d_B_check_5 : decode prog_1_method_12_code 5 = .ok (.getfield 30, 3) := by decide +kernel
theorem d_B_check_8 : decode prog_1_method_12_code 8 = .ok (.aload_n 0, 1) := by decide +kernel
theorem d_B_check_9 : decode prog_1_method_12_code 9 = .ok (.getfield 12, 3) := by decide +kernel
theorem d_B_check_12 : decode prog_1_method_12_code 12 = .ok (.invokevirtual 91, 3) := by decide +kernel
theorem d_B_check_15 : decode prog_1_method_12_code 15 = .ok (.invokevirtual 144, 3) := by decide +kernel
theorem d_B_check_18 : decode prog_1_method_12_code 18 = .ok (.iconst 0, 1) := by decide +kernel
theorem d_B_check_19 : decode prog_1_method_12_code 19 = .ok (.istore_n 1, 1) := by decide +kernel
theorem d_B_check_20 : decode prog_1_method_12_code 20 = .ok (.iload_n 1, 1) := by decide +kernel
theorem d_B_check_21 : decode prog_1_method_12_code 21 = .ok (.aload_n 0, 1) := by decide +kernel
theorem d_B_check_22 : decode prog_1_method_12_code 22 = .ok (.getfield 12, 3) := by decide +kernel
theorem d_B_check_25 : decode prog_1_method_12_code 25 = .ok (.invokevirtual 91, 3) := by decide +kernel
theorem d_B_check_28 : decode prog_1_method_12_code 28 = .ok (.if_icmp .ge 32, 3) := by decide +kernel
theorem d_B_check_31 : decode prog_1_method_12_code 31 = .ok (.aload_n 0, 1) := by decide +kernel
theorem d_B_check_32 : decode prog_1_method_12_code 32 = .ok (.getfield 44, 3) := by decide +kernel
theorem d_B_check_35 : decode prog_1_method_12_code 35 = .ok (.iload_n 1, 1) := by decide +kernel
theorem d_B_check_36 : decode prog_1_method_12_code 36 = .ok (.aload_n 0, 1) := by decide +kernel
theorem d_B_check_37 : decode prog_1_method_12_code 37 = .ok (.getfield 12, 3) := by decide +kernel
theorem d_B_check_40 : decode prog_1_method_12_code 40 = .ok (.iload_n 1, 1) := by decide +kernel
theorem d_B_check_41 : decode prog_1_method_12_code 41 = .ok (.invokevirtual 83, 3) := by decide +kernel
theorem d_B_check_44 : decode prog_1_method_12_code 44 = .ok (.invokevirtual 148, 3) := by decide +kernel
theorem d_B_check_47 : decode prog_1_method_12_code 47 = .ok (.ifCond .ne 7, 3) := by decide +kernel
theorem d_B_check_50 : decode prog_1_method_12_code 50 = .ok (.iload_n 1, 1) := by decide +kernel
theorem d_B_check_51 : decode prog_1_method_12_code 51 = .ok (.iconst 1, 1) := by decide +kernel
theorem d_B_check_52 : decode prog_1_method_12_code 52 = .ok (.iadd, 1) := by decide +kernel
theorem d_B_check_53 : decode prog_1_method_12_code 53 = .ok (.ireturn, 1) := by decide +kernel
theorem d_B_check_54 : decode prog_1_method_12_code 54 = .ok (.iinc 1 1, 3) := by decide +kernel
theorem d_B_check_57 : decode prog_1_method_12_code 57 = .ok (.goto (-37), 3) := by decide +kernel
theorem d_B_check_60 : decode prog_1_method_12_code 60 = .ok (.iconst 0, 1) := by decide +kernel
theorem d_B_check_61 : decode prog_1_method_12_code 61 = .ok (.ireturn, 1) := by decide +kernel
def w_B_check_20_s (Φ : bs_R → bs_H → Prop) (nx20 : Nat → Int32 → bs_H → Prop) (x0 : Nat) (x1 : Int32) (h : bs_H) : Prop :=
  bs_fA h x0 0 0 (fun v1 => bs_on h v1 1 (w_M_bits (bs_kI Φ fun v2 h3 => (bs_if (v2 ≤ x1) (Φ (.ok (some (.int 0))) h3) (bs_fA h3 x0 0 6 (fun v4 => bs_fA h3 x0 0 0 (fun v5 => bs_on h3 v5 1 (w_M_sourceOf (bs_kI Φ fun v6 h7 => (bs_on h7 v4 4 (w_S_isRight (bs_kI Φ fun v8 h9 => (bs_if (v8 = 0) (Φ (.ok (some (.int (x1 + 1)))) h9) (nx20 x0 (x1 + 1) h9))) v4 x1 v6 h7))) v5 x1 h3)))))) v1 h))
def w_B_check_20 (Φ : bs_R → bs_H → Prop) : Nat → Nat → Int32 → bs_H → Prop
  | 0 => fun _ _ _ => False
  | n + 1 => fun x0 x1 h => w_B_check_20_s Φ (w_B_check_20 Φ n) x0 x1 h
def w_B_check (Φ : bs_R → bs_H → Prop) (x0 : Nat) (h : bs_H) : Prop :=
  bs_fA h x0 0 6 (fun v1 => bs_fA h x0 0 4 (fun v2 => bs_fA h x0 0 0 (fun v3 => bs_on h v3 1 (w_M_bits (bs_kI Φ fun v4 h5 => (bs_on h5 v1 4 (w_S_trace (bs_kV Φ fun h6 => (w_B_check_20 Φ 1000 x0 0 h6)) v1 v2 v4 h5))) v3 h))))
theorem m_B_check_20 {l : Launch} {R : Room} {Φ : bs_R → bs_H → Prop} (hR : bs_rm 5 R) : ∀ (n : Nat) (x0 : Nat) (x1 : Int32) (h : bs_H), w_B_check_20 Φ n x0 x1 h → bs_J l K_B_check R Φ 20 [(0, .ref x0), (1, .int x1)] [] h := by
  intro n
  induction n with
  | zero => intro x0 x1 h hw; exact hw.elim
  | succ n ih =>
    have hnx20 := ih
    intro x0 x1 h hw
    replace hw : w_B_check_20_s Φ (w_B_check_20 Φ n) x0 x1 h := hw
    unfold w_B_check_20_s at hw
    refine bj_iload_n (pc := 20) 1 d_B_check_20 rfl rfl ?_
    refine bj_aload_n (pc := 21) 0 d_B_check_21 rfl rfl ?_
    obtain ⟨fs, v1, hx, hv, hw⟩ := hw
    refine bj_get (pc := 22) (ci := 0) (k := 0) (fs := fs) (v := .ref v1) d_B_check_22 rfl (by decide) q_196 hx hv ?_
    obtain ⟨⟨fs, hx⟩, hw⟩ := hw
    refine bj_callV (pc := 25) (np := 0) (K' := K_M_bits) (argsL := []) (st := [.int x1]) (d1 := 1) (ci := 1) (fs := fs) rfl d_B_check_25 (Or.inl q_236) q_237 rfl q_238 c_M_bits n_M_bits hR (by decide) (by decide) rfl (Nat.le_of_ble_eq_true rfl) rfl (Nat.le_of_ble_eq_true rfl) hx (fun R' hR' => m_M_bits hR' hw) (bs_kI_ok fun v2 h3 hw => ?_) (fun _ _ z => z)
    refine bj_icmp_ge (pc := 28) (tgt := 60) d_B_check_28 (by decide) (fun hc => ?_) (fun hc => ?_)
    · replace hw := hw.1 hc
      refine bj_iconst (pc := 60) (v := 0) d_B_check_60 (by decide) ?_
      exact bj_iret (pc := 61) d_B_check_61 rfl hw
    · replace hw := hw.2 hc
      refine bj_aload_n (pc := 31) 0 d_B_check_31 rfl rfl ?_
      obtain ⟨fs, v4, hx, hv, hw⟩ := hw
      refine bj_get (pc := 32) (ci := 0) (k := 6) (fs := fs) (v := .ref v4) d_B_check_32 rfl (by decide) q_202 hx hv ?_
      refine bj_iload_n (pc := 35) 1 d_B_check_35 rfl rfl ?_
      refine bj_aload_n (pc := 36) 0 d_B_check_36 rfl rfl ?_
      obtain ⟨fs, v5, hx, hv, hw⟩ := hw
      refine bj_get (pc := 37) (ci := 0) (k := 0) (fs := fs) (v := .ref v5) d_B_check_37 rfl (by decide) q_196 hx hv ?_
      refine bj_iload_n (pc := 40) 1 d_B_check_40 rfl rfl ?_
      obtain ⟨⟨fs, hx⟩, hw⟩ := hw
      refine bj_callV (pc := 41) (np := 1) (K' := K_M_sourceOf) (argsL := [.int x1]) (st := [.int x1, .ref v4]) (d1 := 1) (ci := 1) (fs := fs) rfl d_B_check_41 (Or.inl q_351) q_352 rfl q_353 c_M_sourceOf n_M_sourceOf hR (by decide) (by decide) rfl (Nat.le_of_ble_eq_true rfl) rfl (Nat.le_of_ble_eq_true rfl) hx (fun R' hR' => m_M_sourceOf hR' hw) (bs_kI_ok fun v6 h7 hw => ?_) (fun _ _ z => z)
      obtain ⟨⟨fs, hx⟩, hw⟩ := hw
      refine bj_callV (pc := 44) (np := 2) (K' := K_S_isRight) (argsL := [.int x1, .int v6]) (st := []) (d1 := 3) (ci := 4) (fs := fs) rfl d_B_check_44 (Or.inl q_355) q_356 rfl q_357 c_S_isRight n_S_isRight hR (by decide) (by decide) rfl (Nat.le_of_ble_eq_true rfl) rfl (Nat.le_of_ble_eq_true rfl) hx (fun R' hR' => m_S_isRight hR' hw) (bs_kI_ok fun v8 h9 hw => ?_) (fun _ _ z => z)
      refine bj_if_ne (pc := 47) (tgt := 54) d_B_check_47 (by decide) (fun hc => ?_) (fun hc => ?_)
      · replace hw := hw.2 hc
        refine bj_iinc (pc := 54) (v := (x1 + 1)) (lo' := [(1, .int (x1 + 1)), (0, .ref x0)]) 1 d_B_check_54 rfl rfl (by decide) rfl ?_
        refine bj_goto (pc := 57) (tgt := 20) d_B_check_57 (by decide) ?_
        refine bj_sub [1, 0] (lo' := [(0, .ref x0), (1, .int (x1 + 1))]) rfl ?_
        exact hnx20 _ _ _ hw
      · replace hw := hw.1 hc
        refine bj_iload_n (pc := 50) 1 d_B_check_50 rfl rfl ?_
        refine bj_iconst (pc := 51) (v := 1) d_B_check_51 (by decide) ?_
        refine bj_iadd (pc := 52) d_B_check_52 ?_
        exact bj_iret (pc := 53) d_B_check_53 rfl hw
theorem m_B_check {l : Launch} {R : Room} (hR : bs_rm 5 R) {Φ : bs_R → bs_H → Prop} {x0 : Nat} {h : bs_H} (hw : w_B_check Φ x0 h) : bs_J l K_B_check R Φ 0 [(0, .ref x0)] [] h := by
  unfold w_B_check at hw
  refine bj_aload_n (pc := 0) 0 d_B_check_0 rfl rfl ?_
  obtain ⟨fs, v1, hx, hv, hw⟩ := hw
  refine bj_get (pc := 1) (ci := 0) (k := 6) (fs := fs) (v := .ref v1) d_B_check_1 rfl (by decide) q_202 hx hv ?_
  refine bj_aload_n (pc := 4) 0 d_B_check_4 rfl rfl ?_
  obtain ⟨fs, v2, hx, hv, hw⟩ := hw
  refine bj_get (pc := 5) (ci := 0) (k := 4) (fs := fs) (v := .ref v2) d_B_check_5 rfl (by decide) q_200 hx hv ?_
  refine bj_aload_n (pc := 8) 0 d_B_check_8 rfl rfl ?_
  obtain ⟨fs, v3, hx, hv, hw⟩ := hw
  refine bj_get (pc := 9) (ci := 0) (k := 0) (fs := fs) (v := .ref v3) d_B_check_9 rfl (by decide) q_196 hx hv ?_
  obtain ⟨⟨fs, hx⟩, hw⟩ := hw
  refine bj_callV (pc := 12) (np := 0) (K' := K_M_bits) (argsL := []) (st := [.ref v2, .ref v1]) (d1 := 1) (ci := 1) (fs := fs) rfl d_B_check_12 (Or.inl q_236) q_237 rfl q_238 c_M_bits n_M_bits hR (by decide) (by decide) rfl (Nat.le_of_ble_eq_true rfl) rfl (Nat.le_of_ble_eq_true rfl) hx (fun R' hR' => m_M_bits hR' hw) (bs_kI_ok fun v4 h5 hw => ?_) (fun _ _ z => z)
  obtain ⟨⟨fs, hx⟩, hw⟩ := hw
  refine bj_callV (pc := 15) (np := 2) (K' := K_S_trace) (argsL := [.ref v2, .int v4]) (st := []) (d1 := 4) (ci := 4) (fs := fs) rfl d_B_check_15 (Or.inl q_304) q_305 rfl q_306 c_S_trace n_S_trace hR (by decide) (by decide) rfl (Nat.le_of_ble_eq_true rfl) rfl (Nat.le_of_ble_eq_true rfl) hx (fun R' hR' => m_S_trace hR' hw) (bs_kV_ok fun h6 hw => ?_) (fun _ _ z => z)
  refine bj_iconst (pc := 18) (v := 0) d_B_check_18 (by decide) ?_
  refine bj_istore_n (pc := 19) (lo' := [(1, .int 0), (0, .ref x0)]) d_B_check_19 rfl (by decide) rfl ?_
  refine bj_sub [1, 0] (lo' := [(0, .ref x0), (1, .int 0)]) rfl ?_
  exact m_B_check_20 hR 1000 _ _ _ hw
theorem d_R_check_0 : decode prog_9_method_33_code 0 = .ok (.aload_n 0, 1) := by decide +kernel
theorem d_R_check_1 : decode prog_9_method_33_code 1 = .ok (.iconst 0, 1) := by decide +kernel
theorem d_R_check_2 : decode prog_9_method_33_code 2 = .ok (.putfield 85, 3) := by decide +kernel
theorem d_R_check_5 : decode prog_9_method_33_code 5 = .ok (.aload_n 0, 1) := by decide +kernel
theorem d_R_check_6 : decode prog_9_method_33_code 6 = .ok (.invokevirtual 161, 3) := by decide +kernel
theorem d_R_check_9 : decode prog_9_method_33_code 9 = .ok (.iconst 0, 1) := by decide +kernel
theorem d_R_check_10 : decode prog_9_method_33_code 10 = .ok (.istore_n 1, 1) := by decide +kernel
theorem d_R_check_11 : decode prog_9_method_33_code 11 = .ok (.iload_n 1, 1) := by decide +kernel
theorem d_R_check_12 : decode prog_9_method_33_code 12 = .ok (.aload_n 0, 1) := by decide +kernel
theorem d_R_check_13 : decode prog_9_method_33_code 13 = .ok (.getfield 89, 3) := by decide +kernel
theorem d_R_check_16 : decode prog_9_method_33_code 16 = .ok (.if_icmp .ge 85, 3) := by decide +kernel
theorem d_R_check_19 : decode prog_9_method_33_code 19 = .ok (.aload_n 0, 1) := by decide +kernel
theorem d_R_check_20 : decode prog_9_method_33_code 20 = .ok (.getfield 7, 3) := by decide +kernel
theorem d_R_check_23 : decode prog_9_method_33_code 23 = .ok (.iload_n 1, 1) := by decide +kernel
theorem d_R_check_24 : decode prog_9_method_33_code 24 = .ok (.iaload, 1) := by decide +kernel
theorem d_R_check_25 : decode prog_9_method_33_code 25 = .ok (.bipush 65, 2) := by decide +kernel
theorem d_R_check_27 : decode prog_9_method_33_code 27 = .ok (.if_icmp .ne 12, 3) := by decide +kernel
theorem d_R_check_30 : decode prog_9_method_33_code 30 = .ok (.aload_n 0, 1) := by decide +kernel
theorem d_R_check_31 : decode prog_9_method_33_code 31 = .ok (.getfield 38, 3) := by decide +kernel
theorem d_R_check_34 : decode prog_9_method_33_code 34 = .ok (.iload_n 1, 1) := by decide +kernel
theorem d_R_check_35 : decode prog_9_method_33_code 35 = .ok (.baload, 1) := by decide +kernel
theorem d_R_check_36 : decode prog_9_method_33_code 36 = .ok (.goto 50, 3) := by decide +kernel
theorem d_R_check_39 : decode prog_9_method_33_code 39 = .ok (.aload_n 0, 1) := by decide +kernel
theorem d_R_check_40 : decode prog_9_method_33_code 40 = .ok (.getfield 38, 3) := by decide +kernel
theorem d_R_check_43 : decode prog_9_method_33_code 43 = .ok (.iload_n 1, 1) := by decide +kernel
theorem d_R_check_44 : decode prog_9_method_33_code 44 = .ok (.baload, 1) := by decide +kernel
theorem d_R_check_45 : decode prog_9_method_33_code 45 = .ok (.ifCond .ne 40, 3) := by decide +kernel
theorem d_R_check_48 : decode prog_9_method_33_code 48 = .ok (.aload_n 0, 1) := by decide +kernel
theorem d_R_check_49 : decode prog_9_method_33_code 49 = .ok (.getfield 35, 3) := by decide +kernel
theorem d_R_check_52 : decode prog_9_method_33_code 52 = .ok (.iload_n 1, 1) := by decide +kernel
theorem d_R_check_53 : decode prog_9_method_33_code 53 = .ok (.laload, 1) := by decide +kernel
theorem d_R_check_54 : decode prog_9_method_33_code 54 = .ok (.aload_n 0, 1) := by decide +kernel
theorem d_R_check_55 : decode prog_9_method_33_code 55 = .ok (.getfield 7, 3) := by decide +kernel
theorem d_R_check_58 : decode prog_9_method_33_code 58 = .ok (.iload_n 1, 1) := by decide +kernel
theorem d_R_check_59 : decode prog_9_method_33_code 59 = .ok (.iaload, 1) := by decide +kernel
theorem d_R_check_60 : decode prog_9_method_33_code 60 = .ok (.bipush 64, 2) := by decide +kernel
theorem d_R_check_62 : decode prog_9_method_33_code 62 = .ok (.if_icmp .ne 7, 3) := by decide +kernel
theorem d_R_check_65 : decode prog_9_method_33_code 65 = .ok (.lconst 0, 1) := by decide +kernel
theorem d_R_check_66 : decode prog_9_method_33_code 66 = .ok (.goto 11, 3) := by decide +kernel
theorem d_R_check_69 : decode prog_9_method_33_code 69 = .ok (.lconst 1, 1) := by decide +kernel
theorem d_R_check_70 : decode prog_9_method_33_code 70 = .ok (.aload_n 0, 1) := by decide +kernel
theorem d_R_check_71 : decode prog_9_method_33_code 71 = .ok (.getfield 7, 3) := by decide +kernel
theorem d_R_check_74 : decode prog_9_method_33_code 74 = .ok (.iload_n 1, 1) := by decide +kernel
theorem d_R_check_75 : decode prog_9_method_33_code 75 = .ok (.iaload, 1) := by decide +kernel
theorem d_R_check_76 : decode prog_9_method_33_code 76 = .ok (.lshl, 1) := by decide +kernel
theorem d_R_check_77 : decode prog_9_method_33_code 77 = .ok (.lcmp, 1) := by decide +kernel
theorem d_R_check_78 : decode prog_9_method_33_code 78 = .ok (.ifCond .ne 7, 3) := by decide +kernel
theorem d_R_check_81 : decode prog_9_method_33_code 81 = .ok (.iconst 1, 1) := by decide +kernel
theorem d_R_check_82 : decode prog_9_method_33_code 82 = .ok (.goto 4, 3) := by decide +kernel
theorem d_R_check_85 : decode prog_9_method_33_code 85 = .ok (.iconst 0, 1) := by decide +kernel
theorem d_R_check_86 : decode prog_9_method_33_code 86 = .ok (.istore_n 2, 1) := by decide +kernel
theorem d_R_check_87 : decode prog_9_method_33_code 87 = .ok (.iload_n 2, 1) := by decide +kernel
theorem d_R_check_88 : decode prog_9_method_33_code 88 = .ok (.ifCond .ne 7, 3) := by decide +kernel
theorem d_R_check_91 : decode prog_9_method_33_code 91 = .ok (.iload_n 1, 1) := by decide +kernel
theorem d_R_check_92 : decode prog_9_method_33_code 92 = .ok (.iconst 1, 1) := by decide +kernel
theorem d_R_check_93 : decode prog_9_method_33_code 93 = .ok (.iadd, 1) := by decide +kernel
theorem d_R_check_94 : decode prog_9_method_33_code 94 = .ok (.ireturn, 1) := by decide +kernel
theorem d_R_check_95 : decode prog_9_method_33_code 95 = .ok (.iinc 1 1, 3) := by decide +kernel
theorem d_R_check_98 : decode prog_9_method_33_code 98 = .ok (.goto (-87), 3) := by decide +kernel
theorem d_R_check_101 : decode prog_9_method_33_code 101 = .ok (.iconst 0, 1) := by decide +kernel
theorem d_R_check_102 : decode prog_9_method_33_code 102 = .ok (.ireturn, 1) := by decide +kernel
def w_R_check_86 (Φ : bs_R → bs_H → Prop) (nx11 : Nat → Int32 → bs_H → Prop) (x0 : Nat) (x1 : Int32) (s0 : Int32) (h : bs_H) : Prop :=
  bs_if (s0 = 0) (Φ (.ok (some (.int (x1 + 1)))) h) (nx11 x0 (x1 + 1) h)
def w_R_check_85 (Φ : bs_R → bs_H → Prop) (nx11 : Nat → Int32 → bs_H → Prop) (x0 : Nat) (x1 : Int32) (h : bs_H) : Prop :=
  w_R_check_86 Φ nx11 x0 x1 0 h
def w_R_check_77 (Φ : bs_R → bs_H → Prop) (nx11 : Nat → Int32 → bs_H → Prop) (x0 : Nat) (x1 : Int32) (s0 : Int64) (s1 : Int64) (h : bs_H) : Prop :=
  bs_if (s0 = s1) (w_R_check_86 Φ nx11 x0 x1 1 h) (w_R_check_85 Φ nx11 x0 x1 h)
def w_R_check_11_s (Φ : bs_R → bs_H → Prop) (nx11 : Nat → Int32 → bs_H → Prop) (x0 : Nat) (x1 : Int32) (h : bs_H) : Prop :=
  bs_fI h x0 7 1 (fun v1 => bs_if (v1 ≤ x1) (Φ (.ok (some (.int 0))) h) (bs_fA h x0 7 2 (fun v2 => bs_lI h v2 x1 (fun v3 => bs_if (v3 = 65) (bs_fA h x0 7 13 (fun v12 => bs_lZ h v12 x1 (fun v13 => w_R_check_86 Φ nx11 x0 x1 v13 h))) (bs_fA h x0 7 13 (fun v4 => bs_lZ h v4 x1 (fun v5 => bs_if (v5 = 0) (bs_fA h x0 7 12 (fun v6 => bs_lL h v6 x1 (fun v7 => bs_fA h x0 7 2 (fun v8 => bs_lI h v8 x1 (fun v9 => bs_if (v9 = 64) (w_R_check_77 Φ nx11 x0 x1 v7 0 h) (bs_fA h x0 7 2 (fun v10 => bs_lI h v10 x1 (fun v11 => w_R_check_77 Φ nx11 x0 x1 v7 (bs_shl 1 v11) h)))))))) (w_R_check_85 Φ nx11 x0 x1 h))))))))
def w_R_check_11 (Φ : bs_R → bs_H → Prop) : Nat → Nat → Int32 → bs_H → Prop
  | 0 => fun _ _ _ => False
  | n + 1 => fun x0 x1 h => w_R_check_11_s Φ (w_R_check_11 Φ n) x0 x1 h
def w_R_check (Φ : bs_R → bs_H → Prop) (x0 : Nat) (h : bs_H) : Prop :=
  bs_p h x0 7 0 (.int 0) (fun h1 => bs_on h1 x0 7 (w_R_goAll (bs_kV Φ fun h2 => (w_R_check_11 Φ 1000 x0 0 h2)) x0 h1))
theorem m_R_check_86 {l : Launch} {R : Room} {Φ : bs_R → bs_H → Prop} (hR : bs_rm 5 R) {nx11 : Nat → Int32 → bs_H → Prop} (hnx11 : ∀ (x0 : Nat) (x1 : Int32) (h : bs_H), nx11 x0 x1 h → bs_J l K_R_check R Φ 11 [(0, .ref x0), (1, .int x1)] [] h) {x0 : Nat} {x1 : Int32} {s0 : Int32} {h : bs_H} (hw : w_R_check_86 Φ nx11 x0 x1 s0 h) : bs_J l K_R_check R Φ 86 [(0, .ref x0), (1, .int x1)] [.int s0] h := by
  unfold w_R_check_86 at hw
  refine bj_istore_n (pc := 86) (lo' := [(2, .int s0), (0, .ref x0), (1, .int x1)]) d_R_check_86 rfl (by decide) rfl ?_
  refine bj_iload_n (pc := 87) 0 d_R_check_87 rfl rfl ?_
  refine bj_if_ne (pc := 88) (tgt := 95) d_R_check_88 (by decide) (fun hc => ?_) (fun hc => ?_)
  · replace hw := hw.2 hc
    refine bj_iinc (pc := 95) (v := (x1 + 1)) (lo' := [(1, .int (x1 + 1)), (2, .int s0), (0, .ref x0)]) 2 d_R_check_95 rfl rfl (by decide) rfl ?_
    refine bj_goto (pc := 98) (tgt := 11) d_R_check_98 (by decide) ?_
    refine bj_sub [2, 0] (lo' := [(0, .ref x0), (1, .int (x1 + 1))]) rfl ?_
    exact hnx11 _ _ _ hw
  · replace hw := hw.1 hc
    refine bj_iload_n (pc := 91) 2 d_R_check_91 rfl rfl ?_
    refine bj_iconst (pc := 92) (v := 1) d_R_check_92 (by decide) ?_
    refine bj_iadd (pc := 93) d_R_check_93 ?_
    exact bj_iret (pc := 94) d_R_check_94 rfl hw
theorem m_R_check_85 {l : Launch} {R : Room} {Φ : bs_R → bs_H → Prop} (hR : bs_rm 5 R) {nx11 : Nat → Int32 → bs_H → Prop} (hnx11 : ∀ (x0 : Nat) (x1 : Int32) (h : bs_H), nx11 x0 x1 h → bs_J l K_R_check R Φ 11 [(0, .ref x0), (1, .int x1)] [] h) {x0 : Nat} {x1 : Int32} {h : bs_H} (hw : w_R_check_85 Φ nx11 x0 x1 h) : bs_J l K_R_check R Φ 85 [(0, .ref x0), (1, .int x1)] [] h := by
  unfold w_R_check_85 at hw
  refine bj_iconst (pc := 85) (v := 0) d_R_check_85 (by decide) ?_
  exact m_R_check_86 hR hnx11 hw
theorem m_R_check_77 {l : Launch} {R : Room} {Φ : bs_R → bs_H → Prop} (hR : bs_rm 5 R) {nx11 : Nat → Int32 → bs_H → Prop} (hnx11 : ∀ (x0 : Nat) (x1 : Int32) (h : bs_H), nx11 x0 x1 h → bs_J l K_R_check R Φ 11 [(0, .ref x0), (1, .int x1)] [] h) {x0 : Nat} {x1 : Int32} {s0 : Int64} {s1 : Int64} {h : bs_H} (hw : w_R_check_77 Φ nx11 x0 x1 s0 s1 h) : bs_J l K_R_check R Φ 77 [(0, .ref x0), (1, .int x1)] [.long s1, .long s0] h := by
  unfold w_R_check_77 at hw
  refine bj_lc_ne (pc := 77) (tgt := 85) d_R_check_77 d_R_check_78 (by decide) (fun hc => ?_) (fun hc => ?_)
  · replace hw := hw.2 hc
    exact m_R_check_85 hR hnx11 hw
  · replace hw := hw.1 hc
    refine bj_iconst (pc := 81) (v := 1) d_R_check_81 (by decide) ?_
    refine bj_goto (pc := 82) (tgt := 86) d_R_check_82 (by decide) ?_
    exact m_R_check_86 hR hnx11 hw
theorem m_R_check_11 {l : Launch} {R : Room} {Φ : bs_R → bs_H → Prop} (hR : bs_rm 5 R) : ∀ (n : Nat) (x0 : Nat) (x1 : Int32) (h : bs_H), w_R_check_11 Φ n x0 x1 h → bs_J l K_R_check R Φ 11 [(0, .ref x0), (1, .int x1)] [] h := by
  intro n
  induction n with
  | zero => intro x0 x1 h hw; exact hw.elim
  | succ n ih =>
    have hnx11 := ih
    intro x0 x1 h hw
    replace hw : w_R_check_11_s Φ (w_R_check_11 Φ n) x0 x1 h := hw
    unfold w_R_check_11_s at hw
    refine bj_iload_n (pc := 11) 1 d_R_check_11 rfl rfl ?_
    refine bj_aload_n (pc := 12) 0 d_R_check_12 rfl rfl ?_
    obtain ⟨fs, v1, hx, hv, hw⟩ := hw
    refine bj_get (pc := 13) (ci := 7) (k := 1) (fs := fs) (v := .int v1) d_R_check_13 rfl (by decide) q_749 hx hv ?_
    refine bj_icmp_ge (pc := 16) (tgt := 101) d_R_check_16 (by decide) (fun hc => ?_) (fun hc => ?_)
    · replace hw := hw.1 hc
      refine bj_iconst (pc := 101) (v := 0) d_R_check_101 (by decide) ?_
      exact bj_iret (pc := 102) d_R_check_102 rfl hw
    · replace hw := hw.2 hc
      refine bj_aload_n (pc := 19) 0 d_R_check_19 rfl rfl ?_
      obtain ⟨fs, v2, hx, hv, hw⟩ := hw
      refine bj_get (pc := 20) (ci := 7) (k := 2) (fs := fs) (v := .ref v2) d_R_check_20 rfl (by decide) q_750 hx hv ?_
      refine bj_iload_n (pc := 23) 1 d_R_check_23 rfl rfl ?_
      obtain ⟨n, f, v3, hx, hin, hv, hw⟩ := hw
      refine bj_iald (pc := 24) (n := n) (f := f) d_R_check_24 hx hin hv ?_
      refine bj_bipush (pc := 25) (v := 65) d_R_check_25 (by decide) ?_
      refine bj_icmp_ne (pc := 27) (tgt := 39) d_R_check_27 (by decide) (fun hc => ?_) (fun hc => ?_)
      · replace hw := hw.2 hc
        refine bj_aload_n (pc := 39) 0 d_R_check_39 rfl rfl ?_
        obtain ⟨fs, v4, hx, hv, hw⟩ := hw
        refine bj_get (pc := 40) (ci := 7) (k := 13) (fs := fs) (v := .ref v4) d_R_check_40 rfl (by decide) q_761 hx hv ?_
        refine bj_iload_n (pc := 43) 1 d_R_check_43 rfl rfl ?_
        obtain ⟨n, f, v5, hx, hin, hv, hw⟩ := hw
        refine bj_zald (pc := 44) (n := n) (f := f) d_R_check_44 hx hin hv ?_
        refine bj_if_ne (pc := 45) (tgt := 85) d_R_check_45 (by decide) (fun hc => ?_) (fun hc => ?_)
        · replace hw := hw.2 hc
          exact m_R_check_85 hR hnx11 hw
        · replace hw := hw.1 hc
          refine bj_aload_n (pc := 48) 0 d_R_check_48 rfl rfl ?_
          obtain ⟨fs, v6, hx, hv, hw⟩ := hw
          refine bj_get (pc := 49) (ci := 7) (k := 12) (fs := fs) (v := .ref v6) d_R_check_49 rfl (by decide) q_760 hx hv ?_
          refine bj_iload_n (pc := 52) 1 d_R_check_52 rfl rfl ?_
          obtain ⟨n, f, v7, hx, hin, hv, hw⟩ := hw
          refine bj_lald (pc := 53) (n := n) (f := f) d_R_check_53 hx hin hv ?_
          refine bj_aload_n (pc := 54) 0 d_R_check_54 rfl rfl ?_
          obtain ⟨fs, v8, hx, hv, hw⟩ := hw
          refine bj_get (pc := 55) (ci := 7) (k := 2) (fs := fs) (v := .ref v8) d_R_check_55 rfl (by decide) q_750 hx hv ?_
          refine bj_iload_n (pc := 58) 1 d_R_check_58 rfl rfl ?_
          obtain ⟨n, f, v9, hx, hin, hv, hw⟩ := hw
          refine bj_iald (pc := 59) (n := n) (f := f) d_R_check_59 hx hin hv ?_
          refine bj_bipush (pc := 60) (v := 64) d_R_check_60 (by decide) ?_
          refine bj_icmp_ne (pc := 62) (tgt := 69) d_R_check_62 (by decide) (fun hc => ?_) (fun hc => ?_)
          · replace hw := hw.2 hc
            refine bj_lconst (pc := 69) (v := 1) d_R_check_69 (by decide) ?_
            refine bj_aload_n (pc := 70) 0 d_R_check_70 rfl rfl ?_
            obtain ⟨fs, v10, hx, hv, hw⟩ := hw
            refine bj_get (pc := 71) (ci := 7) (k := 2) (fs := fs) (v := .ref v10) d_R_check_71 rfl (by decide) q_750 hx hv ?_
            refine bj_iload_n (pc := 74) 1 d_R_check_74 rfl rfl ?_
            obtain ⟨n, f, v11, hx, hin, hv, hw⟩ := hw
            refine bj_iald (pc := 75) (n := n) (f := f) d_R_check_75 hx hin hv ?_
            refine bj_lshl (pc := 76) d_R_check_76 ?_
            exact m_R_check_77 hR hnx11 hw
          · replace hw := hw.1 hc
            refine bj_lconst (pc := 65) (v := 0) d_R_check_65 (by decide) ?_
            refine bj_goto (pc := 66) (tgt := 77) d_R_check_66 (by decide) ?_
            exact m_R_check_77 hR hnx11 hw
      · replace hw := hw.1 hc
        refine bj_aload_n (pc := 30) 0 d_R_check_30 rfl rfl ?_
        obtain ⟨fs, v12, hx, hv, hw⟩ := hw
        refine bj_get (pc := 31) (ci := 7) (k := 13) (fs := fs) (v := .ref v12) d_R_check_31 rfl (by decide) q_761 hx hv ?_
        refine bj_iload_n (pc := 34) 1 d_R_check_34 rfl rfl ?_
        obtain ⟨n, f, v13, hx, hin, hv, hw⟩ := hw
        refine bj_zald (pc := 35) (n := n) (f := f) d_R_check_35 hx hin hv ?_
        refine bj_goto (pc := 36) (tgt := 86) d_R_check_36 (by decide) ?_
        exact m_R_check_86 hR hnx11 hw
theorem m_R_check {l : Launch} {R : Room} (hR : bs_rm 5 R) {Φ : bs_R → bs_H → Prop} {x0 : Nat} {h : bs_H} (hw : w_R_check Φ x0 h) : bs_J l K_R_check R Φ 0 [(0, .ref x0)] [] h := by
  unfold w_R_check at hw
  refine bj_aload_n (pc := 0) 0 d_R_check_0 rfl rfl ?_
  refine bj_iconst (pc := 1) (v := 0) d_R_check_1 (by decide) ?_
  obtain ⟨fs, hx, hlen, hw⟩ := hw
  refine bj_put (pc := 2) (ci := 7) (k := 0) (fs := fs) (v := (.int 0)) (ty := .int) d_R_check_2 rfl (by decide) q_748 rfl (by decide +kernel) rfl rfl hx hlen ?_
  refine bj_aload_n (pc := 5) 0 d_R_check_5 rfl rfl ?_
  obtain ⟨⟨fs, hx⟩, hw⟩ := hw
  refine bj_callV (pc := 6) (np := 0) (K' := K_R_goAll) (argsL := []) (st := []) (d1 := 4) (ci := 7) (fs := fs) rfl d_R_check_6 (Or.inl q_923) q_925 rfl q_37 c_R_goAll n_R_goAll hR (by decide) (by decide) rfl (Nat.le_of_ble_eq_true rfl) rfl (Nat.le_of_ble_eq_true rfl) hx (fun R' hR' => m_R_goAll hR' hw) (bs_kV_ok fun h2 hw => ?_) (fun _ _ z => z)
  refine bj_iconst (pc := 9) (v := 0) d_R_check_9 (by decide) ?_
  refine bj_istore_n (pc := 10) (lo' := [(1, .int 0), (0, .ref x0)]) d_R_check_10 rfl (by decide) rfl ?_
  refine bj_sub [1, 0] (lo' := [(0, .ref x0), (1, .int 0)]) rfl ?_
  exact m_R_check_11 hR 1000 _ _ _ hw
theorem d_S_setOf_0 : decode prog_6_method_3_code 0 = .ok (.aload_n 0, 1) := by decide +kernel
theorem d_S_setOf_1 : decode prog_6_method_3_code 1 = .ok (.getfield 18, 3) := by decide +kernel
theorem d_S_setOf_4 : decode prog_6_method_3_code 4 = .ok (.iload_n 1, 1) := by decide +kernel
theorem d_S_setOf_5 : decode prog_6_method_3_code 5 = .ok (.laload, 1) := by decide +kernel
theorem d_S_setOf_6 : decode prog_6_method_3_code 6 = .ok (.lreturn, 1) := by decide +kernel
def w_S_setOf (Φ : bs_R → bs_H → Prop) (x0 : Nat) (x1 : Int32) (h : bs_H) : Prop :=
  bs_fA h x0 4 2 (fun v1 => bs_lL h v1 x1 (fun v2 => Φ (.ok (some (.long v2))) h))
theorem m_S_setOf {l : Launch} {R : Room} (hR : bs_rm 1 R) {Φ : bs_R → bs_H → Prop} {x0 : Nat} {x1 : Int32} {h : bs_H} (hw : w_S_setOf Φ x0 x1 h) : bs_J l K_S_setOf R Φ 0 [(0, .ref x0), (1, .int x1)] [] h := by
  unfold w_S_setOf at hw
  refine bj_aload_n (pc := 0) 0 d_S_setOf_0 rfl rfl ?_
  obtain ⟨fs, v1, hx, hv, hw⟩ := hw
  refine bj_get (pc := 1) (ci := 4) (k := 2) (fs := fs) (v := .ref v1) d_S_setOf_1 rfl (by decide) q_134 hx hv ?_
  refine bj_iload_n (pc := 4) 1 d_S_setOf_4 rfl rfl ?_
  obtain ⟨n, f, v2, hx, hin, hv, hw⟩ := hw
  refine bj_lald (pc := 5) (n := n) (f := f) d_S_setOf_5 hx hin hv ?_
  exact bj_lret (pc := 6) d_S_setOf_6 rfl hw
theorem d_B_origins_0 : decode prog_1_method_13_code 0 = .ok (.aload_n 0, 1) := by decide +kernel
theorem d_B_origins_1 : decode prog_1_method_13_code 1 = .ok (.iload_n 1, 1) := by decide +kernel
theorem d_B_origins_2 : decode prog_1_method_13_code 2 = .ok (.invokevirtual 72, 3) := by decide +kernel
theorem d_B_origins_5 : decode prog_1_method_13_code 5 = .ok (.aload_n 0, 1) := by decide +kernel
theorem d_B_origins_6 : decode prog_1_method_13_code 6 = .ok (.getfield 44, 3) := by decide +kernel
theorem d_B_origins_9 : decode prog_1_method_13_code 9 = .ok (.aload_n 0, 1) := by decide +kernel
theorem d_B_origins_10 : decode prog_1_method_13_code 10 = .ok (.getfield 30, 3) := by decide +kernel
theorem d_B_origins_13 : decode prog_1_method_13_code 13 = .ok (.aload_n 0, 1) := by decide +kernel
theorem d_B_origins_14 : decode prog_1_method_13_code 14 = .ok (.getfield 12, 3) := by decide +kernel
theorem d_B_origins_17 : decode prog_1_method_13_code 17 = .ok (.invokevirtual 91, 3) := by decide +kernel
theorem d_B_origins_20 : decode prog_1_method_13_code 20 = .ok (.invokevirtual 144, 3) := by decide +kernel
theorem d_B_origins_23 : decode prog_1_method_13_code 23 = .ok (.aload_n 0, 1) := by decide +kernel
theorem d_B_origins_24 : decode prog_1_method_13_code 24 = .ok (.getfield 44, 3) := by decide +kernel
theorem d_B_origins_27 : decode prog_1_method_13_code 27 = .ok (.iload_n 1, 1) := by decide +kernel
theorem d_B_origins_28 : decode prog_1_method_13_code 28 = .ok (.invokevirtual 152, 3) := by decide +kernel
theorem d_B_origins_31 : decode prog_1_method_13_code 31 = .ok (.lreturn, 1) := by decide +kernel
def w_B_origins (Φ : bs_R → bs_H → Prop) (x0 : Nat) (x1 : Int32) (h : bs_H) : Prop :=
  bs_on h x0 0 (w_B_requireBit (bs_kV Φ fun h1 => (bs_fA h1 x0 0 6 (fun v2 => bs_fA h1 x0 0 4 (fun v3 => bs_fA h1 x0 0 0 (fun v4 => bs_on h1 v4 1 (w_M_bits (bs_kI Φ fun v5 h6 => (bs_on h6 v2 4 (w_S_trace (bs_kV Φ fun h7 => (bs_fA h7 x0 0 6 (fun v8 => bs_on h7 v8 4 (w_S_setOf (bs_kL Φ fun v9 h10 => (Φ (.ok (some (.long v9))) h10)) v8 x1 h7)))) v2 v3 v5 h6))) v4 h1)))))) x0 x1 h)
theorem m_B_origins {l : Launch} {R : Room} (hR : bs_rm 5 R) {Φ : bs_R → bs_H → Prop} {x0 : Nat} {x1 : Int32} {h : bs_H} (hw : w_B_origins Φ x0 x1 h) : bs_J l K_B_origins R Φ 0 [(0, .ref x0), (1, .int x1)] [] h := by
  unfold w_B_origins at hw
  refine bj_aload_n (pc := 0) 0 d_B_origins_0 rfl rfl ?_
  refine bj_iload_n (pc := 1) 1 d_B_origins_1 rfl rfl ?_
  obtain ⟨⟨fs, hx⟩, hw⟩ := hw
  refine bj_callV (pc := 2) (np := 1) (K' := K_B_requireBit) (argsL := [.int x1]) (st := []) (d1 := 2) (ci := 0) (fs := fs) rfl d_B_origins_2 (Or.inl q_456) q_458 rfl q_13 c_B_requireBit n_B_requireBit hR (by decide) (by decide) rfl (Nat.le_of_ble_eq_true rfl) rfl (Nat.le_of_ble_eq_true rfl) hx (fun R' hR' => m_B_requireBit hR' hw) (bs_kV_ok fun h1 hw => ?_) (fun _ _ z => z)
  refine bj_aload_n (pc := 5) 0 d_B_origins_5 rfl rfl ?_
  obtain ⟨fs, v2, hx, hv, hw⟩ := hw
  refine bj_get (pc := 6) (ci := 0) (k := 6) (fs := fs) (v := .ref v2) d_B_origins_6 rfl (by decide) q_202 hx hv ?_
  refine bj_aload_n (pc := 9) 0 d_B_origins_9 rfl rfl ?_
  obtain ⟨fs, v3, hx, hv, hw⟩ := hw
  refine bj_get (pc := 10) (ci := 0) (k := 4) (fs := fs) (v := .ref v3) d_B_origins_10 rfl (by decide) q_200 hx hv ?_
  refine bj_aload_n (pc := 13) 0 d_B_origins_13 rfl rfl ?_
  obtain ⟨fs, v4, hx, hv, hw⟩ := hw
  refine bj_get (pc := 14) (ci := 0) (k := 0) (fs := fs) (v := .ref v4) d_B_origins_14 rfl (by decide) q_196 hx hv ?_
  obtain ⟨⟨fs, hx⟩, hw⟩ := hw
  refine bj_callV (pc := 17) (np := 0) (K' := K_M_bits) (argsL := []) (st := [.ref v3, .ref v2]) (d1 := 1) (ci := 1) (fs := fs) rfl d_B_origins_17 (Or.inl q_236) q_237 rfl q_238 c_M_bits n_M_bits hR (by decide) (by decide) rfl (Nat.le_of_ble_eq_true rfl) rfl (Nat.le_of_ble_eq_true rfl) hx (fun R' hR' => m_M_bits hR' hw) (bs_kI_ok fun v5 h6 hw => ?_) (fun _ _ z => z)
  obtain ⟨⟨fs, hx⟩, hw⟩ := hw
  refine bj_callV (pc := 20) (np := 2) (K' := K_S_trace) (argsL := [.ref v3, .int v5]) (st := []) (d1 := 4) (ci := 4) (fs := fs) rfl d_B_origins_20 (Or.inl q_304) q_305 rfl q_306 c_S_trace n_S_trace hR (by decide) (by decide) rfl (Nat.le_of_ble_eq_true rfl) rfl (Nat.le_of_ble_eq_true rfl) hx (fun R' hR' => m_S_trace hR' hw) (bs_kV_ok fun h7 hw => ?_) (fun _ _ z => z)
  refine bj_aload_n (pc := 23) 0 d_B_origins_23 rfl rfl ?_
  obtain ⟨fs, v8, hx, hv, hw⟩ := hw
  refine bj_get (pc := 24) (ci := 0) (k := 6) (fs := fs) (v := .ref v8) d_B_origins_24 rfl (by decide) q_202 hx hv ?_
  refine bj_iload_n (pc := 27) 1 d_B_origins_27 rfl rfl ?_
  obtain ⟨⟨fs, hx⟩, hw⟩ := hw
  refine bj_callV (pc := 28) (np := 1) (K' := K_S_setOf) (argsL := [.int x1]) (st := []) (d1 := 1) (ci := 4) (fs := fs) rfl d_B_origins_28 (Or.inl q_654) q_655 rfl q_656 c_S_setOf n_S_setOf hR (by decide) (by decide) rfl (Nat.le_of_ble_eq_true rfl) rfl (Nat.le_of_ble_eq_true rfl) hx (fun R' hR' => m_S_setOf hR' hw) (bs_kL_ok fun v9 h10 hw => ?_) (fun _ _ z => z)
  exact bj_lret (pc := 31) d_B_origins_31 rfl hw
theorem d_L_origins_0 : decode method_10_code 0 = .ok (.aload_n 2, 1) := by decide +kernel
theorem d_L_origins_1 : decode method_10_code 1 = .ok (.iconst 0, 1) := by decide +kernel
theorem d_L_origins_2 : decode method_10_code 2 = .ok (.aload_n 0, 1) := by decide +kernel
theorem d_L_origins_3 : decode method_10_code 3 = .ok (.iload_n 1, 1) := by decide +kernel
theorem d_L_origins_4 : decode method_10_code 4 = .ok (.invokevirtual 42, 3) := by decide +kernel
theorem d_L_origins_7 : decode method_10_code 7 = .ok (.lastore, 1) := by decide +kernel
theorem d_L_origins_8 : decode method_10_code 8 = .ok (.goto 6, 3) := by decide +kernel
theorem d_L_origins_11 : decode method_10_code 11 = .ok (.astore_n 3, 1) := by decide +kernel
theorem d_L_origins_12 : decode method_10_code 12 = .ok (.iconst 1, 1) := by decide +kernel
theorem d_L_origins_13 : decode method_10_code 13 = .ok (.ireturn, 1) := by decide +kernel
theorem d_L_origins_14 : decode method_10_code 14 = .ok (.iconst 0, 1) := by decide +kernel
theorem d_L_origins_15 : decode method_10_code 15 = .ok (.ireturn, 1) := by decide +kernel
def w_L_origins_11 (Φ : bs_R → bs_H → Prop) (s0 : Nat) (h : bs_H) : Prop :=
  Φ (.ok (some (.int 1))) h
def w_L_origins (Φ : bs_R → bs_H → Prop) (x0 : Nat) (x1 : Int32) (x2 : Nat) (h : bs_H) : Prop :=
  bs_on h x0 0 (w_B_origins (bs_kL (bs_hd fun E3 h4 => (E3 = "java/lang/IllegalArgumentException" ∧ ∀ a, w_L_origins_11 Φ a h4)) fun v1 h2 => (bs_sL h2 x2 0 v1 (fun h5 => Φ (.ok (some (.int 0))) h5))) x0 x1 h)
theorem m_L_origins_11 {l : Launch} {R : Room} {Φ : bs_R → bs_H → Prop} (hR : bs_rm 6 R) {s0 : Nat} {h : bs_H} (hw : w_L_origins_11 Φ s0 h) : bs_J l K_L_origins R Φ 11 [] [.ref s0] h := by
  unfold w_L_origins_11 at hw
  refine bj_astore_n (pc := 11) (lo' := [(3, .ref s0)]) d_L_origins_11 rfl (by decide) rfl ?_
  refine bj_iconst (pc := 12) (v := 1) d_L_origins_12 (by decide) ?_
  exact bj_iret (pc := 13) d_L_origins_13 rfl hw
theorem m_L_origins {l : Launch} {R : Room} (hR : bs_rm 6 R) {Φ : bs_R → bs_H → Prop} {x0 : Nat} {x1 : Int32} {x2 : Nat} {h : bs_H} (hw : w_L_origins Φ x0 x1 x2 h) : bs_J l K_L_origins R Φ 0 [(0, .ref x0), (1, .int x1), (2, .ref x2)] [] h := by
  unfold w_L_origins at hw
  refine bj_aload_n (pc := 0) 2 d_L_origins_0 rfl rfl ?_
  refine bj_iconst (pc := 1) (v := 0) d_L_origins_1 (by decide) ?_
  refine bj_aload_n (pc := 2) 0 d_L_origins_2 rfl rfl ?_
  refine bj_iload_n (pc := 3) 1 d_L_origins_3 rfl rfl ?_
  obtain ⟨⟨fs, hx⟩, hw⟩ := hw
  refine bj_callVC (pc := 4) (np := 1) (K' := K_B_origins) (argsL := [.int x1]) (st := [.int 0, .ref x2]) (d1 := 5) (ci := 0) (fs := fs) rfl d_L_origins_4 (Or.inl q_650) q_651 rfl q_652 c_B_origins n_B_origins hR (by decide) (by decide) (Nat.le_of_ble_eq_true rfl) rfl (Nat.le_of_ble_eq_true rfl) hx (fun R' hR' => m_B_origins hR' hw) (bs_kL_ok fun v1 h2 hw => ?_) ?_
  · obtain ⟨n, f, hx, hin, hw⟩ := hw
    refine bj_last (pc := 7) (n := n) (f := f) d_L_origins_7 hx hin ?_
    refine bj_goto (pc := 8) (tgt := 14) d_L_origins_8 (by decide) ?_
    refine bj_iconst (pc := 14) (v := 0) d_L_origins_14 (by decide) ?_
    exact bj_iret (pc := 15) d_L_origins_15 rfl hw
  · intro E3 h4 hw
    obtain ⟨rfl, hw⟩ := hw
    refine ⟨11, bs_hand1 rfl (by decide) (by decide) q_376 q_383, fun a => ?_⟩
    replace hw := hw a
    refine bj_sub [] (lo' := []) rfl ?_
    exact m_L_origins_11 hR hw
theorem d_R_origins_0 : decode prog_9_method_34_code 0 = .ok (.aload_n 0, 1) := by decide +kernel
theorem d_R_origins_1 : decode prog_9_method_34_code 1 = .ok (.aload_n 0, 1) := by decide +kernel
theorem d_R_origins_2 : decode prog_9_method_34_code 2 = .ok (.iload_n 1, 1) := by decide +kernel
theorem d_R_origins_3 : decode prog_9_method_34_code 3 = .ok (.invokevirtual 95, 3) := by decide +kernel
theorem d_R_origins_6 : decode prog_9_method_34_code 6 = .ok (.ifCond .eq 7, 3) := by decide +kernel
theorem d_R_origins_9 : decode prog_9_method_34_code 9 = .ok (.iconst 1, 1) := by decide +kernel
theorem d_R_origins_10 : decode prog_9_method_34_code 10 = .ok (.goto 4, 3) := by decide +kernel
theorem d_R_origins_13 : decode prog_9_method_34_code 13 = .ok (.iconst 0, 1) := by decide +kernel
theorem d_R_origins_14 : decode prog_9_method_34_code 14 = .ok (.putfield 85, 3) := by decide +kernel
theorem d_R_origins_17 : decode prog_9_method_34_code 17 = .ok (.aload_n 0, 1) := by decide +kernel
theorem d_R_origins_18 : decode prog_9_method_34_code 18 = .ok (.getfield 85, 3) := by decide +kernel
theorem d_R_origins_21 : decode prog_9_method_34_code 21 = .ok (.ifCond .eq 5, 3) := by decide +kernel
theorem d_R_origins_24 : decode prog_9_method_34_code 24 = .ok (.lconst 0, 1) := by decide +kernel
theorem d_R_origins_25 : decode prog_9_method_34_code 25 = .ok (.lreturn, 1) := by decide +kernel
theorem d_R_origins_26 : decode prog_9_method_34_code 26 = .ok (.aload_n 0, 1) := by decide +kernel
theorem d_R_origins_27 : decode prog_9_method_34_code 27 = .ok (.invokevirtual 161, 3) := by decide +kernel
theorem d_R_origins_30 : decode prog_9_method_34_code 30 = .ok (.aload_n 0, 1) := by decide +kernel
theorem d_R_origins_31 : decode prog_9_method_34_code 31 = .ok (.getfield 35, 3) := by decide +kernel
theorem d_R_origins_34 : decode prog_9_method_34_code 34 = .ok (.iload_n 1, 1) := by decide +kernel
theorem d_R_origins_35 : decode prog_9_method_34_code 35 = .ok (.laload, 1) := by decide +kernel
theorem d_R_origins_36 : decode prog_9_method_34_code 36 = .ok (.lreturn, 1) := by decide +kernel
def w_R_origins_14 (Φ : bs_R → bs_H → Prop) (x0 : Nat) (x1 : Int32) (s0 : Nat) (s1 : Int32) (h : bs_H) : Prop :=
  bs_p h s0 7 0 (.int s1) (fun h1 => bs_fI h1 x0 7 0 (fun v2 => bs_if (v2 = 0) (bs_on h1 x0 7 (w_R_goAll (bs_kV Φ fun h3 => (bs_fA h3 x0 7 12 (fun v4 => bs_lL h3 v4 x1 (fun v5 => Φ (.ok (some (.long v5))) h3)))) x0 h1)) (Φ (.ok (some (.long 0))) h1)))
def w_R_origins (Φ : bs_R → bs_H → Prop) (x0 : Nat) (x1 : Int32) (h : bs_H) : Prop :=
  bs_on h x0 7 (w_R_noBit (bs_kI Φ fun v1 h2 => (bs_if (v1 = 0) (w_R_origins_14 Φ x0 x1 x0 0 h2) (w_R_origins_14 Φ x0 x1 x0 1 h2))) x0 x1 h)
theorem m_R_origins_14 {l : Launch} {R : Room} {Φ : bs_R → bs_H → Prop} (hR : bs_rm 5 R) {x0 : Nat} {x1 : Int32} {s0 : Nat} {s1 : Int32} {h : bs_H} (hw : w_R_origins_14 Φ x0 x1 s0 s1 h) : bs_J l K_R_origins R Φ 14 [(0, .ref x0), (1, .int x1)] [.int s1, .ref s0] h := by
  unfold w_R_origins_14 at hw
  obtain ⟨fs, hx, hlen, hw⟩ := hw
  refine bj_put (pc := 14) (ci := 7) (k := 0) (fs := fs) (v := (.int s1)) (ty := .int) d_R_origins_14 rfl (by decide) q_748 rfl (by decide +kernel) rfl rfl hx hlen ?_
  refine bj_aload_n (pc := 17) 0 d_R_origins_17 rfl rfl ?_
  obtain ⟨fs, v2, hx, hv, hw⟩ := hw
  refine bj_get (pc := 18) (ci := 7) (k := 0) (fs := fs) (v := .int v2) d_R_origins_18 rfl (by decide) q_748 hx hv ?_
  refine bj_if_eq (pc := 21) (tgt := 26) d_R_origins_21 (by decide) (fun hc => ?_) (fun hc => ?_)
  · replace hw := hw.1 hc
    refine bj_aload_n (pc := 26) 0 d_R_origins_26 rfl rfl ?_
    obtain ⟨⟨fs, hx⟩, hw⟩ := hw
    refine bj_callV (pc := 27) (np := 0) (K' := K_R_goAll) (argsL := []) (st := []) (d1 := 4) (ci := 7) (fs := fs) rfl d_R_origins_27 (Or.inl q_923) q_925 rfl q_37 c_R_goAll n_R_goAll hR (by decide) (by decide) rfl (Nat.le_of_ble_eq_true rfl) rfl (Nat.le_of_ble_eq_true rfl) hx (fun R' hR' => m_R_goAll hR' hw) (bs_kV_ok fun h3 hw => ?_) (fun _ _ z => z)
    refine bj_aload_n (pc := 30) 0 d_R_origins_30 rfl rfl ?_
    obtain ⟨fs, v4, hx, hv, hw⟩ := hw
    refine bj_get (pc := 31) (ci := 7) (k := 12) (fs := fs) (v := .ref v4) d_R_origins_31 rfl (by decide) q_760 hx hv ?_
    refine bj_iload_n (pc := 34) 1 d_R_origins_34 rfl rfl ?_
    obtain ⟨n, f, v5, hx, hin, hv, hw⟩ := hw
    refine bj_lald (pc := 35) (n := n) (f := f) d_R_origins_35 hx hin hv ?_
    exact bj_lret (pc := 36) d_R_origins_36 rfl hw
  · replace hw := hw.2 hc
    refine bj_lconst (pc := 24) (v := 0) d_R_origins_24 (by decide) ?_
    exact bj_lret (pc := 25) d_R_origins_25 rfl hw
theorem m_R_origins {l : Launch} {R : Room} (hR : bs_rm 5 R) {Φ : bs_R → bs_H → Prop} {x0 : Nat} {x1 : Int32} {h : bs_H} (hw : w_R_origins Φ x0 x1 h) : bs_J l K_R_origins R Φ 0 [(0, .ref x0), (1, .int x1)] [] h := by
  unfold w_R_origins at hw
  refine bj_aload_n (pc := 0) 0 d_R_origins_0 rfl rfl ?_
  refine bj_aload_n (pc := 1) 0 d_R_origins_1 rfl rfl ?_
  refine bj_iload_n (pc := 2) 1 d_R_origins_2 rfl rfl ?_
  obtain ⟨⟨fs, hx⟩, hw⟩ := hw
  refine bj_callV (pc := 3) (np := 1) (K' := K_R_noBit) (argsL := [.int x1]) (st := [.ref x0]) (d1 := 1) (ci := 7) (fs := fs) rfl d_R_origins_3 (Or.inl q_843) q_845 rfl q_24 c_R_noBit n_R_noBit hR (by decide) (by decide) rfl (Nat.le_of_ble_eq_true rfl) rfl (Nat.le_of_ble_eq_true rfl) hx (fun R' hR' => m_R_noBit hR' hw) (bs_kI_ok fun v1 h2 hw => ?_) (fun _ _ z => z)
  refine bj_if_eq (pc := 6) (tgt := 13) d_R_origins_6 (by decide) (fun hc => ?_) (fun hc => ?_)
  · replace hw := hw.1 hc
    refine bj_iconst (pc := 13) (v := 0) d_R_origins_13 (by decide) ?_
    exact m_R_origins_14 hR hw
  · replace hw := hw.2 hc
    refine bj_iconst (pc := 9) (v := 1) d_R_origins_9 (by decide) ?_
    refine bj_goto (pc := 10) (tgt := 14) d_R_origins_10 (by decide) ?_
    exact m_R_origins_14 hR hw
theorem d_B_constant_0 : decode prog_1_method_14_code 0 = .ok (.aload_n 0, 1) := by decide +kernel
theorem d_B_constant_1 : decode prog_1_method_14_code 1 = .ok (.iload_n 1, 1) := by decide +kernel
theorem d_B_constant_2 : decode prog_1_method_14_code 2 = .ok (.invokevirtual 72, 3) := by decide +kernel
theorem d_B_constant_5 : decode prog_1_method_14_code 5 = .ok (.aload_n 0, 1) := by decide +kernel
theorem d_B_constant_6 : decode prog_1_method_14_code 6 = .ok (.getfield 44, 3) := by decide +kernel
theorem d_B_constant_9 : decode prog_1_method_14_code 9 = .ok (.aload_n 0, 1) := by decide +kernel
theorem d_B_constant_10 : decode prog_1_method_14_code 10 = .ok (.getfield 30, 3) := by decide +kernel
theorem d_B_constant_13 : decode prog_1_method_14_code 13 = .ok (.aload_n 0, 1) := by decide +kernel
theorem d_B_constant_14 : decode prog_1_method_14_code 14 = .ok (.getfield 12, 3) := by decide +kernel
theorem d_B_constant_17 : decode prog_1_method_14_code 17 = .ok (.invokevirtual 91, 3) := by decide +kernel
theorem d_B_constant_20 : decode prog_1_method_14_code 20 = .ok (.invokevirtual 144, 3) := by decide +kernel
theorem d_B_constant_23 : decode prog_1_method_14_code 23 = .ok (.aload_n 0, 1) := by decide +kernel
theorem d_B_constant_24 : decode prog_1_method_14_code 24 = .ok (.getfield 44, 3) := by decide +kernel
theorem d_B_constant_27 : decode prog_1_method_14_code 27 = .ok (.iload_n 1, 1) := by decide +kernel
theorem d_B_constant_28 : decode prog_1_method_14_code 28 = .ok (.invokevirtual 155, 3) := by decide +kernel
theorem d_B_constant_31 : decode prog_1_method_14_code 31 = .ok (.ireturn, 1) := by decide +kernel
def w_B_constant (Φ : bs_R → bs_H → Prop) (x0 : Nat) (x1 : Int32) (h : bs_H) : Prop :=
  bs_on h x0 0 (w_B_requireBit (bs_kV Φ fun h1 => (bs_fA h1 x0 0 6 (fun v2 => bs_fA h1 x0 0 4 (fun v3 => bs_fA h1 x0 0 0 (fun v4 => bs_on h1 v4 1 (w_M_bits (bs_kI Φ fun v5 h6 => (bs_on h6 v2 4 (w_S_trace (bs_kV Φ fun h7 => (bs_fA h7 x0 0 6 (fun v8 => bs_on h7 v8 4 (w_S_hasOne (bs_kI Φ fun v9 h10 => (bs_rZ Φ v9 h10)) v8 x1 h7)))) v2 v3 v5 h6))) v4 h1)))))) x0 x1 h)
theorem m_B_constant {l : Launch} {R : Room} (hR : bs_rm 5 R) {Φ : bs_R → bs_H → Prop} {x0 : Nat} {x1 : Int32} {h : bs_H} (hw : w_B_constant Φ x0 x1 h) : bs_J l K_B_constant R Φ 0 [(0, .ref x0), (1, .int x1)] [] h := by
  unfold w_B_constant at hw
  refine bj_aload_n (pc := 0) 0 d_B_constant_0 rfl rfl ?_
  refine bj_iload_n (pc := 1) 1 d_B_constant_1 rfl rfl ?_
  obtain ⟨⟨fs, hx⟩, hw⟩ := hw
  refine bj_callV (pc := 2) (np := 1) (K' := K_B_requireBit) (argsL := [.int x1]) (st := []) (d1 := 2) (ci := 0) (fs := fs) rfl d_B_constant_2 (Or.inl q_456) q_458 rfl q_13 c_B_requireBit n_B_requireBit hR (by decide) (by decide) rfl (Nat.le_of_ble_eq_true rfl) rfl (Nat.le_of_ble_eq_true rfl) hx (fun R' hR' => m_B_requireBit hR' hw) (bs_kV_ok fun h1 hw => ?_) (fun _ _ z => z)
  refine bj_aload_n (pc := 5) 0 d_B_constant_5 rfl rfl ?_
  obtain ⟨fs, v2, hx, hv, hw⟩ := hw
  refine bj_get (pc := 6) (ci := 0) (k := 6) (fs := fs) (v := .ref v2) d_B_constant_6 rfl (by decide) q_202 hx hv ?_
  refine bj_aload_n (pc := 9) 0 d_B_constant_9 rfl rfl ?_
  obtain ⟨fs, v3, hx, hv, hw⟩ := hw
  refine bj_get (pc := 10) (ci := 0) (k := 4) (fs := fs) (v := .ref v3) d_B_constant_10 rfl (by decide) q_200 hx hv ?_
  refine bj_aload_n (pc := 13) 0 d_B_constant_13 rfl rfl ?_
  obtain ⟨fs, v4, hx, hv, hw⟩ := hw
  refine bj_get (pc := 14) (ci := 0) (k := 0) (fs := fs) (v := .ref v4) d_B_constant_14 rfl (by decide) q_196 hx hv ?_
  obtain ⟨⟨fs, hx⟩, hw⟩ := hw
  refine bj_callV (pc := 17) (np := 0) (K' := K_M_bits) (argsL := []) (st := [.ref v3, .ref v2]) (d1 := 1) (ci := 1) (fs := fs) rfl d_B_constant_17 (Or.inl q_236) q_237 rfl q_238 c_M_bits n_M_bits hR (by decide) (by decide) rfl (Nat.le_of_ble_eq_true rfl) rfl (Nat.le_of_ble_eq_true rfl) hx (fun R' hR' => m_M_bits hR' hw) (bs_kI_ok fun v5 h6 hw => ?_) (fun _ _ z => z)
  obtain ⟨⟨fs, hx⟩, hw⟩ := hw
  refine bj_callV (pc := 20) (np := 2) (K' := K_S_trace) (argsL := [.ref v3, .int v5]) (st := []) (d1 := 4) (ci := 4) (fs := fs) rfl d_B_constant_20 (Or.inl q_304) q_305 rfl q_306 c_S_trace n_S_trace hR (by decide) (by decide) rfl (Nat.le_of_ble_eq_true rfl) rfl (Nat.le_of_ble_eq_true rfl) hx (fun R' hR' => m_S_trace hR' hw) (bs_kV_ok fun h7 hw => ?_) (fun _ _ z => z)
  refine bj_aload_n (pc := 23) 0 d_B_constant_23 rfl rfl ?_
  obtain ⟨fs, v8, hx, hv, hw⟩ := hw
  refine bj_get (pc := 24) (ci := 0) (k := 6) (fs := fs) (v := .ref v8) d_B_constant_24 rfl (by decide) q_202 hx hv ?_
  refine bj_iload_n (pc := 27) 1 d_B_constant_27 rfl rfl ?_
  obtain ⟨⟨fs, hx⟩, hw⟩ := hw
  refine bj_callV (pc := 28) (np := 1) (K' := K_S_hasOne) (argsL := [.int x1]) (st := []) (d1 := 2) (ci := 4) (fs := fs) rfl d_B_constant_28 (Or.inl q_665) q_360 rfl q_361 c_S_hasOne n_S_hasOne hR (by decide) (by decide) rfl (Nat.le_of_ble_eq_true rfl) rfl (Nat.le_of_ble_eq_true rfl) hx (fun R' hR' => m_S_hasOne hR' hw) (bs_kI_ok fun v9 h10 hw => ?_) (fun _ _ z => z)
  exact bj_zret (pc := 31) d_B_constant_31 rfl hw.1 hw.2
theorem d_L_constant_0 : decode method_11_code 0 = .ok (.aload_n 2, 1) := by decide +kernel
theorem d_L_constant_1 : decode method_11_code 1 = .ok (.iconst 0, 1) := by decide +kernel
theorem d_L_constant_2 : decode method_11_code 2 = .ok (.aload_n 0, 1) := by decide +kernel
theorem d_L_constant_3 : decode method_11_code 3 = .ok (.iload_n 1, 1) := by decide +kernel
theorem d_L_constant_4 : decode method_11_code 4 = .ok (.invokevirtual 45, 3) := by decide +kernel
theorem d_L_constant_7 : decode method_11_code 7 = .ok (.ifCond .eq 7, 3) := by decide +kernel
theorem d_L_constant_10 : decode method_11_code 10 = .ok (.lconst 1, 1) := by decide +kernel
theorem d_L_constant_11 : decode method_11_code 11 = .ok (.goto 4, 3) := by decide +kernel
theorem d_L_constant_14 : decode method_11_code 14 = .ok (.lconst 0, 1) := by decide +kernel
theorem d_L_constant_15 : decode method_11_code 15 = .ok (.lastore, 1) := by decide +kernel
theorem d_L_constant_16 : decode method_11_code 16 = .ok (.goto 6, 3) := by decide +kernel
theorem d_L_constant_19 : decode method_11_code 19 = .ok (.astore_n 3, 1) := by decide +kernel
theorem d_L_constant_20 : decode method_11_code 20 = .ok (.iconst 1, 1) := by decide +kernel
theorem d_L_constant_21 : decode method_11_code 21 = .ok (.ireturn, 1) := by decide +kernel
theorem d_L_constant_22 : decode method_11_code 22 = .ok (.iconst 0, 1) := by decide +kernel
theorem d_L_constant_23 : decode method_11_code 23 = .ok (.ireturn, 1) := by decide +kernel
def w_L_constant_19 (Φ : bs_R → bs_H → Prop) (s0 : Nat) (h : bs_H) : Prop :=
  Φ (.ok (some (.int 1))) h
def w_L_constant_15 (Φ : bs_R → bs_H → Prop) (s0 : Nat) (s1 : Int32) (s2 : Int64) (h : bs_H) : Prop :=
  bs_sL h s0 s1 s2 (fun h1 => Φ (.ok (some (.int 0))) h1)
def w_L_constant (Φ : bs_R → bs_H → Prop) (x0 : Nat) (x1 : Int32) (x2 : Nat) (h : bs_H) : Prop :=
  bs_on h x0 0 (w_B_constant (bs_kI (bs_hd fun E3 h4 => (E3 = "java/lang/IllegalArgumentException" ∧ ∀ a, w_L_constant_19 Φ a h4)) fun v1 h2 => (bs_if (v1 = 0) (w_L_constant_15 Φ x2 0 0 h2) (w_L_constant_15 Φ x2 0 1 h2))) x0 x1 h)
theorem m_L_constant_19 {l : Launch} {R : Room} {Φ : bs_R → bs_H → Prop} (hR : bs_rm 6 R) {s0 : Nat} {h : bs_H} (hw : w_L_constant_19 Φ s0 h) : bs_J l K_L_constant R Φ 19 [] [.ref s0] h := by
  unfold w_L_constant_19 at hw
  refine bj_astore_n (pc := 19) (lo' := [(3, .ref s0)]) d_L_constant_19 rfl (by decide) rfl ?_
  refine bj_iconst (pc := 20) (v := 1) d_L_constant_20 (by decide) ?_
  exact bj_iret (pc := 21) d_L_constant_21 rfl hw
theorem m_L_constant_15 {l : Launch} {R : Room} {Φ : bs_R → bs_H → Prop} (hR : bs_rm 6 R) {s0 : Nat} {s1 : Int32} {s2 : Int64} {h : bs_H} (hw : w_L_constant_15 Φ s0 s1 s2 h) : bs_J l K_L_constant R Φ 15 [] [.long s2, .int s1, .ref s0] h := by
  unfold w_L_constant_15 at hw
  obtain ⟨n, f, hx, hin, hw⟩ := hw
  refine bj_last (pc := 15) (n := n) (f := f) d_L_constant_15 hx hin ?_
  refine bj_goto (pc := 16) (tgt := 22) d_L_constant_16 (by decide) ?_
  refine bj_iconst (pc := 22) (v := 0) d_L_constant_22 (by decide) ?_
  exact bj_iret (pc := 23) d_L_constant_23 rfl hw
theorem m_L_constant {l : Launch} {R : Room} (hR : bs_rm 6 R) {Φ : bs_R → bs_H → Prop} {x0 : Nat} {x1 : Int32} {x2 : Nat} {h : bs_H} (hw : w_L_constant Φ x0 x1 x2 h) : bs_J l K_L_constant R Φ 0 [(0, .ref x0), (1, .int x1), (2, .ref x2)] [] h := by
  unfold w_L_constant at hw
  refine bj_aload_n (pc := 0) 2 d_L_constant_0 rfl rfl ?_
  refine bj_iconst (pc := 1) (v := 0) d_L_constant_1 (by decide) ?_
  refine bj_aload_n (pc := 2) 0 d_L_constant_2 rfl rfl ?_
  refine bj_iload_n (pc := 3) 1 d_L_constant_3 rfl rfl ?_
  obtain ⟨⟨fs, hx⟩, hw⟩ := hw
  refine bj_callVC (pc := 4) (np := 1) (K' := K_B_constant) (argsL := [.int x1]) (st := [.int 0, .ref x2]) (d1 := 5) (ci := 0) (fs := fs) rfl d_L_constant_4 (Or.inl q_661) q_662 rfl q_663 c_B_constant n_B_constant hR (by decide) (by decide) (Nat.le_of_ble_eq_true rfl) rfl (Nat.le_of_ble_eq_true rfl) hx (fun R' hR' => m_B_constant hR' hw) (bs_kI_ok fun v1 h2 hw => ?_) ?_
  · refine bj_if_eq (pc := 7) (tgt := 14) d_L_constant_7 (by decide) (fun hc => ?_) (fun hc => ?_)
    · replace hw := hw.1 hc
      refine bj_lconst (pc := 14) (v := 0) d_L_constant_14 (by decide) ?_
      refine bj_sub [] (lo' := []) rfl ?_
      exact m_L_constant_15 hR hw
    · replace hw := hw.2 hc
      refine bj_lconst (pc := 10) (v := 1) d_L_constant_10 (by decide) ?_
      refine bj_goto (pc := 11) (tgt := 15) d_L_constant_11 (by decide) ?_
      refine bj_sub [] (lo' := []) rfl ?_
      exact m_L_constant_15 hR hw
  · intro E3 h4 hw
    obtain ⟨rfl, hw⟩ := hw
    refine ⟨19, bs_hand1 rfl (by decide) (by decide) q_376 q_383, fun a => ?_⟩
    replace hw := hw a
    refine bj_sub [] (lo' := []) rfl ?_
    exact m_L_constant_19 hR hw
theorem d_R_constant_0 : decode prog_9_method_35_code 0 = .ok (.aload_n 0, 1) := by decide +kernel
theorem d_R_constant_1 : decode prog_9_method_35_code 1 = .ok (.aload_n 0, 1) := by decide +kernel
theorem d_R_constant_2 : decode prog_9_method_35_code 2 = .ok (.iload_n 1, 1) := by decide +kernel
theorem d_R_constant_3 : decode prog_9_method_35_code 3 = .ok (.invokevirtual 95, 3) := by decide +kernel
theorem d_R_constant_6 : decode prog_9_method_35_code 6 = .ok (.ifCond .eq 7, 3) := by decide +kernel
theorem d_R_constant_9 : decode prog_9_method_35_code 9 = .ok (.iconst 1, 1) := by decide +kernel
theorem d_R_constant_10 : decode prog_9_method_35_code 10 = .ok (.goto 4, 3) := by decide +kernel
theorem d_R_constant_13 : decode prog_9_method_35_code 13 = .ok (.iconst 0, 1) := by decide +kernel
theorem d_R_constant_14 : decode prog_9_method_35_code 14 = .ok (.putfield 85, 3) := by decide +kernel
theorem d_R_constant_17 : decode prog_9_method_35_code 17 = .ok (.aload_n 0, 1) := by decide +kernel
theorem d_R_constant_18 : decode prog_9_method_35_code 18 = .ok (.getfield 85, 3) := by decide +kernel
theorem d_R_constant_21 : decode prog_9_method_35_code 21 = .ok (.ifCond .eq 5, 3) := by decide +kernel
theorem d_R_constant_24 : decode prog_9_method_35_code 24 = .ok (.iconst 0, 1) := by decide +kernel
theorem d_R_constant_25 : decode prog_9_method_35_code 25 = .ok (.ireturn, 1) := by decide +kernel
theorem d_R_constant_26 : decode prog_9_method_35_code 26 = .ok (.aload_n 0, 1) := by decide +kernel
theorem d_R_constant_27 : decode prog_9_method_35_code 27 = .ok (.invokevirtual 161, 3) := by decide +kernel
theorem d_R_constant_30 : decode prog_9_method_35_code 30 = .ok (.aload_n 0, 1) := by decide +kernel
theorem d_R_constant_31 : decode prog_9_method_35_code 31 = .ok (.getfield 38, 3) := by decide +kernel
theorem d_R_constant_34 : decode prog_9_method_35_code 34 = .ok (.iload_n 1, 1) := by decide +kernel
theorem d_R_constant_35 : decode prog_9_method_35_code 35 = .ok (.baload, 1) := by decide +kernel
theorem d_R_constant_36 : decode prog_9_method_35_code 36 = .ok (.ireturn, 1) := by decide +kernel
def w_R_constant_14 (Φ : bs_R → bs_H → Prop) (x0 : Nat) (x1 : Int32) (s0 : Nat) (s1 : Int32) (h : bs_H) : Prop :=
  bs_p h s0 7 0 (.int s1) (fun h1 => bs_fI h1 x0 7 0 (fun v2 => bs_if (v2 = 0) (bs_on h1 x0 7 (w_R_goAll (bs_kV Φ fun h3 => (bs_fA h3 x0 7 13 (fun v4 => bs_lZ h3 v4 x1 (fun v5 => bs_rZ Φ v5 h3)))) x0 h1)) (bs_rZ Φ 0 h1)))
def w_R_constant (Φ : bs_R → bs_H → Prop) (x0 : Nat) (x1 : Int32) (h : bs_H) : Prop :=
  bs_on h x0 7 (w_R_noBit (bs_kI Φ fun v1 h2 => (bs_if (v1 = 0) (w_R_constant_14 Φ x0 x1 x0 0 h2) (w_R_constant_14 Φ x0 x1 x0 1 h2))) x0 x1 h)
theorem m_R_constant_14 {l : Launch} {R : Room} {Φ : bs_R → bs_H → Prop} (hR : bs_rm 5 R) {x0 : Nat} {x1 : Int32} {s0 : Nat} {s1 : Int32} {h : bs_H} (hw : w_R_constant_14 Φ x0 x1 s0 s1 h) : bs_J l K_R_constant R Φ 14 [(0, .ref x0), (1, .int x1)] [.int s1, .ref s0] h := by
  unfold w_R_constant_14 at hw
  obtain ⟨fs, hx, hlen, hw⟩ := hw
  refine bj_put (pc := 14) (ci := 7) (k := 0) (fs := fs) (v := (.int s1)) (ty := .int) d_R_constant_14 rfl (by decide) q_748 rfl (by decide +kernel) rfl rfl hx hlen ?_
  refine bj_aload_n (pc := 17) 0 d_R_constant_17 rfl rfl ?_
  obtain ⟨fs, v2, hx, hv, hw⟩ := hw
  refine bj_get (pc := 18) (ci := 7) (k := 0) (fs := fs) (v := .int v2) d_R_constant_18 rfl (by decide) q_748 hx hv ?_
  refine bj_if_eq (pc := 21) (tgt := 26) d_R_constant_21 (by decide) (fun hc => ?_) (fun hc => ?_)
  · replace hw := hw.1 hc
    refine bj_aload_n (pc := 26) 0 d_R_constant_26 rfl rfl ?_
    obtain ⟨⟨fs, hx⟩, hw⟩ := hw
    refine bj_callV (pc := 27) (np := 0) (K' := K_R_goAll) (argsL := []) (st := []) (d1 := 4) (ci := 7) (fs := fs) rfl d_R_constant_27 (Or.inl q_923) q_925 rfl q_37 c_R_goAll n_R_goAll hR (by decide) (by decide) rfl (Nat.le_of_ble_eq_true rfl) rfl (Nat.le_of_ble_eq_true rfl) hx (fun R' hR' => m_R_goAll hR' hw) (bs_kV_ok fun h3 hw => ?_) (fun _ _ z => z)
    refine bj_aload_n (pc := 30) 0 d_R_constant_30 rfl rfl ?_
    obtain ⟨fs, v4, hx, hv, hw⟩ := hw
    refine bj_get (pc := 31) (ci := 7) (k := 13) (fs := fs) (v := .ref v4) d_R_constant_31 rfl (by decide) q_761 hx hv ?_
    refine bj_iload_n (pc := 34) 1 d_R_constant_34 rfl rfl ?_
    obtain ⟨n, f, v5, hx, hin, hv, hw⟩ := hw
    refine bj_zald (pc := 35) (n := n) (f := f) d_R_constant_35 hx hin hv ?_
    exact bj_zret (pc := 36) d_R_constant_36 rfl hw.1 hw.2
  · replace hw := hw.2 hc
    refine bj_iconst (pc := 24) (v := 0) d_R_constant_24 (by decide) ?_
    exact bj_zret (pc := 25) d_R_constant_25 rfl hw.1 hw.2
theorem m_R_constant {l : Launch} {R : Room} (hR : bs_rm 5 R) {Φ : bs_R → bs_H → Prop} {x0 : Nat} {x1 : Int32} {h : bs_H} (hw : w_R_constant Φ x0 x1 h) : bs_J l K_R_constant R Φ 0 [(0, .ref x0), (1, .int x1)] [] h := by
  unfold w_R_constant at hw
  refine bj_aload_n (pc := 0) 0 d_R_constant_0 rfl rfl ?_
  refine bj_aload_n (pc := 1) 0 d_R_constant_1 rfl rfl ?_
  refine bj_iload_n (pc := 2) 1 d_R_constant_2 rfl rfl ?_
  obtain ⟨⟨fs, hx⟩, hw⟩ := hw
  refine bj_callV (pc := 3) (np := 1) (K' := K_R_noBit) (argsL := [.int x1]) (st := [.ref x0]) (d1 := 1) (ci := 7) (fs := fs) rfl d_R_constant_3 (Or.inl q_843) q_845 rfl q_24 c_R_noBit n_R_noBit hR (by decide) (by decide) rfl (Nat.le_of_ble_eq_true rfl) rfl (Nat.le_of_ble_eq_true rfl) hx (fun R' hR' => m_R_noBit hR' hw) (bs_kI_ok fun v1 h2 hw => ?_) (fun _ _ z => z)
  refine bj_if_eq (pc := 6) (tgt := 13) d_R_constant_6 (by decide) (fun hc => ?_) (fun hc => ?_)
  · replace hw := hw.1 hc
    refine bj_iconst (pc := 13) (v := 0) d_R_constant_13 (by decide) ?_
    exact m_R_constant_14 hR hw
  · replace hw := hw.2 hc
    refine bj_iconst (pc := 9) (v := 1) d_R_constant_9 (by decide) ?_
    refine bj_goto (pc := 10) (tgt := 14) d_R_constant_10 (by decide) ?_
    exact m_R_constant_14 hR hw
theorem d_P_allTicks_0 : decode prog_4_method_12_code 0 = .ok (.iconst 0, 1) := by decide +kernel
theorem d_P_allTicks_1 : decode prog_4_method_12_code 1 = .ok (.istore_n 1, 1) := by decide +kernel
theorem d_P_allTicks_2 : decode prog_4_method_12_code 2 = .ok (.iconst 0, 1) := by decide +kernel
theorem d_P_allTicks_3 : decode prog_4_method_12_code 3 = .ok (.istore_n 2, 1) := by decide +kernel
theorem d_P_allTicks_4 : decode prog_4_method_12_code 4 = .ok (.iload_n 2, 1) := by decide +kernel
theorem d_P_allTicks_5 : decode prog_4_method_12_code 5 = .ok (.aload_n 0, 1) := by decide +kernel
theorem d_P_allTicks_6 : decode prog_4_method_12_code 6 = .ok (.getfield 22, 3) := by decide +kernel
theorem d_P_allTicks_9 : decode prog_4_method_12_code 9 = .ok (.if_icmp .ge 22, 3) := by decide +kernel
theorem d_P_allTicks_12 : decode prog_4_method_12_code 12 = .ok (.iload_n 1, 1) := by decide +kernel
theorem d_P_allTicks_13 : decode prog_4_method_12_code 13 = .ok (.getstatic 33, 3) := by decide +kernel
theorem d_P_allTicks_16 : decode prog_4_method_12_code 16 = .ok (.aload_n 0, 1) := by decide +kernel
theorem d_P_allTicks_17 : decode prog_4_method_12_code 17 = .ok (.getfield 9, 3) := by decide +kernel
theorem d_P_allTicks_20 : decode prog_4_method_12_code 20 = .ok (.iload_n 2, 1) := by decide +kernel
theorem d_P_allTicks_21 : decode prog_4_method_12_code 21 = .ok (.iaload, 1) := by decide +kernel
theorem d_P_allTicks_22 : decode prog_4_method_12_code 22 = .ok (.iaload, 1) := by decide +kernel
theorem d_P_allTicks_23 : decode prog_4_method_12_code 23 = .ok (.iadd, 1) := by decide +kernel
theorem d_P_allTicks_24 : decode prog_4_method_12_code 24 = .ok (.istore_n 1, 1) := by decide +kernel
theorem d_P_allTicks_25 : decode prog_4_method_12_code 25 = .ok (.iinc 2 1, 3) := by decide +kernel
theorem d_P_allTicks_28 : decode prog_4_method_12_code 28 = .ok (.goto (-24), 3) := by decide +kernel
theorem d_P_allTicks_31 : decode prog_4_method_12_code 31 = .ok (.iload_n 1, 1) := by decide +kernel
theorem d_P_allTicks_32 : decode prog_4_method_12_code 32 = .ok (.ireturn, 1) := by decide +kernel
def w_P_allTicks_4_s (Φ : bs_R → bs_H → Prop) (nx4 : Nat → Int32 → Int32 → bs_H → Prop) (x0 : Nat) (x1 : Int32) (x2 : Int32) (h : bs_H) : Prop :=
  bs_fI h x0 2 3 (fun v1 => bs_if (v1 ≤ x2) (Φ (.ok (some (.int x1))) h) (bs_tk h (fun v2 => bs_fA h x0 2 0 (fun v3 => bs_lI h v3 x2 (fun v4 => bs_lX h v2 v4 (fun v5 => nx4 x0 (x1 + v5) (x2 + 1) h))))))
def w_P_allTicks_4 (Φ : bs_R → bs_H → Prop) : Nat → Nat → Int32 → Int32 → bs_H → Prop
  | 0 => fun _ _ _ _ => False
  | n + 1 => fun x0 x1 x2 h => w_P_allTicks_4_s Φ (w_P_allTicks_4 Φ n) x0 x1 x2 h
def w_P_allTicks (Φ : bs_R → bs_H → Prop) (x0 : Nat) (h : bs_H) : Prop :=
  w_P_allTicks_4 Φ 1000 x0 0 0 h
theorem m_P_allTicks_4 {l : Launch} {R : Room} {Φ : bs_R → bs_H → Prop} (hR : bs_rm 1 R) : ∀ (n : Nat) (x0 : Nat) (x1 : Int32) (x2 : Int32) (h : bs_H), w_P_allTicks_4 Φ n x0 x1 x2 h → bs_J l K_P_allTicks R Φ 4 [(0, .ref x0), (1, .int x1), (2, .int x2)] [] h := by
  intro n
  induction n with
  | zero => intro x0 x1 x2 h hw; exact hw.elim
  | succ n ih =>
    have hnx4 := ih
    intro x0 x1 x2 h hw
    replace hw : w_P_allTicks_4_s Φ (w_P_allTicks_4 Φ n) x0 x1 x2 h := hw
    unfold w_P_allTicks_4_s at hw
    refine bj_iload_n (pc := 4) 2 d_P_allTicks_4 rfl rfl ?_
    refine bj_aload_n (pc := 5) 0 d_P_allTicks_5 rfl rfl ?_
    obtain ⟨fs, v1, hx, hv, hw⟩ := hw
    refine bj_get (pc := 6) (ci := 2) (k := 3) (fs := fs) (v := .int v1) d_P_allTicks_6 rfl (by decide) q_96 hx hv ?_
    refine bj_icmp_ge (pc := 9) (tgt := 31) d_P_allTicks_9 (by decide) (fun hc => ?_) (fun hc => ?_)
    · replace hw := hw.1 hc
      refine bj_iload_n (pc := 31) 1 d_P_allTicks_31 rfl rfl ?_
      exact bj_iret (pc := 32) d_P_allTicks_32 rfl hw
    · replace hw := hw.2 hc
      refine bj_iload_n (pc := 12) 1 d_P_allTicks_12 rfl rfl ?_
      obtain ⟨v2, hv, hw⟩ := hw
      refine bj_ticks (pc := 13) d_P_allTicks_13 q_371 hv ?_
      refine bj_aload_n (pc := 16) 0 d_P_allTicks_16 rfl rfl ?_
      obtain ⟨fs, v3, hx, hv, hw⟩ := hw
      refine bj_get (pc := 17) (ci := 2) (k := 0) (fs := fs) (v := .ref v3) d_P_allTicks_17 rfl (by decide) q_93 hx hv ?_
      refine bj_iload_n (pc := 20) 2 d_P_allTicks_20 rfl rfl ?_
      obtain ⟨n, f, v4, hx, hin, hv, hw⟩ := hw
      refine bj_iald (pc := 21) (n := n) (f := f) d_P_allTicks_21 hx hin hv ?_
      obtain ⟨n, f, v5, hx, hin, hv, hw⟩ := hw
      refine bj_xald (pc := 22) (n := n) (f := f) d_P_allTicks_22 hx hin hv ?_
      refine bj_iadd (pc := 23) d_P_allTicks_23 ?_
      refine bj_istore_n (pc := 24) (lo' := [(1, .int (x1 + v5)), (0, .ref x0), (2, .int x2)]) d_P_allTicks_24 rfl (by decide) rfl ?_
      refine bj_iinc (pc := 25) (v := (x2 + 1)) (lo' := [(2, .int (x2 + 1)), (1, .int (x1 + v5)), (0, .ref x0)]) 2 d_P_allTicks_25 rfl rfl (by decide) rfl ?_
      refine bj_goto (pc := 28) (tgt := 4) d_P_allTicks_28 (by decide) ?_
      refine bj_sub [2, 1, 0] (lo' := [(0, .ref x0), (1, .int (x1 + v5)), (2, .int (x2 + 1))]) rfl ?_
      exact hnx4 _ _ _ _ hw
theorem m_P_allTicks {l : Launch} {R : Room} (hR : bs_rm 1 R) {Φ : bs_R → bs_H → Prop} {x0 : Nat} {h : bs_H} (hw : w_P_allTicks Φ x0 h) : bs_J l K_P_allTicks R Φ 0 [(0, .ref x0)] [] h := by
  unfold w_P_allTicks at hw
  refine bj_iconst (pc := 0) (v := 0) d_P_allTicks_0 (by decide) ?_
  refine bj_istore_n (pc := 1) (lo' := [(1, .int 0), (0, .ref x0)]) d_P_allTicks_1 rfl (by decide) rfl ?_
  refine bj_iconst (pc := 2) (v := 0) d_P_allTicks_2 (by decide) ?_
  refine bj_istore_n (pc := 3) (lo' := [(2, .int 0), (1, .int 0), (0, .ref x0)]) d_P_allTicks_3 rfl (by decide) rfl ?_
  refine bj_sub [2, 1, 0] (lo' := [(0, .ref x0), (1, .int 0), (2, .int 0)]) rfl ?_
  exact m_P_allTicks_4 hR 1000 _ _ _ _ hw
theorem d_B_ticks_0 : decode prog_1_method_15_code 0 = .ok (.aload_n 0, 1) := by decide +kernel
theorem d_B_ticks_1 : decode prog_1_method_15_code 1 = .ok (.getfield 30, 3) := by decide +kernel
theorem d_B_ticks_4 : decode prog_1_method_15_code 4 = .ok (.invokevirtual 158, 3) := by decide +kernel
theorem d_B_ticks_7 : decode prog_1_method_15_code 7 = .ok (.ireturn, 1) := by decide +kernel
def w_B_ticks (Φ : bs_R → bs_H → Prop) (x0 : Nat) (h : bs_H) : Prop :=
  bs_fA h x0 0 4 (fun v1 => bs_on h v1 2 (w_P_allTicks (bs_kI Φ fun v2 h3 => (Φ (.ok (some (.int v2))) h3)) v1 h))
theorem m_B_ticks {l : Launch} {R : Room} (hR : bs_rm 2 R) {Φ : bs_R → bs_H → Prop} {x0 : Nat} {h : bs_H} (hw : w_B_ticks Φ x0 h) : bs_J l K_B_ticks R Φ 0 [(0, .ref x0)] [] h := by
  unfold w_B_ticks at hw
  refine bj_aload_n (pc := 0) 0 d_B_ticks_0 rfl rfl ?_
  obtain ⟨fs, v1, hx, hv, hw⟩ := hw
  refine bj_get (pc := 1) (ci := 0) (k := 4) (fs := fs) (v := .ref v1) d_B_ticks_1 rfl (by decide) q_200 hx hv ?_
  obtain ⟨⟨fs, hx⟩, hw⟩ := hw
  refine bj_callV (pc := 4) (np := 0) (K' := K_P_allTicks) (argsL := []) (st := []) (d1 := 1) (ci := 2) (fs := fs) rfl d_B_ticks_4 (Or.inl q_367) q_368 rfl q_369 c_P_allTicks n_P_allTicks hR (by decide) (by decide) rfl (Nat.le_of_ble_eq_true rfl) rfl (Nat.le_of_ble_eq_true rfl) hx (fun R' hR' => m_P_allTicks hR' hw) (bs_kI_ok fun v2 h3 hw => ?_) (fun _ _ z => z)
  exact bj_iret (pc := 7) d_B_ticks_7 rfl hw
theorem d_R_ticks_0 : decode prog_9_method_36_code 0 = .ok (.aload_n 0, 1) := by decide +kernel
theorem d_R_ticks_1 : decode prog_9_method_36_code 1 = .ok (.iconst 0, 1) := by decide +kernel
theorem d_R_ticks_2 : decode prog_9_method_36_code 2 = .ok (.putfield 85, 3) := by decide +kernel
theorem d_R_ticks_5 : decode prog_9_method_36_code 5 = .ok (.iconst 0, 1) := by decide +kernel
theorem d_R_ticks_6 : decode prog_9_method_36_code 6 = .ok (.istore_n 1, 1) := by decide +kernel
theorem d_R_ticks_7 : decode prog_9_method_36_code 7 = .ok (.iconst 0, 1) := by decide +kernel
theorem d_R_ticks_8 : decode prog_9_method_36_code 8 = .ok (.istore_n 2, 1) := by decide +kernel
theorem d_R_ticks_9 : decode prog_9_method_36_code 9 = .ok (.iload_n 2, 1) := by decide +kernel
theorem d_R_ticks_10 : decode prog_9_method_36_code 10 = .ok (.aload_n 0, 1) := by decide +kernel
theorem d_R_ticks_11 : decode prog_9_method_36_code 11 = .ok (.getfield 92, 3) := by decide +kernel
theorem d_R_ticks_14 : decode prog_9_method_36_code 14 = .ok (.if_icmp .ge 43, 3) := by decide +kernel
theorem d_R_ticks_17 : decode prog_9_method_36_code 17 = .ok (.iload_n 1, 1) := by decide +kernel
theorem d_R_ticks_18 : decode prog_9_method_36_code 18 = .ok (.aload_n 0, 1) := by decide +kernel
theorem d_R_ticks_19 : decode prog_9_method_36_code 19 = .ok (.getfield 13, 3) := by decide +kernel
theorem d_R_ticks_22 : decode prog_9_method_36_code 22 = .ok (.iload_n 2, 1) := by decide +kernel
theorem d_R_ticks_23 : decode prog_9_method_36_code 23 = .ok (.iaload, 1) := by decide +kernel
theorem d_R_ticks_24 : decode prog_9_method_36_code 24 = .ok (.iconst 5, 1) := by decide +kernel
theorem d_R_ticks_25 : decode prog_9_method_36_code 25 = .ok (.if_icmp .ne 8, 3) := by decide +kernel
theorem d_R_ticks_28 : decode prog_9_method_36_code 28 = .ok (.bipush 6, 2) := by decide +kernel
theorem d_R_ticks_30 : decode prog_9_method_36_code 30 = .ok (.goto 19, 3) := by decide +kernel
theorem d_R_ticks_33 : decode prog_9_method_36_code 33 = .ok (.aload_n 0, 1) := by decide +kernel
theorem d_R_ticks_34 : decode prog_9_method_36_code 34 = .ok (.getfield 13, 3) := by decide +kernel
theorem d_R_ticks_37 : decode prog_9_method_36_code 37 = .ok (.iload_n 2, 1) := by decide +kernel
theorem d_R_ticks_38 : decode prog_9_method_36_code 38 = .ok (.iaload, 1) := by decide +kernel
theorem d_R_ticks_39 : decode prog_9_method_36_code 39 = .ok (.bipush 6, 2) := by decide +kernel
theorem d_R_ticks_41 : decode prog_9_method_36_code 41 = .ok (.if_icmp .le 7, 3) := by decide +kernel
theorem d_R_ticks_44 : decode prog_9_method_36_code 44 = .ok (.iconst 3, 1) := by decide +kernel
theorem d_R_ticks_45 : decode prog_9_method_36_code 45 = .ok (.goto 4, 3) := by decide +kernel
theorem d_R_ticks_48 : decode prog_9_method_36_code 48 = .ok (.iconst 1, 1) := by decide +kernel
theorem d_R_ticks_49 : decode prog_9_method_36_code 49 = .ok (.iadd, 1) := by decide +kernel
theorem d_R_ticks_50 : decode prog_9_method_36_code 50 = .ok (.istore_n 1, 1) := by decide +kernel
theorem d_R_ticks_51 : decode prog_9_method_36_code 51 = .ok (.iinc 2 1, 3) := by decide +kernel
theorem d_R_ticks_54 : decode prog_9_method_36_code 54 = .ok (.goto (-45), 3) := by decide +kernel
theorem d_R_ticks_57 : decode prog_9_method_36_code 57 = .ok (.iload_n 1, 1) := by decide +kernel
theorem d_R_ticks_58 : decode prog_9_method_36_code 58 = .ok (.ireturn, 1) := by decide +kernel
def w_R_ticks_49 (Φ : bs_R → bs_H → Prop) (nx9 : Nat → Int32 → Int32 → bs_H → Prop) (x0 : Nat) (x2 : Int32) (s0 : Int32) (s1 : Int32) (h : bs_H) : Prop :=
  nx9 x0 (s0 + s1) (x2 + 1) h
def w_R_ticks_9_s (Φ : bs_R → bs_H → Prop) (nx9 : Nat → Int32 → Int32 → bs_H → Prop) (x0 : Nat) (x1 : Int32) (x2 : Int32) (h : bs_H) : Prop :=
  bs_fI h x0 7 3 (fun v1 => bs_if (v1 ≤ x2) (Φ (.ok (some (.int x1))) h) (bs_fA h x0 7 4 (fun v2 => bs_lI h v2 x2 (fun v3 => bs_if (v3 = 5) (w_R_ticks_49 Φ nx9 x0 x2 x1 6 h) (bs_fA h x0 7 4 (fun v4 => bs_lI h v4 x2 (fun v5 => bs_if (v5 ≤ 6) (w_R_ticks_49 Φ nx9 x0 x2 x1 1 h) (w_R_ticks_49 Φ nx9 x0 x2 x1 3 h))))))))
def w_R_ticks_9 (Φ : bs_R → bs_H → Prop) : Nat → Nat → Int32 → Int32 → bs_H → Prop
  | 0 => fun _ _ _ _ => False
  | n + 1 => fun x0 x1 x2 h => w_R_ticks_9_s Φ (w_R_ticks_9 Φ n) x0 x1 x2 h
def w_R_ticks (Φ : bs_R → bs_H → Prop) (x0 : Nat) (h : bs_H) : Prop :=
  bs_p h x0 7 0 (.int 0) (fun h1 => w_R_ticks_9 Φ 1000 x0 0 0 h1)
theorem m_R_ticks_49 {l : Launch} {R : Room} {Φ : bs_R → bs_H → Prop} (hR : bs_rm 1 R) {nx9 : Nat → Int32 → Int32 → bs_H → Prop} (hnx9 : ∀ (x0 : Nat) (x1 : Int32) (x2 : Int32) (h : bs_H), nx9 x0 x1 x2 h → bs_J l K_R_ticks R Φ 9 [(0, .ref x0), (1, .int x1), (2, .int x2)] [] h) {x0 : Nat} {x2 : Int32} {s0 : Int32} {s1 : Int32} {h : bs_H} (hw : w_R_ticks_49 Φ nx9 x0 x2 s0 s1 h) : bs_J l K_R_ticks R Φ 49 [(0, .ref x0), (2, .int x2)] [.int s1, .int s0] h := by
  unfold w_R_ticks_49 at hw
  refine bj_iadd (pc := 49) d_R_ticks_49 ?_
  refine bj_istore_n (pc := 50) (lo' := [(1, .int (s0 + s1)), (0, .ref x0), (2, .int x2)]) d_R_ticks_50 rfl (by decide) rfl ?_
  refine bj_iinc (pc := 51) (v := (x2 + 1)) (lo' := [(2, .int (x2 + 1)), (1, .int (s0 + s1)), (0, .ref x0)]) 2 d_R_ticks_51 rfl rfl (by decide) rfl ?_
  refine bj_goto (pc := 54) (tgt := 9) d_R_ticks_54 (by decide) ?_
  refine bj_sub [2, 1, 0] (lo' := [(0, .ref x0), (1, .int (s0 + s1)), (2, .int (x2 + 1))]) rfl ?_
  exact hnx9 _ _ _ _ hw
theorem m_R_ticks_9 {l : Launch} {R : Room} {Φ : bs_R → bs_H → Prop} (hR : bs_rm 1 R) : ∀ (n : Nat) (x0 : Nat) (x1 : Int32) (x2 : Int32) (h : bs_H), w_R_ticks_9 Φ n x0 x1 x2 h → bs_J l K_R_ticks R Φ 9 [(0, .ref x0), (1, .int x1), (2, .int x2)] [] h := by
  intro n
  induction n with
  | zero => intro x0 x1 x2 h hw; exact hw.elim
  | succ n ih =>
    have hnx9 := ih
    intro x0 x1 x2 h hw
    replace hw : w_R_ticks_9_s Φ (w_R_ticks_9 Φ n) x0 x1 x2 h := hw
    unfold w_R_ticks_9_s at hw
    refine bj_iload_n (pc := 9) 2 d_R_ticks_9 rfl rfl ?_
    refine bj_aload_n (pc := 10) 0 d_R_ticks_10 rfl rfl ?_
    obtain ⟨fs, v1, hx, hv, hw⟩ := hw
    refine bj_get (pc := 11) (ci := 7) (k := 3) (fs := fs) (v := .int v1) d_R_ticks_11 rfl (by decide) q_751 hx hv ?_
    refine bj_icmp_ge (pc := 14) (tgt := 57) d_R_ticks_14 (by decide) (fun hc => ?_) (fun hc => ?_)
    · replace hw := hw.1 hc
      refine bj_iload_n (pc := 57) 1 d_R_ticks_57 rfl rfl ?_
      exact bj_iret (pc := 58) d_R_ticks_58 rfl hw
    · replace hw := hw.2 hc
      refine bj_iload_n (pc := 17) 1 d_R_ticks_17 rfl rfl ?_
      refine bj_aload_n (pc := 18) 0 d_R_ticks_18 rfl rfl ?_
      obtain ⟨fs, v2, hx, hv, hw⟩ := hw
      refine bj_get (pc := 19) (ci := 7) (k := 4) (fs := fs) (v := .ref v2) d_R_ticks_19 rfl (by decide) q_752 hx hv ?_
      refine bj_iload_n (pc := 22) 2 d_R_ticks_22 rfl rfl ?_
      obtain ⟨n, f, v3, hx, hin, hv, hw⟩ := hw
      refine bj_iald (pc := 23) (n := n) (f := f) d_R_ticks_23 hx hin hv ?_
      refine bj_iconst (pc := 24) (v := 5) d_R_ticks_24 (by decide) ?_
      refine bj_icmp_ne (pc := 25) (tgt := 33) d_R_ticks_25 (by decide) (fun hc => ?_) (fun hc => ?_)
      · replace hw := hw.2 hc
        refine bj_aload_n (pc := 33) 0 d_R_ticks_33 rfl rfl ?_
        obtain ⟨fs, v4, hx, hv, hw⟩ := hw
        refine bj_get (pc := 34) (ci := 7) (k := 4) (fs := fs) (v := .ref v4) d_R_ticks_34 rfl (by decide) q_752 hx hv ?_
        refine bj_iload_n (pc := 37) 2 d_R_ticks_37 rfl rfl ?_
        obtain ⟨n, f, v5, hx, hin, hv, hw⟩ := hw
        refine bj_iald (pc := 38) (n := n) (f := f) d_R_ticks_38 hx hin hv ?_
        refine bj_bipush (pc := 39) (v := 6) d_R_ticks_39 (by decide) ?_
        refine bj_icmp_le (pc := 41) (tgt := 48) d_R_ticks_41 (by decide) (fun hc => ?_) (fun hc => ?_)
        · replace hw := hw.1 hc
          refine bj_iconst (pc := 48) (v := 1) d_R_ticks_48 (by decide) ?_
          refine bj_sub [0, 2] (lo' := [(0, .ref x0), (2, .int x2)]) rfl ?_
          exact m_R_ticks_49 hR hnx9 hw
        · replace hw := hw.2 hc
          refine bj_iconst (pc := 44) (v := 3) d_R_ticks_44 (by decide) ?_
          refine bj_goto (pc := 45) (tgt := 49) d_R_ticks_45 (by decide) ?_
          refine bj_sub [0, 2] (lo' := [(0, .ref x0), (2, .int x2)]) rfl ?_
          exact m_R_ticks_49 hR hnx9 hw
      · replace hw := hw.1 hc
        refine bj_bipush (pc := 28) (v := 6) d_R_ticks_28 (by decide) ?_
        refine bj_goto (pc := 30) (tgt := 49) d_R_ticks_30 (by decide) ?_
        refine bj_sub [0, 2] (lo' := [(0, .ref x0), (2, .int x2)]) rfl ?_
        exact m_R_ticks_49 hR hnx9 hw
theorem m_R_ticks {l : Launch} {R : Room} (hR : bs_rm 1 R) {Φ : bs_R → bs_H → Prop} {x0 : Nat} {h : bs_H} (hw : w_R_ticks Φ x0 h) : bs_J l K_R_ticks R Φ 0 [(0, .ref x0)] [] h := by
  unfold w_R_ticks at hw
  refine bj_aload_n (pc := 0) 0 d_R_ticks_0 rfl rfl ?_
  refine bj_iconst (pc := 1) (v := 0) d_R_ticks_1 (by decide) ?_
  obtain ⟨fs, hx, hlen, hw⟩ := hw
  refine bj_put (pc := 2) (ci := 7) (k := 0) (fs := fs) (v := (.int 0)) (ty := .int) d_R_ticks_2 rfl (by decide) q_748 rfl (by decide +kernel) rfl rfl hx hlen ?_
  refine bj_iconst (pc := 5) (v := 0) d_R_ticks_5 (by decide) ?_
  refine bj_istore_n (pc := 6) (lo' := [(1, .int 0), (0, .ref x0)]) d_R_ticks_6 rfl (by decide) rfl ?_
  refine bj_iconst (pc := 7) (v := 0) d_R_ticks_7 (by decide) ?_
  refine bj_istore_n (pc := 8) (lo' := [(2, .int 0), (1, .int 0), (0, .ref x0)]) d_R_ticks_8 rfl (by decide) rfl ?_
  refine bj_sub [2, 1, 0] (lo' := [(0, .ref x0), (1, .int 0), (2, .int 0)]) rfl ?_
  exact m_R_ticks_9 hR 1000 _ _ _ _ hw
theorem d_M_becomeCopy_0 : decode prog_2_method_8_code 0 = .ok (.aload_n 0, 1) := by decide +kernel
theorem d_M_becomeCopy_1 : decode prog_2_method_8_code 1 = .ok (.aload_n 1, 1) := by decide +kernel
theorem d_M_becomeCopy_2 : decode prog_2_method_8_code 2 = .ok (.getfield 15, 3) := by decide +kernel
theorem d_M_becomeCopy_5 : decode prog_2_method_8_code 5 = .ok (.putfield 15, 3) := by decide +kernel
theorem d_M_becomeCopy_8 : decode prog_2_method_8_code 8 = .ok (.aload_n 1, 1) := by decide +kernel
theorem d_M_becomeCopy_9 : decode prog_2_method_8_code 9 = .ok (.getfield 9, 3) := by decide +kernel
theorem d_M_becomeCopy_12 : decode prog_2_method_8_code 12 = .ok (.iconst 0, 1) := by decide +kernel
theorem d_M_becomeCopy_13 : decode prog_2_method_8_code 13 = .ok (.aload_n 0, 1) := by decide +kernel
theorem d_M_becomeCopy_14 : decode prog_2_method_8_code 14 = .ok (.getfield 9, 3) := by decide +kernel
theorem d_M_becomeCopy_17 : decode prog_2_method_8_code 17 = .ok (.iconst 0, 1) := by decide +kernel
theorem d_M_becomeCopy_18 : decode prog_2_method_8_code 18 = .ok (.bipush 64, 2) := by decide +kernel
theorem d_M_becomeCopy_20 : decode prog_2_method_8_code 20 = .ok (.invokestatic 23, 3) := by decide +kernel
theorem d_M_becomeCopy_23 : decode prog_2_method_8_code 23 = .ok (.return_, 1) := by decide +kernel
def w_M_becomeCopy (Φ : bs_R → bs_H → Prop) (x0 : Nat) (x1 : Nat) (h : bs_H) : Prop :=
  bs_fI h x1 1 1 (fun v1 => bs_p h x0 1 1 (.int v1) (fun h2 => bs_fA h2 x1 1 0 (fun v3 => bs_fA h2 x0 1 0 (fun v4 => bs_cp h2 v3 0 v4 0 64 (fun h5 => Φ (.ok none) h5)))))
theorem m_M_becomeCopy {l : Launch} {R : Room} (hR : bs_rm 1 R) {Φ : bs_R → bs_H → Prop} {x0 : Nat} {x1 : Nat} {h : bs_H} (hw : w_M_becomeCopy Φ x0 x1 h) : bs_J l K_M_becomeCopy R Φ 0 [(0, .ref x0), (1, .ref x1)] [] h := by
  unfold w_M_becomeCopy at hw
  refine bj_aload_n (pc := 0) 0 d_M_becomeCopy_0 rfl rfl ?_
  refine bj_aload_n (pc := 1) 1 d_M_becomeCopy_1 rfl rfl ?_
  obtain ⟨fs, v1, hx, hv, hw⟩ := hw
  refine bj_get (pc := 2) (ci := 1) (k := 1) (fs := fs) (v := .int v1) d_M_becomeCopy_2 rfl (by decide) q_79 hx hv ?_
  obtain ⟨fs, hx, hlen, hw⟩ := hw
  refine bj_put (pc := 5) (ci := 1) (k := 1) (fs := fs) (v := (.int v1)) (ty := .int) d_M_becomeCopy_5 rfl (by decide) q_79 rfl (by decide +kernel) rfl rfl hx hlen ?_
  refine bj_aload_n (pc := 8) 1 d_M_becomeCopy_8 rfl rfl ?_
  obtain ⟨fs, v3, hx, hv, hw⟩ := hw
  refine bj_get (pc := 9) (ci := 1) (k := 0) (fs := fs) (v := .ref v3) d_M_becomeCopy_9 rfl (by decide) q_78 hx hv ?_
  refine bj_iconst (pc := 12) (v := 0) d_M_becomeCopy_12 (by decide) ?_
  refine bj_aload_n (pc := 13) 0 d_M_becomeCopy_13 rfl rfl ?_
  obtain ⟨fs, v4, hx, hv, hw⟩ := hw
  refine bj_get (pc := 14) (ci := 1) (k := 0) (fs := fs) (v := .ref v4) d_M_becomeCopy_14 rfl (by decide) q_78 hx hv ?_
  refine bj_iconst (pc := 17) (v := 0) d_M_becomeCopy_17 (by decide) ?_
  refine bj_bipush (pc := 18) (v := 64) d_M_becomeCopy_18 (by decide) ?_
  obtain ⟨n0, f, n1, g, hx0, hx1, hne, k1, k2, k3, k4, k5, hw⟩ := hw
  refine bj_copy (pc := 20) d_M_becomeCopy_20 q_693 q_695 q_694 q_63 hx0 hx1 hne k1 k2 k3 k4 k5 hR (Nat.le_of_ble_eq_true rfl) ?_
  exact bj_vret (pc := 23) d_M_becomeCopy_23 rfl hw
theorem d_B_keep_0 : decode prog_1_method_16_code 0 = .ok (.aload_n 0, 1) := by decide +kernel
theorem d_B_keep_1 : decode prog_1_method_16_code 1 = .ok (.getfield 23, 3) := by decide +kernel
theorem d_B_keep_4 : decode prog_1_method_16_code 4 = .ok (.bipush 8, 2) := by decide +kernel
theorem d_B_keep_6 : decode prog_1_method_16_code 6 = .ok (.if_icmp .lt 11, 3) := by decide +kernel
theorem d_B_keep_9 : decode prog_1_method_16_code 9 = .ok (.new 161, 3) := by decide +kernel
theorem d_B_keep_12 : decode prog_1_method_16_code 12 = .ok (.dup, 1) := by decide +kernel
theorem d_B_keep_13 : decode prog_1_method_16_code 13 = .ok (.invokespecial 163, 3) := by decide +kernel
theorem d_B_keep_16 : decode prog_1_method_16_code 16 = .ok (.athrow, 1) := by decide +kernel
theorem d_B_keep_17 : decode prog_1_method_16_code 17 = .ok (.aload_n 0, 1) := by decide +kernel
theorem d_B_keep_18 : decode prog_1_method_16_code 18 = .ok (.getfield 19, 3) := by decide +kernel
theorem d_B_keep_21 : decode prog_1_method_16_code 21 = .ok (.aload_n 0, 1) := by decide +kernel
theorem d_B_keep_22 : decode prog_1_method_16_code 22 = .ok (.getfield 23, 3) := by decide +kernel
theorem d_B_keep_25 : decode prog_1_method_16_code 25 = .ok (.aaload, 1) := by decide +kernel
theorem d_B_keep_26 : decode prog_1_method_16_code 26 = .ok (.aload_n 0, 1) := by decide +kernel
theorem d_B_keep_27 : decode prog_1_method_16_code 27 = .ok (.getfield 12, 3) := by decide +kernel
theorem d_B_keep_30 : decode prog_1_method_16_code 30 = .ok (.invokevirtual 164, 3) := by decide +kernel
theorem d_B_keep_33 : decode prog_1_method_16_code 33 = .ok (.aload_n 0, 1) := by decide +kernel
theorem d_B_keep_34 : decode prog_1_method_16_code 34 = .ok (.dup, 1) := by decide +kernel
theorem d_B_keep_35 : decode prog_1_method_16_code 35 = .ok (.getfield 23, 3) := by decide +kernel
theorem d_B_keep_38 : decode prog_1_method_16_code 38 = .ok (.iconst 1, 1) := by decide +kernel
theorem d_B_keep_39 : decode prog_1_method_16_code 39 = .ok (.iadd, 1) := by decide +kernel
theorem d_B_keep_40 : decode prog_1_method_16_code 40 = .ok (.putfield 23, 3) := by decide +kernel
theorem d_B_keep_43 : decode prog_1_method_16_code 43 = .ok (.aload_n 0, 1) := by decide +kernel
theorem d_B_keep_44 : decode prog_1_method_16_code 44 = .ok (.getfield 23, 3) := by decide +kernel
theorem d_B_keep_47 : decode prog_1_method_16_code 47 = .ok (.iconst 1, 1) := by decide +kernel
theorem d_B_keep_48 : decode prog_1_method_16_code 48 = .ok (.isub, 1) := by decide +kernel
theorem d_B_keep_49 : decode prog_1_method_16_code 49 = .ok (.ireturn, 1) := by decide +kernel
def w_B_keep (Φ : bs_R → bs_H → Prop) (x0 : Nat) (h : bs_H) : Prop :=
  bs_fI h x0 0 3 (fun v1 => bs_if (v1 < 8) (bs_fA h x0 0 2 (fun v2 => bs_fI h x0 0 3 (fun v3 => bs_lA h v2 v3 (fun v4 => bs_fA h x0 0 0 (fun v5 => bs_on h v4 1 (w_M_becomeCopy (bs_kV Φ fun h6 => (bs_fI h6 x0 0 3 (fun v7 => bs_p h6 x0 0 3 (.int (v7 + 1)) (fun h8 => bs_fI h8 x0 0 3 (fun v9 => Φ (.ok (some (.int (v9 - 1)))) h8))))) v4 v5 h)))))) (bs_th h Φ "java/lang/IllegalStateException"))
theorem m_B_keep {l : Launch} {R : Room} (hR : bs_rm 2 R) {Φ : bs_R → bs_H → Prop} {x0 : Nat} {h : bs_H} (hw : w_B_keep Φ x0 h) : bs_J l K_B_keep R Φ 0 [(0, .ref x0)] [] h := by
  unfold w_B_keep at hw
  refine bj_aload_n (pc := 0) 0 d_B_keep_0 rfl rfl ?_
  obtain ⟨fs, v1, hx, hv, hw⟩ := hw
  refine bj_get (pc := 1) (ci := 0) (k := 3) (fs := fs) (v := .int v1) d_B_keep_1 rfl (by decide) q_199 hx hv ?_
  refine bj_bipush (pc := 4) (v := 8) d_B_keep_4 (by decide) ?_
  refine bj_icmp_lt (pc := 6) (tgt := 17) d_B_keep_6 (by decide) (fun hc => ?_) (fun hc => ?_)
  · replace hw := hw.1 hc
    refine bj_aload_n (pc := 17) 0 d_B_keep_17 rfl rfl ?_
    obtain ⟨fs, v2, hx, hv, hw⟩ := hw
    refine bj_get (pc := 18) (ci := 0) (k := 2) (fs := fs) (v := .ref v2) d_B_keep_18 rfl (by decide) q_198 hx hv ?_
    refine bj_aload_n (pc := 21) 0 d_B_keep_21 rfl rfl ?_
    obtain ⟨fs, v3, hx, hv, hw⟩ := hw
    refine bj_get (pc := 22) (ci := 0) (k := 3) (fs := fs) (v := .int v3) d_B_keep_22 rfl (by decide) q_199 hx hv ?_
    obtain ⟨n, f, v4, hx, hin, hv, hw⟩ := hw
    refine bj_aald (pc := 25) (n := n) (f := f) d_B_keep_25 hx hin hv ?_
    refine bj_aload_n (pc := 26) 0 d_B_keep_26 rfl rfl ?_
    obtain ⟨fs, v5, hx, hv, hw⟩ := hw
    refine bj_get (pc := 27) (ci := 0) (k := 0) (fs := fs) (v := .ref v5) d_B_keep_27 rfl (by decide) q_196 hx hv ?_
    obtain ⟨⟨fs, hx⟩, hw⟩ := hw
    refine bj_callV (pc := 30) (np := 1) (K' := K_M_becomeCopy) (argsL := [.ref v5]) (st := []) (d1 := 1) (ci := 1) (fs := fs) rfl d_B_keep_30 (Or.inl q_689) q_690 rfl q_691 c_M_becomeCopy n_M_becomeCopy hR (by decide) (by decide) rfl (Nat.le_of_ble_eq_true rfl) rfl (Nat.le_of_ble_eq_true rfl) hx (fun R' hR' => m_M_becomeCopy hR' hw) (bs_kV_ok fun h6 hw => ?_) (fun _ _ z => z)
    refine bj_aload_n (pc := 33) 0 d_B_keep_33 rfl rfl ?_
    refine bj_dup (pc := 34) d_B_keep_34 rfl ?_
    obtain ⟨fs, v7, hx, hv, hw⟩ := hw
    refine bj_get (pc := 35) (ci := 0) (k := 3) (fs := fs) (v := .int v7) d_B_keep_35 rfl (by decide) q_199 hx hv ?_
    refine bj_iconst (pc := 38) (v := 1) d_B_keep_38 (by decide) ?_
    refine bj_iadd (pc := 39) d_B_keep_39 ?_
    obtain ⟨fs, hx, hlen, hw⟩ := hw
    refine bj_put (pc := 40) (ci := 0) (k := 3) (fs := fs) (v := (.int (v7 + 1))) (ty := .int) d_B_keep_40 rfl (by decide) q_199 rfl (by decide +kernel) rfl rfl hx hlen ?_
    refine bj_aload_n (pc := 43) 0 d_B_keep_43 rfl rfl ?_
    obtain ⟨fs, v9, hx, hv, hw⟩ := hw
    refine bj_get (pc := 44) (ci := 0) (k := 3) (fs := fs) (v := .int v9) d_B_keep_44 rfl (by decide) q_199 hx hv ?_
    refine bj_iconst (pc := 47) (v := 1) d_B_keep_47 (by decide) ?_
    refine bj_isub (pc := 48) d_B_keep_48 ?_
    exact bj_iret (pc := 49) d_B_keep_49 rfl hw
  · replace hw := hw.2 hc
    obtain ⟨h1, h2, hw⟩ := hw
    exact bj_throw (pc := 9) (names := bs_up2) d_B_keep_9 d_B_keep_12 d_B_keep_13 d_B_keep_16 q_674 q_675 q_62 a_B_163 (by decide +kernel) (by decide +kernel) (by decide) rfl hR (Nat.le_of_ble_eq_true rfl) h1 h2 hw
theorem d_L_keep_0 : decode method_12_code 0 = .ok (.aload_n 1, 1) := by decide +kernel
theorem d_L_keep_1 : decode method_12_code 1 = .ok (.iconst 0, 1) := by decide +kernel
theorem d_L_keep_2 : decode method_12_code 2 = .ok (.aload_n 0, 1) := by decide +kernel
theorem d_L_keep_3 : decode method_12_code 3 = .ok (.invokevirtual 49, 3) := by decide +kernel
theorem d_L_keep_6 : decode method_12_code 6 = .ok (.i2l, 1) := by decide +kernel
theorem d_L_keep_7 : decode method_12_code 7 = .ok (.lastore, 1) := by decide +kernel
theorem d_L_keep_8 : decode method_12_code 8 = .ok (.goto 6, 3) := by decide +kernel
theorem d_L_keep_11 : decode method_12_code 11 = .ok (.astore_n 2, 1) := by decide +kernel
theorem d_L_keep_12 : decode method_12_code 12 = .ok (.iconst 1, 1) := by decide +kernel
theorem d_L_keep_13 : decode method_12_code 13 = .ok (.ireturn, 1) := by decide +kernel
theorem d_L_keep_14 : decode method_12_code 14 = .ok (.iconst 0, 1) := by decide +kernel
theorem d_L_keep_15 : decode method_12_code 15 = .ok (.ireturn, 1) := by decide +kernel
def w_L_keep_11 (Φ : bs_R → bs_H → Prop) (s0 : Nat) (h : bs_H) : Prop :=
  Φ (.ok (some (.int 1))) h
def w_L_keep (Φ : bs_R → bs_H → Prop) (x0 : Nat) (x1 : Nat) (h : bs_H) : Prop :=
  bs_on h x0 0 (w_B_keep (bs_kI (bs_hd fun E3 h4 => (E3 = "java/lang/IllegalStateException" ∧ ∀ a, w_L_keep_11 Φ a h4)) fun v1 h2 => (bs_sL h2 x1 0 v1.toInt64 (fun h5 => Φ (.ok (some (.int 0))) h5))) x0 h)
theorem m_L_keep_11 {l : Launch} {R : Room} {Φ : bs_R → bs_H → Prop} (hR : bs_rm 3 R) {s0 : Nat} {h : bs_H} (hw : w_L_keep_11 Φ s0 h) : bs_J l K_L_keep R Φ 11 [] [.ref s0] h := by
  unfold w_L_keep_11 at hw
  refine bj_astore_n (pc := 11) (lo' := [(2, .ref s0)]) d_L_keep_11 rfl (by decide) rfl ?_
  refine bj_iconst (pc := 12) (v := 1) d_L_keep_12 (by decide) ?_
  exact bj_iret (pc := 13) d_L_keep_13 rfl hw
theorem m_L_keep {l : Launch} {R : Room} (hR : bs_rm 3 R) {Φ : bs_R → bs_H → Prop} {x0 : Nat} {x1 : Nat} {h : bs_H} (hw : w_L_keep Φ x0 x1 h) : bs_J l K_L_keep R Φ 0 [(0, .ref x0), (1, .ref x1)] [] h := by
  unfold w_L_keep at hw
  refine bj_aload_n (pc := 0) 1 d_L_keep_0 rfl rfl ?_
  refine bj_iconst (pc := 1) (v := 0) d_L_keep_1 (by decide) ?_
  refine bj_aload_n (pc := 2) 0 d_L_keep_2 rfl rfl ?_
  obtain ⟨⟨fs, hx⟩, hw⟩ := hw
  refine bj_callVC (pc := 3) (np := 0) (K' := K_B_keep) (argsL := []) (st := [.int 0, .ref x1]) (d1 := 2) (ci := 0) (fs := fs) rfl d_L_keep_3 (Or.inl q_670) q_671 rfl q_672 c_B_keep n_B_keep hR (by decide) (by decide) (Nat.le_of_ble_eq_true rfl) rfl (Nat.le_of_ble_eq_true rfl) hx (fun R' hR' => m_B_keep hR' hw) (bs_kI_ok fun v1 h2 hw => ?_) ?_
  · refine bj_i2l (pc := 6) d_L_keep_6 ?_
    obtain ⟨n, f, hx, hin, hw⟩ := hw
    refine bj_last (pc := 7) (n := n) (f := f) d_L_keep_7 hx hin ?_
    refine bj_goto (pc := 8) (tgt := 14) d_L_keep_8 (by decide) ?_
    refine bj_iconst (pc := 14) (v := 0) d_L_keep_14 (by decide) ?_
    exact bj_iret (pc := 15) d_L_keep_15 rfl hw
  · intro E3 h4 hw
    obtain ⟨rfl, hw⟩ := hw
    refine ⟨11, bs_hand1 rfl (by decide) (by decide) q_669 q_676, fun a => ?_⟩
    replace hw := hw a
    refine bj_sub [] (lo' := []) rfl ?_
    exact m_L_keep_11 hR hw
