/-! Decode rows, meanings and rows of: W_perform, W_resultOf, B_run, R_moveBits, R_swapBits, R_gatherBits, R_scatterBits, R_go. Written by program. -/
theorem d_W_perform_0 : decode prog_7_method_3_code 0 = .ok (.iload_n 1, 1) := by decide +kernel
theorem d_W_perform_1 : decode prog_7_method_3_code 1 = .ok (.tableswitch 180 0 7 #[47, 82, 94, 107, 123, 136, 152, 168], 47) := by decide +kernel
theorem d_W_perform_48 : decode prog_7_method_3_code 48 = .ok (.aload_n 0, 1) := by decide +kernel
theorem d_W_perform_49 : decode prog_7_method_3_code 49 = .ok (.iload_n 2, 1) := by decide +kernel
theorem d_W_perform_50 : decode prog_7_method_3_code 50 = .ok (.ifCond .lt 12, 3) := by decide +kernel
theorem d_W_perform_53 : decode prog_7_method_3_code 53 = .ok (.aload_n 0, 1) := by decide +kernel
theorem d_W_perform_54 : decode prog_7_method_3_code 54 = .ok (.getfield 19, 3) := by decide +kernel
theorem d_W_perform_57 : decode prog_7_method_3_code 57 = .ok (.iload_n 2, 1) := by decide +kernel
theorem d_W_perform_58 : decode prog_7_method_3_code 58 = .ok (.lshl, 1) := by decide +kernel
theorem d_W_perform_59 : decode prog_7_method_3_code 59 = .ok (.goto 10, 3) := by decide +kernel
theorem d_W_perform_62 : decode prog_7_method_3_code 62 = .ok (.aload_n 0, 1) := by decide +kernel
theorem d_W_perform_63 : decode prog_7_method_3_code 63 = .ok (.getfield 19, 3) := by decide +kernel
theorem d_W_perform_66 : decode prog_7_method_3_code 66 = .ok (.iload_n 2, 1) := by decide +kernel
theorem d_W_perform_67 : decode prog_7_method_3_code 67 = .ok (.ineg, 1) := by decide +kernel
theorem d_W_perform_68 : decode prog_7_method_3_code 68 = .ok (.lushr, 1) := by decide +kernel
theorem d_W_perform_69 : decode prog_7_method_3_code 69 = .ok (.aload_n 0, 1) := by decide +kernel
theorem d_W_perform_70 : decode prog_7_method_3_code 70 = .ok (.getfield 9, 3) := by decide +kernel
theorem d_W_perform_73 : decode prog_7_method_3_code 73 = .ok (.invokestatic 15, 3) := by decide +kernel
theorem d_W_perform_76 : decode prog_7_method_3_code 76 = .ok (.land, 1) := by decide +kernel
theorem d_W_perform_77 : decode prog_7_method_3_code 77 = .ok (.putfield 23, 3) := by decide +kernel
theorem d_W_perform_80 : decode prog_7_method_3_code 80 = .ok (.goto 110, 3) := by decide +kernel
theorem d_W_perform_83 : decode prog_7_method_3_code 83 = .ok (.aload_n 0, 1) := by decide +kernel
theorem d_W_perform_84 : decode prog_7_method_3_code 84 = .ok (.aload_n 0, 1) := by decide +kernel
theorem d_W_perform_85 : decode prog_7_method_3_code 85 = .ok (.iload_n 2, 1) := by decide +kernel
theorem d_W_perform_86 : decode prog_7_method_3_code 86 = .ok (.invokevirtual 49, 3) := by decide +kernel
theorem d_W_perform_89 : decode prog_7_method_3_code 89 = .ok (.putfield 23, 3) := by decide +kernel
theorem d_W_perform_92 : decode prog_7_method_3_code 92 = .ok (.goto 98, 3) := by decide +kernel
theorem d_W_perform_95 : decode prog_7_method_3_code 95 = .ok (.aload_n 0, 1) := by decide +kernel
theorem d_W_perform_96 : decode prog_7_method_3_code 96 = .ok (.dup, 1) := by decide +kernel
theorem d_W_perform_97 : decode prog_7_method_3_code 97 = .ok (.getfield 23, 3) := by decide +kernel
theorem d_W_perform_100 : decode prog_7_method_3_code 100 = .ok (.lload_n 3, 1) := by decide +kernel
theorem d_W_perform_101 : decode prog_7_method_3_code 101 = .ok (.land, 1) := by decide +kernel
theorem d_W_perform_102 : decode prog_7_method_3_code 102 = .ok (.putfield 23, 3) := by decide +kernel
theorem d_W_perform_105 : decode prog_7_method_3_code 105 = .ok (.goto 85, 3) := by decide +kernel
theorem d_W_perform_108 : decode prog_7_method_3_code 108 = .ok (.aload_n 0, 1) := by decide +kernel
theorem d_W_perform_109 : decode prog_7_method_3_code 109 = .ok (.dup, 1) := by decide +kernel
theorem d_W_perform_110 : decode prog_7_method_3_code 110 = .ok (.getfield 26, 3) := by decide +kernel
theorem d_W_perform_113 : decode prog_7_method_3_code 113 = .ok (.aload_n 0, 1) := by decide +kernel
theorem d_W_perform_114 : decode prog_7_method_3_code 114 = .ok (.getfield 23, 3) := by decide +kernel
theorem d_W_perform_117 : decode prog_7_method_3_code 117 = .ok (.lor, 1) := by decide +kernel
theorem d_W_perform_118 : decode prog_7_method_3_code 118 = .ok (.putfield 26, 3) := by decide +kernel
theorem d_W_perform_121 : decode prog_7_method_3_code 121 = .ok (.goto 69, 3) := by decide +kernel
theorem d_W_perform_124 : decode prog_7_method_3_code 124 = .ok (.aload_n 0, 1) := by decide +kernel
theorem d_W_perform_125 : decode prog_7_method_3_code 125 = .ok (.dup, 1) := by decide +kernel
theorem d_W_perform_126 : decode prog_7_method_3_code 126 = .ok (.getfield 26, 3) := by decide +kernel
theorem d_W_perform_129 : decode prog_7_method_3_code 129 = .ok (.lload_n 3, 1) := by decide +kernel
theorem d_W_perform_130 : decode prog_7_method_3_code 130 = .ok (.lor, 1) := by decide +kernel
theorem d_W_perform_131 : decode prog_7_method_3_code 131 = .ok (.putfield 26, 3) := by decide +kernel
theorem d_W_perform_134 : decode prog_7_method_3_code 134 = .ok (.goto 56, 3) := by decide +kernel
theorem d_W_perform_137 : decode prog_7_method_3_code 137 = .ok (.aload_n 0, 1) := by decide +kernel
theorem d_W_perform_138 : decode prog_7_method_3_code 138 = .ok (.aload_n 0, 1) := by decide +kernel
theorem d_W_perform_139 : decode prog_7_method_3_code 139 = .ok (.getfield 19, 3) := by decide +kernel
theorem d_W_perform_142 : decode prog_7_method_3_code 142 = .ok (.iload_n 2, 1) := by decide +kernel
theorem d_W_perform_143 : decode prog_7_method_3_code 143 = .ok (.lload_n 3, 1) := by decide +kernel
theorem d_W_perform_144 : decode prog_7_method_3_code 144 = .ok (.invokestatic 52, 3) := by decide +kernel
theorem d_W_perform_147 : decode prog_7_method_3_code 147 = .ok (.putfield 19, 3) := by decide +kernel
theorem d_W_perform_150 : decode prog_7_method_3_code 150 = .ok (.goto 40, 3) := by decide +kernel
theorem d_W_perform_153 : decode prog_7_method_3_code 153 = .ok (.aload_n 0, 1) := by decide +kernel
theorem d_W_perform_154 : decode prog_7_method_3_code 154 = .ok (.dup, 1) := by decide +kernel
theorem d_W_perform_155 : decode prog_7_method_3_code 155 = .ok (.getfield 26, 3) := by decide +kernel
theorem d_W_perform_158 : decode prog_7_method_3_code 158 = .ok (.aload_n 0, 1) := by decide +kernel
theorem d_W_perform_159 : decode prog_7_method_3_code 159 = .ok (.getfield 19, 3) := by decide +kernel
theorem d_W_perform_162 : decode prog_7_method_3_code 162 = .ok (.lor, 1) := by decide +kernel
theorem d_W_perform_163 : decode prog_7_method_3_code 163 = .ok (.putfield 26, 3) := by decide +kernel
theorem d_W_perform_166 : decode prog_7_method_3_code 166 = .ok (.goto 24, 3) := by decide +kernel
theorem d_W_perform_169 : decode prog_7_method_3_code 169 = .ok (.aload_n 0, 1) := by decide +kernel
theorem d_W_perform_170 : decode prog_7_method_3_code 170 = .ok (.aload_n 0, 1) := by decide +kernel
theorem d_W_perform_171 : decode prog_7_method_3_code 171 = .ok (.lload_n 3, 1) := by decide +kernel
theorem d_W_perform_172 : decode prog_7_method_3_code 172 = .ok (.invokevirtual 56, 3) := by decide +kernel
theorem d_W_perform_175 : decode prog_7_method_3_code 175 = .ok (.putfield 23, 3) := by decide +kernel
theorem d_W_perform_178 : decode prog_7_method_3_code 178 = .ok (.goto 12, 3) := by decide +kernel
theorem d_W_perform_181 : decode prog_7_method_3_code 181 = .ok (.aload_n 0, 1) := by decide +kernel
theorem d_W_perform_182 : decode prog_7_method_3_code 182 = .ok (.aload_n 0, 1) := by decide +kernel
theorem d_W_perform_183 : decode prog_7_method_3_code 183 = .ok (.lload_n 3, 1) := by decide +kernel
theorem d_W_perform_184 : decode prog_7_method_3_code 184 = .ok (.invokevirtual 60, 3) := by decide +kernel
theorem d_W_perform_187 : decode prog_7_method_3_code 187 = .ok (.putfield 23, 3) := by decide +kernel
theorem d_W_perform_190 : decode prog_7_method_3_code 190 = .ok (.return_, 1) := by decide +kernel
def w_W_perform_190 (Φ : bs_R → bs_H → Prop) (h : bs_H) : Prop :=
  Φ (.ok none) h
def w_W_perform_69 (Φ : bs_R → bs_H → Prop) (x0 : Nat) (s0 : Nat) (s1 : Int64) (h : bs_H) : Prop :=
  bs_fI h x0 3 0 (fun v1 => w_B_allBits (bs_kL Φ fun v2 h3 => (bs_p h3 s0 3 2 (.long (s1 &&& v2)) (fun h4 => w_W_perform_190 Φ h4))) v1 h)
def w_W_perform (Φ : bs_R → bs_H → Prop) (x0 : Nat) (x1 : Int32) (x2 : Int32) (x3 : Int64) (h : bs_H) : Prop :=
  bs_if (x1 = 0) (bs_if (x2 < 0) (bs_fL h x0 3 1 (fun v1 => w_W_perform_69 Φ x0 x0 (bs_ushr v1 (-x2)) h)) (bs_fL h x0 3 1 (fun v2 => w_W_perform_69 Φ x0 x0 (bs_shl v2 x2) h))) (bs_if (x1 = 1) (bs_on h x0 3 (w_W_rotated (bs_kL Φ fun v3 h4 => (bs_p h4 x0 3 2 (.long v3) (fun h5 => w_W_perform_190 Φ h5))) x0 x2 h)) (bs_if (x1 = 2) (bs_fL h x0 3 2 (fun v6 => bs_p h x0 3 2 (.long (v6 &&& x3)) (fun h7 => w_W_perform_190 Φ h7))) (bs_if (x1 = 3) (bs_fL h x0 3 3 (fun v8 => bs_fL h x0 3 2 (fun v9 => bs_p h x0 3 3 (.long (v8 ||| v9)) (fun h10 => w_W_perform_190 Φ h10)))) (bs_if (x1 = 4) (bs_fL h x0 3 3 (fun v11 => bs_p h x0 3 3 (.long (v11 ||| x3)) (fun h12 => w_W_perform_190 Φ h12))) (bs_if (x1 = 5) (bs_fL h x0 3 1 (fun v13 => w_B_exchanged (bs_kL Φ fun v14 h15 => (bs_p h15 x0 3 1 (.long v14) (fun h16 => w_W_perform_190 Φ h16))) v13 x2 x3 h)) (bs_if (x1 = 6) (bs_fL h x0 3 3 (fun v17 => bs_fL h x0 3 1 (fun v18 => bs_p h x0 3 3 (.long (v17 ||| v18)) (fun h19 => w_W_perform_190 Φ h19)))) (bs_if (x1 = 7) (bs_on h x0 3 (w_W_gathered (bs_kL Φ fun v20 h21 => (bs_p h21 x0 3 2 (.long v20) (fun h22 => w_W_perform_190 Φ h22))) x0 x3 h)) (bs_on h x0 3 (w_W_scattered (bs_kL Φ fun v23 h24 => (bs_p h24 x0 3 2 (.long v23) (fun h25 => w_W_perform_190 Φ h25))) x0 x3 h)))))))))
theorem m_W_perform_190 {l : Launch} {R : Room} {Φ : bs_R → bs_H → Prop} (hR : bs_rm 3 R) {h : bs_H} (hw : w_W_perform_190 Φ h) : bs_J l K_W_perform R Φ 190 [] [] h := by
  unfold w_W_perform_190 at hw
  exact bj_vret (pc := 190) d_W_perform_190 rfl hw
theorem m_W_perform_69 {l : Launch} {R : Room} {Φ : bs_R → bs_H → Prop} (hR : bs_rm 3 R) {x0 : Nat} {s0 : Nat} {s1 : Int64} {h : bs_H} (hw : w_W_perform_69 Φ x0 s0 s1 h) : bs_J l K_W_perform R Φ 69 [(0, .ref x0)] [.long s1, .ref s0] h := by
  unfold w_W_perform_69 at hw
  refine bj_aload_n (pc := 69) 0 d_W_perform_69 rfl rfl ?_
  obtain ⟨fs, v1, hx, hv, hw⟩ := hw
  refine bj_get (pc := 70) (ci := 3) (k := 0) (fs := fs) (v := .int v1) d_W_perform_70 rfl (by decide) q_113 hx hv ?_
  refine bj_callS (pc := 73) (np := 1) (K' := K_B_allBits) (argsL := [.int v1]) (st := [.long s1, .ref s0]) (d1 := 1) rfl d_W_perform_73 (Or.inr ⟨_, q_244⟩) q_245 q_46 c_B_allBits n_B_allBits hR (by decide) (by decide) rfl (Nat.le_of_ble_eq_true rfl) rfl (Nat.le_of_ble_eq_true rfl) (fun R' hR' => m_B_allBits hR' hw) (bs_kL_ok fun v2 h3 hw => ?_) (fun _ _ z => z)
  refine bj_land (pc := 76) d_W_perform_76 ?_
  obtain ⟨fs, hx, hlen, hw⟩ := hw
  refine bj_put (pc := 77) (ci := 3) (k := 2) (fs := fs) (v := (.long (s1 &&& v2))) (ty := .long) d_W_perform_77 rfl (by decide) q_115 rfl (by decide +kernel) rfl rfl hx hlen ?_
  refine bj_goto (pc := 80) (tgt := 190) d_W_perform_80 (by decide) ?_
  refine bj_sub [] (lo' := []) rfl ?_
  exact m_W_perform_190 hR hw
theorem m_W_perform {l : Launch} {R : Room} (hR : bs_rm 3 R) {Φ : bs_R → bs_H → Prop} {x0 : Nat} {x1 : Int32} {x2 : Int32} {x3 : Int64} {h : bs_H} (hw : w_W_perform Φ x0 x1 x2 x3 h) : bs_J l K_W_perform R Φ 0 [(0, .ref x0), (1, .int x1), (2, .int x2), (3, .long x3)] [] h := by
  unfold w_W_perform at hw
  refine bj_iload_n (pc := 0) 1 d_W_perform_0 rfl rfl ?_
  by_cases hc0 : x1 = 0
  · replace hw := hw.1 hc0
    refine bj_tableIn (pc := 1) (tgt := 48) d_W_perform_1 (by rw [hc0]; decide) (by rw [hc0]; decide) (by rw [hc0]; rfl) (by decide) ?_
    refine bj_aload_n (pc := 48) 0 d_W_perform_48 rfl rfl ?_
    refine bj_iload_n (pc := 49) 2 d_W_perform_49 rfl rfl ?_
    refine bj_if_lt (pc := 50) (tgt := 62) d_W_perform_50 (by decide) (fun hc => ?_) (fun hc => ?_)
    · replace hw := hw.1 hc
      refine bj_aload_n (pc := 62) 0 d_W_perform_62 rfl rfl ?_
      obtain ⟨fs, v1, hx, hv, hw⟩ := hw
      refine bj_get (pc := 63) (ci := 3) (k := 1) (fs := fs) (v := .long v1) d_W_perform_63 rfl (by decide) q_114 hx hv ?_
      refine bj_iload_n (pc := 66) 2 d_W_perform_66 rfl rfl ?_
      refine bj_ineg (pc := 67) d_W_perform_67 ?_
      refine bj_lushr (pc := 68) d_W_perform_68 ?_
      refine bj_sub [0] (lo' := [(0, .ref x0)]) rfl ?_
      exact m_W_perform_69 hR hw
    · replace hw := hw.2 hc
      refine bj_aload_n (pc := 53) 0 d_W_perform_53 rfl rfl ?_
      obtain ⟨fs, v2, hx, hv, hw⟩ := hw
      refine bj_get (pc := 54) (ci := 3) (k := 1) (fs := fs) (v := .long v2) d_W_perform_54 rfl (by decide) q_114 hx hv ?_
      refine bj_iload_n (pc := 57) 2 d_W_perform_57 rfl rfl ?_
      refine bj_lshl (pc := 58) d_W_perform_58 ?_
      refine bj_goto (pc := 59) (tgt := 69) d_W_perform_59 (by decide) ?_
      refine bj_sub [0] (lo' := [(0, .ref x0)]) rfl ?_
      exact m_W_perform_69 hR hw
  replace hw := hw.2 hc0
  by_cases hc1 : x1 = 1
  · replace hw := hw.1 hc1
    refine bj_tableIn (pc := 1) (tgt := 83) d_W_perform_1 (by rw [hc1]; decide) (by rw [hc1]; decide) (by rw [hc1]; rfl) (by decide) ?_
    refine bj_aload_n (pc := 83) 0 d_W_perform_83 rfl rfl ?_
    refine bj_aload_n (pc := 84) 0 d_W_perform_84 rfl rfl ?_
    refine bj_iload_n (pc := 85) 2 d_W_perform_85 rfl rfl ?_
    obtain ⟨⟨fs, hx⟩, hw⟩ := hw
    refine bj_callV (pc := 86) (np := 1) (K' := K_W_rotated) (argsL := [.int x2]) (st := [.ref x0]) (d1 := 2) (ci := 3) (fs := fs) rfl d_W_perform_86 (Or.inl q_265) q_267 rfl q_1 c_W_rotated n_W_rotated hR (by decide) (by decide) rfl (Nat.le_of_ble_eq_true rfl) rfl (Nat.le_of_ble_eq_true rfl) hx (fun R' hR' => m_W_rotated hR' hw) (bs_kL_ok fun v3 h4 hw => ?_) (fun _ _ z => z)
    obtain ⟨fs, hx, hlen, hw⟩ := hw
    refine bj_put (pc := 89) (ci := 3) (k := 2) (fs := fs) (v := (.long v3)) (ty := .long) d_W_perform_89 rfl (by decide) q_115 rfl (by decide +kernel) rfl rfl hx hlen ?_
    refine bj_goto (pc := 92) (tgt := 190) d_W_perform_92 (by decide) ?_
    refine bj_sub [] (lo' := []) rfl ?_
    exact m_W_perform_190 hR hw
  replace hw := hw.2 hc1
  by_cases hc2 : x1 = 2
  · replace hw := hw.1 hc2
    refine bj_tableIn (pc := 1) (tgt := 95) d_W_perform_1 (by rw [hc2]; decide) (by rw [hc2]; decide) (by rw [hc2]; rfl) (by decide) ?_
    refine bj_aload_n (pc := 95) 0 d_W_perform_95 rfl rfl ?_
    refine bj_dup (pc := 96) d_W_perform_96 rfl ?_
    obtain ⟨fs, v6, hx, hv, hw⟩ := hw
    refine bj_get (pc := 97) (ci := 3) (k := 2) (fs := fs) (v := .long v6) d_W_perform_97 rfl (by decide) q_115 hx hv ?_
    refine bj_lload_n (pc := 100) 3 d_W_perform_100 rfl rfl ?_
    refine bj_land (pc := 101) d_W_perform_101 ?_
    obtain ⟨fs, hx, hlen, hw⟩ := hw
    refine bj_put (pc := 102) (ci := 3) (k := 2) (fs := fs) (v := (.long (v6 &&& x3))) (ty := .long) d_W_perform_102 rfl (by decide) q_115 rfl (by decide +kernel) rfl rfl hx hlen ?_
    refine bj_goto (pc := 105) (tgt := 190) d_W_perform_105 (by decide) ?_
    refine bj_sub [] (lo' := []) rfl ?_
    exact m_W_perform_190 hR hw
  replace hw := hw.2 hc2
  by_cases hc3 : x1 = 3
  · replace hw := hw.1 hc3
    refine bj_tableIn (pc := 1) (tgt := 108) d_W_perform_1 (by rw [hc3]; decide) (by rw [hc3]; decide) (by rw [hc3]; rfl) (by decide) ?_
    refine bj_aload_n (pc := 108) 0 d_W_perform_108 rfl rfl ?_
    refine bj_dup (pc := 109) d_W_perform_109 rfl ?_
    obtain ⟨fs, v8, hx, hv, hw⟩ := hw
    refine bj_get (pc := 110) (ci := 3) (k := 3) (fs := fs) (v := .long v8) d_W_perform_110 rfl (by decide) q_116 hx hv ?_
    refine bj_aload_n (pc := 113) 0 d_W_perform_113 rfl rfl ?_
    obtain ⟨fs, v9, hx, hv, hw⟩ := hw
    refine bj_get (pc := 114) (ci := 3) (k := 2) (fs := fs) (v := .long v9) d_W_perform_114 rfl (by decide) q_115 hx hv ?_
    refine bj_lor (pc := 117) d_W_perform_117 ?_
    obtain ⟨fs, hx, hlen, hw⟩ := hw
    refine bj_put (pc := 118) (ci := 3) (k := 3) (fs := fs) (v := (.long (v8 ||| v9))) (ty := .long) d_W_perform_118 rfl (by decide) q_116 rfl (by decide +kernel) rfl rfl hx hlen ?_
    refine bj_goto (pc := 121) (tgt := 190) d_W_perform_121 (by decide) ?_
    refine bj_sub [] (lo' := []) rfl ?_
    exact m_W_perform_190 hR hw
  replace hw := hw.2 hc3
  by_cases hc4 : x1 = 4
  · replace hw := hw.1 hc4
    refine bj_tableIn (pc := 1) (tgt := 124) d_W_perform_1 (by rw [hc4]; decide) (by rw [hc4]; decide) (by rw [hc4]; rfl) (by decide) ?_
    refine bj_aload_n (pc := 124) 0 d_W_perform_124 rfl rfl ?_
    refine bj_dup (pc := 125) d_W_perform_125 rfl ?_
    obtain ⟨fs, v11, hx, hv, hw⟩ := hw
    refine bj_get (pc := 126) (ci := 3) (k := 3) (fs := fs) (v := .long v11) d_W_perform_126 rfl (by decide) q_116 hx hv ?_
    refine bj_lload_n (pc := 129) 3 d_W_perform_129 rfl rfl ?_
    refine bj_lor (pc := 130) d_W_perform_130 ?_
    obtain ⟨fs, hx, hlen, hw⟩ := hw
    refine bj_put (pc := 131) (ci := 3) (k := 3) (fs := fs) (v := (.long (v11 ||| x3))) (ty := .long) d_W_perform_131 rfl (by decide) q_116 rfl (by decide +kernel) rfl rfl hx hlen ?_
    refine bj_goto (pc := 134) (tgt := 190) d_W_perform_134 (by decide) ?_
    refine bj_sub [] (lo' := []) rfl ?_
    exact m_W_perform_190 hR hw
  replace hw := hw.2 hc4
  by_cases hc5 : x1 = 5
  · replace hw := hw.1 hc5
    refine bj_tableIn (pc := 1) (tgt := 137) d_W_perform_1 (by rw [hc5]; decide) (by rw [hc5]; decide) (by rw [hc5]; rfl) (by decide) ?_
    refine bj_aload_n (pc := 137) 0 d_W_perform_137 rfl rfl ?_
    refine bj_aload_n (pc := 138) 0 d_W_perform_138 rfl rfl ?_
    obtain ⟨fs, v13, hx, hv, hw⟩ := hw
    refine bj_get (pc := 139) (ci := 3) (k := 1) (fs := fs) (v := .long v13) d_W_perform_139 rfl (by decide) q_114 hx hv ?_
    refine bj_iload_n (pc := 142) 2 d_W_perform_142 rfl rfl ?_
    refine bj_lload_n (pc := 143) 3 d_W_perform_143 rfl rfl ?_
    refine bj_callS (pc := 144) (np := 3) (K' := K_B_exchanged) (argsL := [.long v13, .int x2, .long x3]) (st := [.ref x0]) (d1 := 1) rfl d_W_perform_144 (Or.inr ⟨_, q_269⟩) q_270 q_46 c_B_exchanged n_B_exchanged hR (by decide) (by decide) rfl (Nat.le_of_ble_eq_true rfl) rfl (Nat.le_of_ble_eq_true rfl) (fun R' hR' => m_B_exchanged hR' hw) (bs_kL_ok fun v14 h15 hw => ?_) (fun _ _ z => z)
    obtain ⟨fs, hx, hlen, hw⟩ := hw
    refine bj_put (pc := 147) (ci := 3) (k := 1) (fs := fs) (v := (.long v14)) (ty := .long) d_W_perform_147 rfl (by decide) q_114 rfl (by decide +kernel) rfl rfl hx hlen ?_
    refine bj_goto (pc := 150) (tgt := 190) d_W_perform_150 (by decide) ?_
    refine bj_sub [] (lo' := []) rfl ?_
    exact m_W_perform_190 hR hw
  replace hw := hw.2 hc5
  by_cases hc6 : x1 = 6
  · replace hw := hw.1 hc6
    refine bj_tableIn (pc := 1) (tgt := 153) d_W_perform_1 (by rw [hc6]; decide) (by rw [hc6]; decide) (by rw [hc6]; rfl) (by decide) ?_
    refine bj_aload_n (pc := 153) 0 d_W_perform_153 rfl rfl ?_
    refine bj_dup (pc := 154) d_W_perform_154 rfl ?_
    obtain ⟨fs, v17, hx, hv, hw⟩ := hw
    refine bj_get (pc := 155) (ci := 3) (k := 3) (fs := fs) (v := .long v17) d_W_perform_155 rfl (by decide) q_116 hx hv ?_
    refine bj_aload_n (pc := 158) 0 d_W_perform_158 rfl rfl ?_
    obtain ⟨fs, v18, hx, hv, hw⟩ := hw
    refine bj_get (pc := 159) (ci := 3) (k := 1) (fs := fs) (v := .long v18) d_W_perform_159 rfl (by decide) q_114 hx hv ?_
    refine bj_lor (pc := 162) d_W_perform_162 ?_
    obtain ⟨fs, hx, hlen, hw⟩ := hw
    refine bj_put (pc := 163) (ci := 3) (k := 3) (fs := fs) (v := (.long (v17 ||| v18))) (ty := .long) d_W_perform_163 rfl (by decide) q_116 rfl (by decide +kernel) rfl rfl hx hlen ?_
    refine bj_goto (pc := 166) (tgt := 190) d_W_perform_166 (by decide) ?_
    refine bj_sub [] (lo' := []) rfl ?_
    exact m_W_perform_190 hR hw
  replace hw := hw.2 hc6
  by_cases hc7 : x1 = 7
  · replace hw := hw.1 hc7
    refine bj_tableIn (pc := 1) (tgt := 169) d_W_perform_1 (by rw [hc7]; decide) (by rw [hc7]; decide) (by rw [hc7]; rfl) (by decide) ?_
    refine bj_aload_n (pc := 169) 0 d_W_perform_169 rfl rfl ?_
    refine bj_aload_n (pc := 170) 0 d_W_perform_170 rfl rfl ?_
    refine bj_lload_n (pc := 171) 3 d_W_perform_171 rfl rfl ?_
    obtain ⟨⟨fs, hx⟩, hw⟩ := hw
    refine bj_callV (pc := 172) (np := 1) (K' := K_W_gathered) (argsL := [.long x3]) (st := [.ref x0]) (d1 := 2) (ci := 3) (fs := fs) rfl d_W_perform_172 (Or.inl q_272) q_274 rfl q_2 c_W_gathered n_W_gathered hR (by decide) (by decide) rfl (Nat.le_of_ble_eq_true rfl) rfl (Nat.le_of_ble_eq_true rfl) hx (fun R' hR' => m_W_gathered hR' hw) (bs_kL_ok fun v20 h21 hw => ?_) (fun _ _ z => z)
    obtain ⟨fs, hx, hlen, hw⟩ := hw
    refine bj_put (pc := 175) (ci := 3) (k := 2) (fs := fs) (v := (.long v20)) (ty := .long) d_W_perform_175 rfl (by decide) q_115 rfl (by decide +kernel) rfl rfl hx hlen ?_
    refine bj_goto (pc := 178) (tgt := 190) d_W_perform_178 (by decide) ?_
    refine bj_sub [] (lo' := []) rfl ?_
    exact m_W_perform_190 hR hw
  replace hw := hw.2 hc7
  refine bj_tableOut (pc := 1) (tgt := 181) d_W_perform_1 ?_ (by decide) ?_
  · have n0 := lv_neT (k := 0) (a := 0) hc0 (by decide) ; have n1 := lv_neT (k := 1) (a := 1) hc1 (by decide) ; have n2 := lv_neT (k := 2) (a := 2) hc2 (by decide) ; have n3 := lv_neT (k := 3) (a := 3) hc3 (by decide) ; have n4 := lv_neT (k := 4) (a := 4) hc4 (by decide) ; have n5 := lv_neT (k := 5) (a := 5) hc5 (by decide) ; have n6 := lv_neT (k := 6) (a := 6) hc6 (by decide) ; have n7 := lv_neT (k := 7) (a := 7) hc7 (by decide) ; omega
  refine bj_aload_n (pc := 181) 0 d_W_perform_181 rfl rfl ?_
  refine bj_aload_n (pc := 182) 0 d_W_perform_182 rfl rfl ?_
  refine bj_lload_n (pc := 183) 3 d_W_perform_183 rfl rfl ?_
  obtain ⟨⟨fs, hx⟩, hw⟩ := hw
  refine bj_callV (pc := 184) (np := 1) (K' := K_W_scattered) (argsL := [.long x3]) (st := [.ref x0]) (d1 := 2) (ci := 3) (fs := fs) rfl d_W_perform_184 (Or.inl q_279) q_281 rfl q_3 c_W_scattered n_W_scattered hR (by decide) (by decide) rfl (Nat.le_of_ble_eq_true rfl) rfl (Nat.le_of_ble_eq_true rfl) hx (fun R' hR' => m_W_scattered hR' hw) (bs_kL_ok fun v23 h24 hw => ?_) (fun _ _ z => z)
  obtain ⟨fs, hx, hlen, hw⟩ := hw
  refine bj_put (pc := 187) (ci := 3) (k := 2) (fs := fs) (v := (.long v23)) (ty := .long) d_W_perform_187 rfl (by decide) q_115 rfl (by decide +kernel) rfl rfl hx hlen ?_
  refine bj_sub [] (lo' := []) rfl ?_
  exact m_W_perform_190 hR hw
theorem d_W_resultOf_0 : decode prog_7_method_2_code 0 = .ok (.aload_n 0, 1) := by decide +kernel
theorem d_W_resultOf_1 : decode prog_7_method_2_code 1 = .ok (.iload 4, 2) := by decide +kernel
theorem d_W_resultOf_3 : decode prog_7_method_2_code 3 = .ok (.putfield 9, 3) := by decide +kernel
theorem d_W_resultOf_6 : decode prog_7_method_2_code 6 = .ok (.aload_n 0, 1) := by decide +kernel
theorem d_W_resultOf_7 : decode prog_7_method_2_code 7 = .ok (.lload_n 2, 1) := by decide +kernel
theorem d_W_resultOf_8 : decode prog_7_method_2_code 8 = .ok (.aload_n 0, 1) := by decide +kernel
theorem d_W_resultOf_9 : decode prog_7_method_2_code 9 = .ok (.getfield 9, 3) := by decide +kernel
theorem d_W_resultOf_12 : decode prog_7_method_2_code 12 = .ok (.invokestatic 15, 3) := by decide +kernel
theorem d_W_resultOf_15 : decode prog_7_method_2_code 15 = .ok (.land, 1) := by decide +kernel
theorem d_W_resultOf_16 : decode prog_7_method_2_code 16 = .ok (.putfield 19, 3) := by decide +kernel
theorem d_W_resultOf_19 : decode prog_7_method_2_code 19 = .ok (.aload_n 0, 1) := by decide +kernel
theorem d_W_resultOf_20 : decode prog_7_method_2_code 20 = .ok (.lconst 0, 1) := by decide +kernel
theorem d_W_resultOf_21 : decode prog_7_method_2_code 21 = .ok (.putfield 23, 3) := by decide +kernel
theorem d_W_resultOf_24 : decode prog_7_method_2_code 24 = .ok (.aload_n 0, 1) := by decide +kernel
theorem d_W_resultOf_25 : decode prog_7_method_2_code 25 = .ok (.lconst 0, 1) := by decide +kernel
theorem d_W_resultOf_26 : decode prog_7_method_2_code 26 = .ok (.putfield 26, 3) := by decide +kernel
theorem d_W_resultOf_29 : decode prog_7_method_2_code 29 = .ok (.iconst 0, 1) := by decide +kernel
theorem d_W_resultOf_30 : decode prog_7_method_2_code 30 = .ok (.istore 5, 2) := by decide +kernel
theorem d_W_resultOf_32 : decode prog_7_method_2_code 32 = .ok (.iload 5, 2) := by decide +kernel
theorem d_W_resultOf_34 : decode prog_7_method_2_code 34 = .ok (.aload_n 1, 1) := by decide +kernel
theorem d_W_resultOf_35 : decode prog_7_method_2_code 35 = .ok (.invokevirtual 29, 3) := by decide +kernel
theorem d_W_resultOf_38 : decode prog_7_method_2_code 38 = .ok (.if_icmp .ge 31, 3) := by decide +kernel
theorem d_W_resultOf_41 : decode prog_7_method_2_code 41 = .ok (.aload_n 0, 1) := by decide +kernel
theorem d_W_resultOf_42 : decode prog_7_method_2_code 42 = .ok (.aload_n 1, 1) := by decide +kernel
theorem d_W_resultOf_43 : decode prog_7_method_2_code 43 = .ok (.iload 5, 2) := by decide +kernel
theorem d_W_resultOf_45 : decode prog_7_method_2_code 45 = .ok (.invokevirtual 35, 3) := by decide +kernel
theorem d_W_resultOf_48 : decode prog_7_method_2_code 48 = .ok (.aload_n 1, 1) := by decide +kernel
theorem d_W_resultOf_49 : decode prog_7_method_2_code 49 = .ok (.iload 5, 2) := by decide +kernel
theorem d_W_resultOf_51 : decode prog_7_method_2_code 51 = .ok (.invokevirtual 39, 3) := by decide +kernel
theorem d_W_resultOf_54 : decode prog_7_method_2_code 54 = .ok (.aload_n 1, 1) := by decide +kernel
theorem d_W_resultOf_55 : decode prog_7_method_2_code 55 = .ok (.iload 5, 2) := by decide +kernel
theorem d_W_resultOf_57 : decode prog_7_method_2_code 57 = .ok (.invokevirtual 42, 3) := by decide +kernel
theorem d_W_resultOf_60 : decode prog_7_method_2_code 60 = .ok (.invokevirtual 45, 3) := by decide +kernel
theorem d_W_resultOf_63 : decode prog_7_method_2_code 63 = .ok (.iinc 5 1, 3) := by decide +kernel
theorem d_W_resultOf_66 : decode prog_7_method_2_code 66 = .ok (.goto (-34), 3) := by decide +kernel
theorem d_W_resultOf_69 : decode prog_7_method_2_code 69 = .ok (.aload_n 0, 1) := by decide +kernel
theorem d_W_resultOf_70 : decode prog_7_method_2_code 70 = .ok (.getfield 26, 3) := by decide +kernel
theorem d_W_resultOf_73 : decode prog_7_method_2_code 73 = .ok (.lreturn, 1) := by decide +kernel
def w_W_resultOf_32_s (Φ : bs_R → bs_H → Prop) (nx32 : Nat → Nat → Int32 → bs_H → Prop) (x0 : Nat) (x1 : Nat) (x5 : Int32) (h : bs_H) : Prop :=
  bs_on h x1 2 (w_P_length (bs_kI Φ fun v1 h2 => (bs_if (v1 ≤ x5) (bs_fL h2 x0 3 3 (fun v3 => Φ (.ok (some (.long v3))) h2)) (bs_on h2 x1 2 (w_P_opAt (bs_kI Φ fun v4 h5 => (bs_on h5 x1 2 (w_P_amountAt (bs_kI Φ fun v6 h7 => (bs_on h7 x1 2 (w_P_maskAt (bs_kL Φ fun v8 h9 => (bs_on h9 x0 3 (w_W_perform (bs_kV Φ fun h10 => (nx32 x0 x1 (x5 + 1) h10)) x0 v4 v6 v8 h9))) x1 x5 h7))) x1 x5 h5))) x1 x5 h2)))) x1 h)
def w_W_resultOf_32 (Φ : bs_R → bs_H → Prop) : Nat → Nat → Nat → Int32 → bs_H → Prop
  | 0 => fun _ _ _ _ => False
  | n + 1 => fun x0 x1 x5 h => w_W_resultOf_32_s Φ (w_W_resultOf_32 Φ n) x0 x1 x5 h
def w_W_resultOf (Φ : bs_R → bs_H → Prop) (x0 : Nat) (x1 : Nat) (x2 : Int64) (x4 : Int32) (h : bs_H) : Prop :=
  bs_p h x0 3 0 (.int x4) (fun h1 => bs_fI h1 x0 3 0 (fun v2 => w_B_allBits (bs_kL Φ fun v3 h4 => (bs_p h4 x0 3 1 (.long (x2 &&& v3)) (fun h5 => bs_p h5 x0 3 2 (.long 0) (fun h6 => bs_p h6 x0 3 3 (.long 0) (fun h7 => w_W_resultOf_32 Φ 1000 x0 x1 0 h7))))) v2 h1))
theorem m_W_resultOf_32 {l : Launch} {R : Room} {Φ : bs_R → bs_H → Prop} (hR : bs_rm 4 R) : ∀ (n : Nat) (x0 : Nat) (x1 : Nat) (x5 : Int32) (h : bs_H), w_W_resultOf_32 Φ n x0 x1 x5 h → bs_J l K_W_resultOf R Φ 32 [(0, .ref x0), (1, .ref x1), (5, .int x5)] [] h := by
  intro n
  induction n with
  | zero => intro x0 x1 x5 h hw; exact hw.elim
  | succ n ih =>
    have hnx32 := ih
    intro x0 x1 x5 h hw
    replace hw : w_W_resultOf_32_s Φ (w_W_resultOf_32 Φ n) x0 x1 x5 h := hw
    unfold w_W_resultOf_32_s at hw
    refine bj_iload (pc := 32) 2 d_W_resultOf_32 rfl ?_
    refine bj_aload_n (pc := 34) 1 d_W_resultOf_34 rfl rfl ?_
    obtain ⟨⟨fs, hx⟩, hw⟩ := hw
    refine bj_callV (pc := 35) (np := 0) (K' := K_P_length) (argsL := []) (st := [.int x5]) (d1 := 1) (ci := 2) (fs := fs) rfl d_W_resultOf_35 (Or.inl q_248) q_229 rfl q_230 c_P_length n_P_length hR (by decide) (by decide) rfl (Nat.le_of_ble_eq_true rfl) rfl (Nat.le_of_ble_eq_true rfl) hx (fun R' hR' => m_P_length hR' hw) (bs_kI_ok fun v1 h2 hw => ?_) (fun _ _ z => z)
    refine bj_icmp_ge (pc := 38) (tgt := 69) d_W_resultOf_38 (by decide) (fun hc => ?_) (fun hc => ?_)
    · replace hw := hw.1 hc
      refine bj_aload_n (pc := 69) 0 d_W_resultOf_69 rfl rfl ?_
      obtain ⟨fs, v3, hx, hv, hw⟩ := hw
      refine bj_get (pc := 70) (ci := 3) (k := 3) (fs := fs) (v := .long v3) d_W_resultOf_70 rfl (by decide) q_116 hx hv ?_
      exact bj_lret (pc := 73) d_W_resultOf_73 rfl hw
    · replace hw := hw.2 hc
      refine bj_aload_n (pc := 41) 0 d_W_resultOf_41 rfl rfl ?_
      refine bj_aload_n (pc := 42) 1 d_W_resultOf_42 rfl rfl ?_
      refine bj_iload (pc := 43) 2 d_W_resultOf_43 rfl ?_
      obtain ⟨⟨fs, hx⟩, hw⟩ := hw
      refine bj_callV (pc := 45) (np := 1) (K' := K_P_opAt) (argsL := [.int x5]) (st := [.ref x0]) (d1 := 1) (ci := 2) (fs := fs) rfl d_W_resultOf_45 (Or.inl q_249) q_250 rfl q_251 c_P_opAt n_P_opAt hR (by decide) (by decide) rfl (Nat.le_of_ble_eq_true rfl) rfl (Nat.le_of_ble_eq_true rfl) hx (fun R' hR' => m_P_opAt hR' hw) (bs_kI_ok fun v4 h5 hw => ?_) (fun _ _ z => z)
      refine bj_aload_n (pc := 48) 1 d_W_resultOf_48 rfl rfl ?_
      refine bj_iload (pc := 49) 2 d_W_resultOf_49 rfl ?_
      obtain ⟨⟨fs, hx⟩, hw⟩ := hw
      refine bj_callV (pc := 51) (np := 1) (K' := K_P_amountAt) (argsL := [.int x5]) (st := [.int v4, .ref x0]) (d1 := 1) (ci := 2) (fs := fs) rfl d_W_resultOf_51 (Or.inl q_253) q_254 rfl q_255 c_P_amountAt n_P_amountAt hR (by decide) (by decide) rfl (Nat.le_of_ble_eq_true rfl) rfl (Nat.le_of_ble_eq_true rfl) hx (fun R' hR' => m_P_amountAt hR' hw) (bs_kI_ok fun v6 h7 hw => ?_) (fun _ _ z => z)
      refine bj_aload_n (pc := 54) 1 d_W_resultOf_54 rfl rfl ?_
      refine bj_iload (pc := 55) 2 d_W_resultOf_55 rfl ?_
      obtain ⟨⟨fs, hx⟩, hw⟩ := hw
      refine bj_callV (pc := 57) (np := 1) (K' := K_P_maskAt) (argsL := [.int x5]) (st := [.int v6, .int v4, .ref x0]) (d1 := 1) (ci := 2) (fs := fs) rfl d_W_resultOf_57 (Or.inl q_257) q_258 rfl q_259 c_P_maskAt n_P_maskAt hR (by decide) (by decide) rfl (Nat.le_of_ble_eq_true rfl) rfl (Nat.le_of_ble_eq_true rfl) hx (fun R' hR' => m_P_maskAt hR' hw) (bs_kL_ok fun v8 h9 hw => ?_) (fun _ _ z => z)
      obtain ⟨⟨fs, hx⟩, hw⟩ := hw
      refine bj_callV (pc := 60) (np := 3) (K' := K_W_perform) (argsL := [.int v4, .int v6, .long v8]) (st := []) (d1 := 3) (ci := 3) (fs := fs) rfl d_W_resultOf_60 (Or.inl q_261) q_263 rfl q_0 c_W_perform n_W_perform hR (by decide) (by decide) rfl (Nat.le_of_ble_eq_true rfl) rfl (Nat.le_of_ble_eq_true rfl) hx (fun R' hR' => m_W_perform hR' hw) (bs_kV_ok fun h10 hw => ?_) (fun _ _ z => z)
      refine bj_iinc (pc := 63) (v := (x5 + 1)) (lo' := [(5, .int (x5 + 1)), (0, .ref x0), (1, .ref x1)]) 2 d_W_resultOf_63 rfl rfl (by decide) rfl ?_
      refine bj_goto (pc := 66) (tgt := 32) d_W_resultOf_66 (by decide) ?_
      refine bj_sub [1, 2, 0] (lo' := [(0, .ref x0), (1, .ref x1), (5, .int (x5 + 1))]) rfl ?_
      exact hnx32 _ _ _ _ hw
theorem m_W_resultOf {l : Launch} {R : Room} (hR : bs_rm 4 R) {Φ : bs_R → bs_H → Prop} {x0 : Nat} {x1 : Nat} {x2 : Int64} {x4 : Int32} {h : bs_H} (hw : w_W_resultOf Φ x0 x1 x2 x4 h) : bs_J l K_W_resultOf R Φ 0 [(0, .ref x0), (1, .ref x1), (2, .long x2), (4, .int x4)] [] h := by
  unfold w_W_resultOf at hw
  refine bj_aload_n (pc := 0) 0 d_W_resultOf_0 rfl rfl ?_
  refine bj_iload (pc := 1) 3 d_W_resultOf_1 rfl ?_
  obtain ⟨fs, hx, hlen, hw⟩ := hw
  refine bj_put (pc := 3) (ci := 3) (k := 0) (fs := fs) (v := (.int x4)) (ty := .int) d_W_resultOf_3 rfl (by decide) q_113 rfl (by decide +kernel) rfl rfl hx hlen ?_
  refine bj_aload_n (pc := 6) 0 d_W_resultOf_6 rfl rfl ?_
  refine bj_lload_n (pc := 7) 2 d_W_resultOf_7 rfl rfl ?_
  refine bj_aload_n (pc := 8) 0 d_W_resultOf_8 rfl rfl ?_
  obtain ⟨fs, v2, hx, hv, hw⟩ := hw
  refine bj_get (pc := 9) (ci := 3) (k := 0) (fs := fs) (v := .int v2) d_W_resultOf_9 rfl (by decide) q_113 hx hv ?_
  refine bj_callS (pc := 12) (np := 1) (K' := K_B_allBits) (argsL := [.int v2]) (st := [.long x2, .ref x0]) (d1 := 1) rfl d_W_resultOf_12 (Or.inr ⟨_, q_244⟩) q_245 q_46 c_B_allBits n_B_allBits hR (by decide) (by decide) rfl (Nat.le_of_ble_eq_true rfl) rfl (Nat.le_of_ble_eq_true rfl) (fun R' hR' => m_B_allBits hR' hw) (bs_kL_ok fun v3 h4 hw => ?_) (fun _ _ z => z)
  refine bj_land (pc := 15) d_W_resultOf_15 ?_
  obtain ⟨fs, hx, hlen, hw⟩ := hw
  refine bj_put (pc := 16) (ci := 3) (k := 1) (fs := fs) (v := (.long (x2 &&& v3))) (ty := .long) d_W_resultOf_16 rfl (by decide) q_114 rfl (by decide +kernel) rfl rfl hx hlen ?_
  refine bj_aload_n (pc := 19) 0 d_W_resultOf_19 rfl rfl ?_
  refine bj_lconst (pc := 20) (v := 0) d_W_resultOf_20 (by decide) ?_
  obtain ⟨fs, hx, hlen, hw⟩ := hw
  refine bj_put (pc := 21) (ci := 3) (k := 2) (fs := fs) (v := (.long 0)) (ty := .long) d_W_resultOf_21 rfl (by decide) q_115 rfl (by decide +kernel) rfl rfl hx hlen ?_
  refine bj_aload_n (pc := 24) 0 d_W_resultOf_24 rfl rfl ?_
  refine bj_lconst (pc := 25) (v := 0) d_W_resultOf_25 (by decide) ?_
  obtain ⟨fs, hx, hlen, hw⟩ := hw
  refine bj_put (pc := 26) (ci := 3) (k := 3) (fs := fs) (v := (.long 0)) (ty := .long) d_W_resultOf_26 rfl (by decide) q_116 rfl (by decide +kernel) rfl rfl hx hlen ?_
  refine bj_iconst (pc := 29) (v := 0) d_W_resultOf_29 (by decide) ?_
  refine bj_istore (pc := 30) (lo' := [(5, .int 0), (0, .ref x0), (1, .ref x1), (2, .long x2), (4, .int x4)]) d_W_resultOf_30 (by decide) rfl ?_
  refine bj_sub [1, 2, 0] (lo' := [(0, .ref x0), (1, .ref x1), (5, .int 0)]) rfl ?_
  exact m_W_resultOf_32 hR 1000 _ _ _ _ hw
theorem d_B_run_0 : decode prog_1_method_10_code 0 = .ok (.aload_n 0, 1) := by decide +kernel
theorem d_B_run_1 : decode prog_1_method_10_code 1 = .ok (.getfield 37, 3) := by decide +kernel
theorem d_B_run_4 : decode prog_1_method_10_code 4 = .ok (.aload_n 0, 1) := by decide +kernel
theorem d_B_run_5 : decode prog_1_method_10_code 5 = .ok (.getfield 30, 3) := by decide +kernel
theorem d_B_run_8 : decode prog_1_method_10_code 8 = .ok (.lload_n 1, 1) := by decide +kernel
theorem d_B_run_9 : decode prog_1_method_10_code 9 = .ok (.aload_n 0, 1) := by decide +kernel
theorem d_B_run_10 : decode prog_1_method_10_code 10 = .ok (.getfield 12, 3) := by decide +kernel
theorem d_B_run_13 : decode prog_1_method_10_code 13 = .ok (.invokevirtual 91, 3) := by decide +kernel
theorem d_B_run_16 : decode prog_1_method_10_code 16 = .ok (.invokevirtual 136, 3) := by decide +kernel
theorem d_B_run_19 : decode prog_1_method_10_code 19 = .ok (.lreturn, 1) := by decide +kernel
def w_B_run (Φ : bs_R → bs_H → Prop) (x0 : Nat) (x1 : Int64) (h : bs_H) : Prop :=
  bs_fA h x0 0 5 (fun v1 => bs_fA h x0 0 4 (fun v2 => bs_fA h x0 0 0 (fun v3 => bs_on h v3 1 (w_M_bits (bs_kI Φ fun v4 h5 => (bs_on h5 v1 3 (w_W_resultOf (bs_kL Φ fun v6 h7 => (Φ (.ok (some (.long v6))) h7)) v1 v2 x1 v4 h5))) v3 h))))
theorem m_B_run {l : Launch} {R : Room} (hR : bs_rm 5 R) {Φ : bs_R → bs_H → Prop} {x0 : Nat} {x1 : Int64} {h : bs_H} (hw : w_B_run Φ x0 x1 h) : bs_J l K_B_run R Φ 0 [(0, .ref x0), (1, .long x1)] [] h := by
  unfold w_B_run at hw
  refine bj_aload_n (pc := 0) 0 d_B_run_0 rfl rfl ?_
  obtain ⟨fs, v1, hx, hv, hw⟩ := hw
  refine bj_get (pc := 1) (ci := 0) (k := 5) (fs := fs) (v := .ref v1) d_B_run_1 rfl (by decide) q_201 hx hv ?_
  refine bj_aload_n (pc := 4) 0 d_B_run_4 rfl rfl ?_
  obtain ⟨fs, v2, hx, hv, hw⟩ := hw
  refine bj_get (pc := 5) (ci := 0) (k := 4) (fs := fs) (v := .ref v2) d_B_run_5 rfl (by decide) q_200 hx hv ?_
  refine bj_lload_n (pc := 8) 1 d_B_run_8 rfl rfl ?_
  refine bj_aload_n (pc := 9) 0 d_B_run_9 rfl rfl ?_
  obtain ⟨fs, v3, hx, hv, hw⟩ := hw
  refine bj_get (pc := 10) (ci := 0) (k := 0) (fs := fs) (v := .ref v3) d_B_run_10 rfl (by decide) q_196 hx hv ?_
  obtain ⟨⟨fs, hx⟩, hw⟩ := hw
  refine bj_callV (pc := 13) (np := 0) (K' := K_M_bits) (argsL := []) (st := [.long x1, .ref v2, .ref v1]) (d1 := 1) (ci := 1) (fs := fs) rfl d_B_run_13 (Or.inl q_236) q_237 rfl q_238 c_M_bits n_M_bits hR (by decide) (by decide) rfl (Nat.le_of_ble_eq_true rfl) rfl (Nat.le_of_ble_eq_true rfl) hx (fun R' hR' => m_M_bits hR' hw) (bs_kI_ok fun v4 h5 hw => ?_) (fun _ _ z => z)
  obtain ⟨⟨fs, hx⟩, hw⟩ := hw
  refine bj_callV (pc := 16) (np := 3) (K' := K_W_resultOf) (argsL := [.ref v2, .long x1, .int v4]) (st := []) (d1 := 4) (ci := 3) (fs := fs) rfl d_B_run_16 (Or.inl q_240) q_241 rfl q_242 c_W_resultOf n_W_resultOf hR (by decide) (by decide) rfl (Nat.le_of_ble_eq_true rfl) rfl (Nat.le_of_ble_eq_true rfl) hx (fun R' hR' => m_W_resultOf hR' hw) (bs_kL_ok fun v6 h7 hw => ?_) (fun _ _ z => z)
  exact bj_lret (pc := 19) d_B_run_19 rfl hw
theorem d_R_moveBits_0 : decode prog_9_method_25_code 0 = .ok (.iconst 0, 1) := by decide +kernel
theorem d_R_moveBits_1 : decode prog_9_method_25_code 1 = .ok (.istore_n 3, 1) := by decide +kernel
theorem d_R_moveBits_2 : decode prog_9_method_25_code 2 = .ok (.iload_n 3, 1) := by decide +kernel
theorem d_R_moveBits_3 : decode prog_9_method_25_code 3 = .ok (.aload_n 0, 1) := by decide +kernel
theorem d_R_moveBits_4 : decode prog_9_method_25_code 4 = .ok (.getfield 89, 3) := by decide +kernel
theorem d_R_moveBits_7 : decode prog_9_method_25_code 7 = .ok (.if_icmp .ge 80, 3) := by decide +kernel
theorem d_R_moveBits_10 : decode prog_9_method_25_code 10 = .ok (.iload_n 3, 1) := by decide +kernel
theorem d_R_moveBits_11 : decode prog_9_method_25_code 11 = .ok (.iload_n 1, 1) := by decide +kernel
theorem d_R_moveBits_12 : decode prog_9_method_25_code 12 = .ok (.isub, 1) := by decide +kernel
theorem d_R_moveBits_13 : decode prog_9_method_25_code 13 = .ok (.istore 4, 2) := by decide +kernel
theorem d_R_moveBits_15 : decode prog_9_method_25_code 15 = .ok (.iload_n 2, 1) := by decide +kernel
theorem d_R_moveBits_16 : decode prog_9_method_25_code 16 = .ok (.ifCond .eq 18, 3) := by decide +kernel
theorem d_R_moveBits_19 : decode prog_9_method_25_code 19 = .ok (.iload 4, 2) := by decide +kernel
theorem d_R_moveBits_21 : decode prog_9_method_25_code 21 = .ok (.ifCond .ge 13, 3) := by decide +kernel
theorem d_R_moveBits_24 : decode prog_9_method_25_code 24 = .ok (.iload 4, 2) := by decide +kernel
theorem d_R_moveBits_26 : decode prog_9_method_25_code 26 = .ok (.aload_n 0, 1) := by decide +kernel
theorem d_R_moveBits_27 : decode prog_9_method_25_code 27 = .ok (.getfield 89, 3) := by decide +kernel
theorem d_R_moveBits_30 : decode prog_9_method_25_code 30 = .ok (.iadd, 1) := by decide +kernel
theorem d_R_moveBits_31 : decode prog_9_method_25_code 31 = .ok (.goto 5, 3) := by decide +kernel
theorem d_R_moveBits_34 : decode prog_9_method_25_code 34 = .ok (.iload 4, 2) := by decide +kernel
theorem d_R_moveBits_36 : decode prog_9_method_25_code 36 = .ok (.istore 4, 2) := by decide +kernel
theorem d_R_moveBits_38 : decode prog_9_method_25_code 38 = .ok (.iload 4, 2) := by decide +kernel
theorem d_R_moveBits_40 : decode prog_9_method_25_code 40 = .ok (.ifCond .lt 16, 3) := by decide +kernel
theorem d_R_moveBits_43 : decode prog_9_method_25_code 43 = .ok (.iload 4, 2) := by decide +kernel
theorem d_R_moveBits_45 : decode prog_9_method_25_code 45 = .ok (.aload_n 0, 1) := by decide +kernel
theorem d_R_moveBits_46 : decode prog_9_method_25_code 46 = .ok (.getfield 89, 3) := by decide +kernel
theorem d_R_moveBits_49 : decode prog_9_method_25_code 49 = .ok (.if_icmp .ge 7, 3) := by decide +kernel
theorem d_R_moveBits_52 : decode prog_9_method_25_code 52 = .ok (.iconst 1, 1) := by decide +kernel
theorem d_R_moveBits_53 : decode prog_9_method_25_code 53 = .ok (.goto 4, 3) := by decide +kernel
theorem d_R_moveBits_56 : decode prog_9_method_25_code 56 = .ok (.iconst 0, 1) := by decide +kernel
theorem d_R_moveBits_57 : decode prog_9_method_25_code 57 = .ok (.istore 5, 2) := by decide +kernel
theorem d_R_moveBits_59 : decode prog_9_method_25_code 59 = .ok (.aload_n 0, 1) := by decide +kernel
theorem d_R_moveBits_60 : decode prog_9_method_25_code 60 = .ok (.getfield 32, 3) := by decide +kernel
theorem d_R_moveBits_63 : decode prog_9_method_25_code 63 = .ok (.iload_n 3, 1) := by decide +kernel
theorem d_R_moveBits_64 : decode prog_9_method_25_code 64 = .ok (.iload 5, 2) := by decide +kernel
theorem d_R_moveBits_66 : decode prog_9_method_25_code 66 = .ok (.ifCond .eq 13, 3) := by decide +kernel
theorem d_R_moveBits_69 : decode prog_9_method_25_code 69 = .ok (.aload_n 0, 1) := by decide +kernel
theorem d_R_moveBits_70 : decode prog_9_method_25_code 70 = .ok (.getfield 29, 3) := by decide +kernel
theorem d_R_moveBits_73 : decode prog_9_method_25_code 73 = .ok (.iload 4, 2) := by decide +kernel
theorem d_R_moveBits_75 : decode prog_9_method_25_code 75 = .ok (.laload, 1) := by decide +kernel
theorem d_R_moveBits_76 : decode prog_9_method_25_code 76 = .ok (.goto 4, 3) := by decide +kernel
theorem d_R_moveBits_79 : decode prog_9_method_25_code 79 = .ok (.lconst 0, 1) := by decide +kernel
theorem d_R_moveBits_80 : decode prog_9_method_25_code 80 = .ok (.lastore, 1) := by decide +kernel
theorem d_R_moveBits_81 : decode prog_9_method_25_code 81 = .ok (.iinc 3 1, 3) := by decide +kernel
theorem d_R_moveBits_84 : decode prog_9_method_25_code 84 = .ok (.goto (-82), 3) := by decide +kernel
theorem d_R_moveBits_87 : decode prog_9_method_25_code 87 = .ok (.return_, 1) := by decide +kernel
def w_R_moveBits_80 (Φ : bs_R → bs_H → Prop) (nx2 : Nat → Int32 → Int32 → Int32 → bs_H → Prop) (x0 : Nat) (x1 : Int32) (x2 : Int32) (x3 : Int32) (s0 : Nat) (s1 : Int32) (s2 : Int64) (h : bs_H) : Prop :=
  bs_sL h s0 s1 s2 (fun h1 => nx2 x0 x1 x2 (x3 + 1) h1)
def w_R_moveBits_57 (Φ : bs_R → bs_H → Prop) (nx2 : Nat → Int32 → Int32 → Int32 → bs_H → Prop) (x0 : Nat) (x1 : Int32) (x2 : Int32) (x3 : Int32) (x4 : Int32) (s0 : Int32) (h : bs_H) : Prop :=
  bs_fA h x0 7 11 (fun v1 => bs_if (s0 = 0) (w_R_moveBits_80 Φ nx2 x0 x1 x2 x3 v1 x3 0 h) (bs_fA h x0 7 10 (fun v2 => bs_lL h v2 x4 (fun v3 => w_R_moveBits_80 Φ nx2 x0 x1 x2 x3 v1 x3 v3 h))))
def w_R_moveBits_56 (Φ : bs_R → bs_H → Prop) (nx2 : Nat → Int32 → Int32 → Int32 → bs_H → Prop) (x0 : Nat) (x1 : Int32) (x2 : Int32) (x3 : Int32) (x4 : Int32) (h : bs_H) : Prop :=
  w_R_moveBits_57 Φ nx2 x0 x1 x2 x3 x4 0 h
def w_R_moveBits_36 (Φ : bs_R → bs_H → Prop) (nx2 : Nat → Int32 → Int32 → Int32 → bs_H → Prop) (x0 : Nat) (x1 : Int32) (x2 : Int32) (x3 : Int32) (s0 : Int32) (h : bs_H) : Prop :=
  bs_if (s0 < 0) (w_R_moveBits_56 Φ nx2 x0 x1 x2 x3 s0 h) (bs_fI h x0 7 1 (fun v1 => bs_if (v1 ≤ s0) (w_R_moveBits_56 Φ nx2 x0 x1 x2 x3 s0 h) (w_R_moveBits_57 Φ nx2 x0 x1 x2 x3 s0 1 h)))
def w_R_moveBits_34 (Φ : bs_R → bs_H → Prop) (nx2 : Nat → Int32 → Int32 → Int32 → bs_H → Prop) (x0 : Nat) (x1 : Int32) (x2 : Int32) (x3 : Int32) (x4 : Int32) (h : bs_H) : Prop :=
  w_R_moveBits_36 Φ nx2 x0 x1 x2 x3 x4 h
def w_R_moveBits_2_s (Φ : bs_R → bs_H → Prop) (nx2 : Nat → Int32 → Int32 → Int32 → bs_H → Prop) (x0 : Nat) (x1 : Int32) (x2 : Int32) (x3 : Int32) (h : bs_H) : Prop :=
  bs_fI h x0 7 1 (fun v1 => bs_if (v1 ≤ x3) (Φ (.ok none) h) (bs_if (x2 = 0) (w_R_moveBits_34 Φ nx2 x0 x1 x2 x3 (x3 - x1) h) (bs_if ((0 : Int32) ≤ (x3 - x1)) (w_R_moveBits_34 Φ nx2 x0 x1 x2 x3 (x3 - x1) h) (bs_fI h x0 7 1 (fun v2 => w_R_moveBits_36 Φ nx2 x0 x1 x2 x3 ((x3 - x1) + v2) h)))))
def w_R_moveBits_2 (Φ : bs_R → bs_H → Prop) : Nat → Nat → Int32 → Int32 → Int32 → bs_H → Prop
  | 0 => fun _ _ _ _ _ => False
  | n + 1 => fun x0 x1 x2 x3 h => w_R_moveBits_2_s Φ (w_R_moveBits_2 Φ n) x0 x1 x2 x3 h
def w_R_moveBits (Φ : bs_R → bs_H → Prop) (x0 : Nat) (x1 : Int32) (x2 : Int32) (h : bs_H) : Prop :=
  w_R_moveBits_2 Φ 1000 x0 x1 x2 0 h
theorem m_R_moveBits_80 {l : Launch} {R : Room} {Φ : bs_R → bs_H → Prop} (hR : bs_rm 1 R) {nx2 : Nat → Int32 → Int32 → Int32 → bs_H → Prop} (hnx2 : ∀ (x0 : Nat) (x1 : Int32) (x2 : Int32) (x3 : Int32) (h : bs_H), nx2 x0 x1 x2 x3 h → bs_J l K_R_moveBits R Φ 2 [(0, .ref x0), (1, .int x1), (2, .int x2), (3, .int x3)] [] h) {x0 : Nat} {x1 : Int32} {x2 : Int32} {x3 : Int32} {s0 : Nat} {s1 : Int32} {s2 : Int64} {h : bs_H} (hw : w_R_moveBits_80 Φ nx2 x0 x1 x2 x3 s0 s1 s2 h) : bs_J l K_R_moveBits R Φ 80 [(0, .ref x0), (1, .int x1), (2, .int x2), (3, .int x3)] [.long s2, .int s1, .ref s0] h := by
  unfold w_R_moveBits_80 at hw
  obtain ⟨n, f, hx, hin, hw⟩ := hw
  refine bj_last (pc := 80) (n := n) (f := f) d_R_moveBits_80 hx hin ?_
  refine bj_iinc (pc := 81) (v := (x3 + 1)) (lo' := [(3, .int (x3 + 1)), (0, .ref x0), (1, .int x1), (2, .int x2)]) 3 d_R_moveBits_81 rfl rfl (by decide) rfl ?_
  refine bj_goto (pc := 84) (tgt := 2) d_R_moveBits_84 (by decide) ?_
  refine bj_sub [1, 2, 3, 0] (lo' := [(0, .ref x0), (1, .int x1), (2, .int x2), (3, .int (x3 + 1))]) rfl ?_
  exact hnx2 _ _ _ _ _ hw
theorem m_R_moveBits_57 {l : Launch} {R : Room} {Φ : bs_R → bs_H → Prop} (hR : bs_rm 1 R) {nx2 : Nat → Int32 → Int32 → Int32 → bs_H → Prop} (hnx2 : ∀ (x0 : Nat) (x1 : Int32) (x2 : Int32) (x3 : Int32) (h : bs_H), nx2 x0 x1 x2 x3 h → bs_J l K_R_moveBits R Φ 2 [(0, .ref x0), (1, .int x1), (2, .int x2), (3, .int x3)] [] h) {x0 : Nat} {x1 : Int32} {x2 : Int32} {x3 : Int32} {x4 : Int32} {s0 : Int32} {h : bs_H} (hw : w_R_moveBits_57 Φ nx2 x0 x1 x2 x3 x4 s0 h) : bs_J l K_R_moveBits R Φ 57 [(0, .ref x0), (1, .int x1), (2, .int x2), (3, .int x3), (4, .int x4)] [.int s0] h := by
  unfold w_R_moveBits_57 at hw
  refine bj_istore (pc := 57) (lo' := [(5, .int s0), (0, .ref x0), (1, .int x1), (2, .int x2), (3, .int x3), (4, .int x4)]) d_R_moveBits_57 (by decide) rfl ?_
  refine bj_aload_n (pc := 59) 1 d_R_moveBits_59 rfl rfl ?_
  obtain ⟨fs, v1, hx, hv, hw⟩ := hw
  refine bj_get (pc := 60) (ci := 7) (k := 11) (fs := fs) (v := .ref v1) d_R_moveBits_60 rfl (by decide) q_759 hx hv ?_
  refine bj_iload_n (pc := 63) 4 d_R_moveBits_63 rfl rfl ?_
  refine bj_iload (pc := 64) 0 d_R_moveBits_64 rfl ?_
  refine bj_if_eq (pc := 66) (tgt := 79) d_R_moveBits_66 (by decide) (fun hc => ?_) (fun hc => ?_)
  · replace hw := hw.1 hc
    refine bj_lconst (pc := 79) (v := 0) d_R_moveBits_79 (by decide) ?_
    refine bj_sub [1, 2, 3, 4] (lo' := [(0, .ref x0), (1, .int x1), (2, .int x2), (3, .int x3)]) rfl ?_
    exact m_R_moveBits_80 hR hnx2 hw
  · replace hw := hw.2 hc
    refine bj_aload_n (pc := 69) 1 d_R_moveBits_69 rfl rfl ?_
    obtain ⟨fs, v2, hx, hv, hw⟩ := hw
    refine bj_get (pc := 70) (ci := 7) (k := 10) (fs := fs) (v := .ref v2) d_R_moveBits_70 rfl (by decide) q_758 hx hv ?_
    refine bj_iload (pc := 73) 5 d_R_moveBits_73 rfl ?_
    obtain ⟨n, f, v3, hx, hin, hv, hw⟩ := hw
    refine bj_lald (pc := 75) (n := n) (f := f) d_R_moveBits_75 hx hin hv ?_
    refine bj_goto (pc := 76) (tgt := 80) d_R_moveBits_76 (by decide) ?_
    refine bj_sub [1, 2, 3, 4] (lo' := [(0, .ref x0), (1, .int x1), (2, .int x2), (3, .int x3)]) rfl ?_
    exact m_R_moveBits_80 hR hnx2 hw
theorem m_R_moveBits_56 {l : Launch} {R : Room} {Φ : bs_R → bs_H → Prop} (hR : bs_rm 1 R) {nx2 : Nat → Int32 → Int32 → Int32 → bs_H → Prop} (hnx2 : ∀ (x0 : Nat) (x1 : Int32) (x2 : Int32) (x3 : Int32) (h : bs_H), nx2 x0 x1 x2 x3 h → bs_J l K_R_moveBits R Φ 2 [(0, .ref x0), (1, .int x1), (2, .int x2), (3, .int x3)] [] h) {x0 : Nat} {x1 : Int32} {x2 : Int32} {x3 : Int32} {x4 : Int32} {h : bs_H} (hw : w_R_moveBits_56 Φ nx2 x0 x1 x2 x3 x4 h) : bs_J l K_R_moveBits R Φ 56 [(0, .ref x0), (1, .int x1), (2, .int x2), (3, .int x3), (4, .int x4)] [] h := by
  unfold w_R_moveBits_56 at hw
  refine bj_iconst (pc := 56) (v := 0) d_R_moveBits_56 (by decide) ?_
  exact m_R_moveBits_57 hR hnx2 hw
theorem m_R_moveBits_36 {l : Launch} {R : Room} {Φ : bs_R → bs_H → Prop} (hR : bs_rm 1 R) {nx2 : Nat → Int32 → Int32 → Int32 → bs_H → Prop} (hnx2 : ∀ (x0 : Nat) (x1 : Int32) (x2 : Int32) (x3 : Int32) (h : bs_H), nx2 x0 x1 x2 x3 h → bs_J l K_R_moveBits R Φ 2 [(0, .ref x0), (1, .int x1), (2, .int x2), (3, .int x3)] [] h) {x0 : Nat} {x1 : Int32} {x2 : Int32} {x3 : Int32} {s0 : Int32} {h : bs_H} (hw : w_R_moveBits_36 Φ nx2 x0 x1 x2 x3 s0 h) : bs_J l K_R_moveBits R Φ 36 [(0, .ref x0), (1, .int x1), (2, .int x2), (3, .int x3)] [.int s0] h := by
  unfold w_R_moveBits_36 at hw
  refine bj_istore (pc := 36) (lo' := [(4, .int s0), (0, .ref x0), (1, .int x1), (2, .int x2), (3, .int x3)]) d_R_moveBits_36 (by decide) rfl ?_
  refine bj_iload (pc := 38) 0 d_R_moveBits_38 rfl ?_
  refine bj_if_lt (pc := 40) (tgt := 56) d_R_moveBits_40 (by decide) (fun hc => ?_) (fun hc => ?_)
  · replace hw := hw.1 hc
    refine bj_sub [1, 2, 3, 4, 0] (lo' := [(0, .ref x0), (1, .int x1), (2, .int x2), (3, .int x3), (4, .int s0)]) rfl ?_
    exact m_R_moveBits_56 hR hnx2 hw
  · replace hw := hw.2 hc
    refine bj_iload (pc := 43) 0 d_R_moveBits_43 rfl ?_
    refine bj_aload_n (pc := 45) 1 d_R_moveBits_45 rfl rfl ?_
    obtain ⟨fs, v1, hx, hv, hw⟩ := hw
    refine bj_get (pc := 46) (ci := 7) (k := 1) (fs := fs) (v := .int v1) d_R_moveBits_46 rfl (by decide) q_749 hx hv ?_
    refine bj_icmp_ge (pc := 49) (tgt := 56) d_R_moveBits_49 (by decide) (fun hc => ?_) (fun hc => ?_)
    · replace hw := hw.1 hc
      refine bj_sub [1, 2, 3, 4, 0] (lo' := [(0, .ref x0), (1, .int x1), (2, .int x2), (3, .int x3), (4, .int s0)]) rfl ?_
      exact m_R_moveBits_56 hR hnx2 hw
    · replace hw := hw.2 hc
      refine bj_iconst (pc := 52) (v := 1) d_R_moveBits_52 (by decide) ?_
      refine bj_goto (pc := 53) (tgt := 57) d_R_moveBits_53 (by decide) ?_
      refine bj_sub [1, 2, 3, 4, 0] (lo' := [(0, .ref x0), (1, .int x1), (2, .int x2), (3, .int x3), (4, .int s0)]) rfl ?_
      exact m_R_moveBits_57 hR hnx2 hw
theorem m_R_moveBits_34 {l : Launch} {R : Room} {Φ : bs_R → bs_H → Prop} (hR : bs_rm 1 R) {nx2 : Nat → Int32 → Int32 → Int32 → bs_H → Prop} (hnx2 : ∀ (x0 : Nat) (x1 : Int32) (x2 : Int32) (x3 : Int32) (h : bs_H), nx2 x0 x1 x2 x3 h → bs_J l K_R_moveBits R Φ 2 [(0, .ref x0), (1, .int x1), (2, .int x2), (3, .int x3)] [] h) {x0 : Nat} {x1 : Int32} {x2 : Int32} {x3 : Int32} {x4 : Int32} {h : bs_H} (hw : w_R_moveBits_34 Φ nx2 x0 x1 x2 x3 x4 h) : bs_J l K_R_moveBits R Φ 34 [(0, .ref x0), (1, .int x1), (2, .int x2), (3, .int x3), (4, .int x4)] [] h := by
  unfold w_R_moveBits_34 at hw
  refine bj_iload (pc := 34) 4 d_R_moveBits_34 rfl ?_
  refine bj_sub [0, 1, 2, 3] (lo' := [(0, .ref x0), (1, .int x1), (2, .int x2), (3, .int x3)]) rfl ?_
  exact m_R_moveBits_36 hR hnx2 hw
theorem m_R_moveBits_2 {l : Launch} {R : Room} {Φ : bs_R → bs_H → Prop} (hR : bs_rm 1 R) : ∀ (n : Nat) (x0 : Nat) (x1 : Int32) (x2 : Int32) (x3 : Int32) (h : bs_H), w_R_moveBits_2 Φ n x0 x1 x2 x3 h → bs_J l K_R_moveBits R Φ 2 [(0, .ref x0), (1, .int x1), (2, .int x2), (3, .int x3)] [] h := by
  intro n
  induction n with
  | zero => intro x0 x1 x2 x3 h hw; exact hw.elim
  | succ n ih =>
    have hnx2 := ih
    intro x0 x1 x2 x3 h hw
    replace hw : w_R_moveBits_2_s Φ (w_R_moveBits_2 Φ n) x0 x1 x2 x3 h := hw
    unfold w_R_moveBits_2_s at hw
    refine bj_iload_n (pc := 2) 3 d_R_moveBits_2 rfl rfl ?_
    refine bj_aload_n (pc := 3) 0 d_R_moveBits_3 rfl rfl ?_
    obtain ⟨fs, v1, hx, hv, hw⟩ := hw
    refine bj_get (pc := 4) (ci := 7) (k := 1) (fs := fs) (v := .int v1) d_R_moveBits_4 rfl (by decide) q_749 hx hv ?_
    refine bj_icmp_ge (pc := 7) (tgt := 87) d_R_moveBits_7 (by decide) (fun hc => ?_) (fun hc => ?_)
    · replace hw := hw.1 hc
      exact bj_vret (pc := 87) d_R_moveBits_87 rfl hw
    · replace hw := hw.2 hc
      refine bj_iload_n (pc := 10) 3 d_R_moveBits_10 rfl rfl ?_
      refine bj_iload_n (pc := 11) 1 d_R_moveBits_11 rfl rfl ?_
      refine bj_isub (pc := 12) d_R_moveBits_12 ?_
      refine bj_istore (pc := 13) (lo' := [(4, .int (x3 - x1)), (0, .ref x0), (1, .int x1), (2, .int x2), (3, .int x3)]) d_R_moveBits_13 (by decide) rfl ?_
      refine bj_iload_n (pc := 15) 3 d_R_moveBits_15 rfl rfl ?_
      refine bj_if_eq (pc := 16) (tgt := 34) d_R_moveBits_16 (by decide) (fun hc => ?_) (fun hc => ?_)
      · replace hw := hw.1 hc
        refine bj_sub [1, 2, 3, 4, 0] (lo' := [(0, .ref x0), (1, .int x1), (2, .int x2), (3, .int x3), (4, .int (x3 - x1))]) rfl ?_
        exact m_R_moveBits_34 hR hnx2 hw
      · replace hw := hw.2 hc
        refine bj_iload (pc := 19) 0 d_R_moveBits_19 rfl ?_
        refine bj_if_ge (pc := 21) (tgt := 34) d_R_moveBits_21 (by decide) (fun hc => ?_) (fun hc => ?_)
        · replace hw := hw.1 hc
          refine bj_sub [1, 2, 3, 4, 0] (lo' := [(0, .ref x0), (1, .int x1), (2, .int x2), (3, .int x3), (4, .int (x3 - x1))]) rfl ?_
          exact m_R_moveBits_34 hR hnx2 hw
        · replace hw := hw.2 hc
          refine bj_iload (pc := 24) 0 d_R_moveBits_24 rfl ?_
          refine bj_aload_n (pc := 26) 1 d_R_moveBits_26 rfl rfl ?_
          obtain ⟨fs, v2, hx, hv, hw⟩ := hw
          refine bj_get (pc := 27) (ci := 7) (k := 1) (fs := fs) (v := .int v2) d_R_moveBits_27 rfl (by decide) q_749 hx hv ?_
          refine bj_iadd (pc := 30) d_R_moveBits_30 ?_
          refine bj_goto (pc := 31) (tgt := 36) d_R_moveBits_31 (by decide) ?_
          refine bj_sub [1, 2, 3, 4] (lo' := [(0, .ref x0), (1, .int x1), (2, .int x2), (3, .int x3)]) rfl ?_
          exact m_R_moveBits_36 hR hnx2 hw
theorem m_R_moveBits {l : Launch} {R : Room} (hR : bs_rm 1 R) {Φ : bs_R → bs_H → Prop} {x0 : Nat} {x1 : Int32} {x2 : Int32} {h : bs_H} (hw : w_R_moveBits Φ x0 x1 x2 h) : bs_J l K_R_moveBits R Φ 0 [(0, .ref x0), (1, .int x1), (2, .int x2)] [] h := by
  unfold w_R_moveBits at hw
  refine bj_iconst (pc := 0) (v := 0) d_R_moveBits_0 (by decide) ?_
  refine bj_istore_n (pc := 1) (lo' := [(3, .int 0), (0, .ref x0), (1, .int x1), (2, .int x2)]) d_R_moveBits_1 rfl (by decide) rfl ?_
  refine bj_sub [1, 2, 3, 0] (lo' := [(0, .ref x0), (1, .int x1), (2, .int x2), (3, .int 0)]) rfl ?_
  exact m_R_moveBits_2 hR 1000 _ _ _ _ _ hw
theorem d_R_swapBits_0 : decode prog_9_method_28_code 0 = .ok (.iconst 0, 1) := by decide +kernel
theorem d_R_swapBits_1 : decode prog_9_method_28_code 1 = .ok (.istore 4, 2) := by decide +kernel
theorem d_R_swapBits_3 : decode prog_9_method_28_code 3 = .ok (.iload 4, 2) := by decide +kernel
theorem d_R_swapBits_5 : decode prog_9_method_28_code 5 = .ok (.iload_n 1, 1) := by decide +kernel
theorem d_R_swapBits_6 : decode prog_9_method_28_code 6 = .ok (.iadd, 1) := by decide +kernel
theorem d_R_swapBits_7 : decode prog_9_method_28_code 7 = .ok (.aload_n 0, 1) := by decide +kernel
theorem d_R_swapBits_8 : decode prog_9_method_28_code 8 = .ok (.getfield 89, 3) := by decide +kernel
theorem d_R_swapBits_11 : decode prog_9_method_28_code 11 = .ok (.if_icmp .ge 55, 3) := by decide +kernel
theorem d_R_swapBits_14 : decode prog_9_method_28_code 14 = .ok (.aload_n 0, 1) := by decide +kernel
theorem d_R_swapBits_15 : decode prog_9_method_28_code 15 = .ok (.lload_n 2, 1) := by decide +kernel
theorem d_R_swapBits_16 : decode prog_9_method_28_code 16 = .ok (.iload 4, 2) := by decide +kernel
theorem d_R_swapBits_18 : decode prog_9_method_28_code 18 = .ok (.invokevirtual 135, 3) := by decide +kernel
theorem d_R_swapBits_21 : decode prog_9_method_28_code 21 = .ok (.ifCond .eq 39, 3) := by decide +kernel
theorem d_R_swapBits_24 : decode prog_9_method_28_code 24 = .ok (.aload_n 0, 1) := by decide +kernel
theorem d_R_swapBits_25 : decode prog_9_method_28_code 25 = .ok (.getfield 29, 3) := by decide +kernel
theorem d_R_swapBits_28 : decode prog_9_method_28_code 28 = .ok (.iload 4, 2) := by decide +kernel
theorem d_R_swapBits_30 : decode prog_9_method_28_code 30 = .ok (.laload, 1) := by decide +kernel
theorem d_R_swapBits_31 : decode prog_9_method_28_code 31 = .ok (.lstore 5, 2) := by decide +kernel
theorem d_R_swapBits_33 : decode prog_9_method_28_code 33 = .ok (.aload_n 0, 1) := by decide +kernel
theorem d_R_swapBits_34 : decode prog_9_method_28_code 34 = .ok (.getfield 29, 3) := by decide +kernel
theorem d_R_swapBits_37 : decode prog_9_method_28_code 37 = .ok (.iload 4, 2) := by decide +kernel
theorem d_R_swapBits_39 : decode prog_9_method_28_code 39 = .ok (.aload_n 0, 1) := by decide +kernel
theorem d_R_swapBits_40 : decode prog_9_method_28_code 40 = .ok (.getfield 29, 3) := by decide +kernel
theorem d_R_swapBits_43 : decode prog_9_method_28_code 43 = .ok (.iload 4, 2) := by decide +kernel
theorem d_R_swapBits_45 : decode prog_9_method_28_code 45 = .ok (.iload_n 1, 1) := by decide +kernel
theorem d_R_swapBits_46 : decode prog_9_method_28_code 46 = .ok (.iadd, 1) := by decide +kernel
theorem d_R_swapBits_47 : decode prog_9_method_28_code 47 = .ok (.laload, 1) := by decide +kernel
theorem d_R_swapBits_48 : decode prog_9_method_28_code 48 = .ok (.lastore, 1) := by decide +kernel
theorem d_R_swapBits_49 : decode prog_9_method_28_code 49 = .ok (.aload_n 0, 1) := by decide +kernel
theorem d_R_swapBits_50 : decode prog_9_method_28_code 50 = .ok (.getfield 29, 3) := by decide +kernel
theorem d_R_swapBits_53 : decode prog_9_method_28_code 53 = .ok (.iload 4, 2) := by decide +kernel
theorem d_R_swapBits_55 : decode prog_9_method_28_code 55 = .ok (.iload_n 1, 1) := by decide +kernel
theorem d_R_swapBits_56 : decode prog_9_method_28_code 56 = .ok (.iadd, 1) := by decide +kernel
theorem d_R_swapBits_57 : decode prog_9_method_28_code 57 = .ok (.lload 5, 2) := by decide +kernel
theorem d_R_swapBits_59 : decode prog_9_method_28_code 59 = .ok (.lastore, 1) := by decide +kernel
theorem d_R_swapBits_60 : decode prog_9_method_28_code 60 = .ok (.iinc 4 1, 3) := by decide +kernel
theorem d_R_swapBits_63 : decode prog_9_method_28_code 63 = .ok (.goto (-60), 3) := by decide +kernel
theorem d_R_swapBits_66 : decode prog_9_method_28_code 66 = .ok (.return_, 1) := by decide +kernel
def w_R_swapBits_60 (Φ : bs_R → bs_H → Prop) (nx3 : Nat → Int32 → Int64 → Int32 → bs_H → Prop) (x0 : Nat) (x1 : Int32) (x2 : Int64) (x4 : Int32) (h : bs_H) : Prop :=
  nx3 x0 x1 x2 (x4 + 1) h
def w_R_swapBits_3_s (Φ : bs_R → bs_H → Prop) (nx3 : Nat → Int32 → Int64 → Int32 → bs_H → Prop) (x0 : Nat) (x1 : Int32) (x2 : Int64) (x4 : Int32) (h : bs_H) : Prop :=
  bs_fI h x0 7 1 (fun v1 => bs_if (v1 ≤ (x4 + x1)) (Φ (.ok none) h) (bs_on h x0 7 (w_R_isIn (bs_kI Φ fun v2 h3 => (bs_if (v2 = 0) (w_R_swapBits_60 Φ nx3 x0 x1 x2 x4 h3) (bs_fA h3 x0 7 10 (fun v4 => bs_lL h3 v4 x4 (fun v5 => bs_fA h3 x0 7 10 (fun v6 => bs_fA h3 x0 7 10 (fun v7 => bs_lL h3 v7 (x4 + x1) (fun v8 => bs_sL h3 v6 x4 v8 (fun h9 => bs_fA h9 x0 7 10 (fun v10 => bs_sL h9 v10 (x4 + x1) v5 (fun h11 => w_R_swapBits_60 Φ nx3 x0 x1 x2 x4 h11))))))))))) x0 x2 x4 h)))
def w_R_swapBits_3 (Φ : bs_R → bs_H → Prop) : Nat → Nat → Int32 → Int64 → Int32 → bs_H → Prop
  | 0 => fun _ _ _ _ _ => False
  | n + 1 => fun x0 x1 x2 x4 h => w_R_swapBits_3_s Φ (w_R_swapBits_3 Φ n) x0 x1 x2 x4 h
def w_R_swapBits (Φ : bs_R → bs_H → Prop) (x0 : Nat) (x1 : Int32) (x2 : Int64) (h : bs_H) : Prop :=
  w_R_swapBits_3 Φ 1000 x0 x1 x2 0 h
theorem m_R_swapBits_60 {l : Launch} {R : Room} {Φ : bs_R → bs_H → Prop} (hR : bs_rm 2 R) {nx3 : Nat → Int32 → Int64 → Int32 → bs_H → Prop} (hnx3 : ∀ (x0 : Nat) (x1 : Int32) (x2 : Int64) (x4 : Int32) (h : bs_H), nx3 x0 x1 x2 x4 h → bs_J l K_R_swapBits R Φ 3 [(0, .ref x0), (1, .int x1), (2, .long x2), (4, .int x4)] [] h) {x0 : Nat} {x1 : Int32} {x2 : Int64} {x4 : Int32} {h : bs_H} (hw : w_R_swapBits_60 Φ nx3 x0 x1 x2 x4 h) : bs_J l K_R_swapBits R Φ 60 [(0, .ref x0), (1, .int x1), (2, .long x2), (4, .int x4)] [] h := by
  unfold w_R_swapBits_60 at hw
  refine bj_iinc (pc := 60) (v := (x4 + 1)) (lo' := [(4, .int (x4 + 1)), (0, .ref x0), (1, .int x1), (2, .long x2)]) 3 d_R_swapBits_60 rfl rfl (by decide) rfl ?_
  refine bj_goto (pc := 63) (tgt := 3) d_R_swapBits_63 (by decide) ?_
  refine bj_sub [1, 2, 3, 0] (lo' := [(0, .ref x0), (1, .int x1), (2, .long x2), (4, .int (x4 + 1))]) rfl ?_
  exact hnx3 _ _ _ _ _ hw
theorem m_R_swapBits_3 {l : Launch} {R : Room} {Φ : bs_R → bs_H → Prop} (hR : bs_rm 2 R) : ∀ (n : Nat) (x0 : Nat) (x1 : Int32) (x2 : Int64) (x4 : Int32) (h : bs_H), w_R_swapBits_3 Φ n x0 x1 x2 x4 h → bs_J l K_R_swapBits R Φ 3 [(0, .ref x0), (1, .int x1), (2, .long x2), (4, .int x4)] [] h := by
  intro n
  induction n with
  | zero => intro x0 x1 x2 x4 h hw; exact hw.elim
  | succ n ih =>
    have hnx3 := ih
    intro x0 x1 x2 x4 h hw
    replace hw : w_R_swapBits_3_s Φ (w_R_swapBits_3 Φ n) x0 x1 x2 x4 h := hw
    unfold w_R_swapBits_3_s at hw
    refine bj_iload (pc := 3) 3 d_R_swapBits_3 rfl ?_
    refine bj_iload_n (pc := 5) 1 d_R_swapBits_5 rfl rfl ?_
    refine bj_iadd (pc := 6) d_R_swapBits_6 ?_
    refine bj_aload_n (pc := 7) 0 d_R_swapBits_7 rfl rfl ?_
    obtain ⟨fs, v1, hx, hv, hw⟩ := hw
    refine bj_get (pc := 8) (ci := 7) (k := 1) (fs := fs) (v := .int v1) d_R_swapBits_8 rfl (by decide) q_749 hx hv ?_
    refine bj_icmp_ge (pc := 11) (tgt := 66) d_R_swapBits_11 (by decide) (fun hc => ?_) (fun hc => ?_)
    · replace hw := hw.1 hc
      exact bj_vret (pc := 66) d_R_swapBits_66 rfl hw
    · replace hw := hw.2 hc
      refine bj_aload_n (pc := 14) 0 d_R_swapBits_14 rfl rfl ?_
      refine bj_lload_n (pc := 15) 2 d_R_swapBits_15 rfl rfl ?_
      refine bj_iload (pc := 16) 3 d_R_swapBits_16 rfl ?_
      obtain ⟨⟨fs, hx⟩, hw⟩ := hw
      refine bj_callV (pc := 18) (np := 2) (K' := K_R_isIn) (argsL := [.long x2, .int x4]) (st := []) (d1 := 1) (ci := 7) (fs := fs) rfl d_R_swapBits_18 (Or.inl q_915) q_917 rfl q_36 c_R_isIn n_R_isIn hR (by decide) (by decide) rfl (Nat.le_of_ble_eq_true rfl) rfl (Nat.le_of_ble_eq_true rfl) hx (fun R' hR' => m_R_isIn hR' hw) (bs_kI_ok fun v2 h3 hw => ?_) (fun _ _ z => z)
      refine bj_if_eq (pc := 21) (tgt := 60) d_R_swapBits_21 (by decide) (fun hc => ?_) (fun hc => ?_)
      · replace hw := hw.1 hc
        exact m_R_swapBits_60 hR hnx3 hw
      · replace hw := hw.2 hc
        refine bj_aload_n (pc := 24) 0 d_R_swapBits_24 rfl rfl ?_
        obtain ⟨fs, v4, hx, hv, hw⟩ := hw
        refine bj_get (pc := 25) (ci := 7) (k := 10) (fs := fs) (v := .ref v4) d_R_swapBits_25 rfl (by decide) q_758 hx hv ?_
        refine bj_iload (pc := 28) 3 d_R_swapBits_28 rfl ?_
        obtain ⟨n, f, v5, hx, hin, hv, hw⟩ := hw
        refine bj_lald (pc := 30) (n := n) (f := f) d_R_swapBits_30 hx hin hv ?_
        refine bj_lstore (pc := 31) (lo' := [(5, .long v5), (0, .ref x0), (1, .int x1), (2, .long x2), (4, .int x4)]) d_R_swapBits_31 (by decide) rfl ?_
        refine bj_aload_n (pc := 33) 1 d_R_swapBits_33 rfl rfl ?_
        obtain ⟨fs, v6, hx, hv, hw⟩ := hw
        refine bj_get (pc := 34) (ci := 7) (k := 10) (fs := fs) (v := .ref v6) d_R_swapBits_34 rfl (by decide) q_758 hx hv ?_
        refine bj_iload (pc := 37) 4 d_R_swapBits_37 rfl ?_
        refine bj_aload_n (pc := 39) 1 d_R_swapBits_39 rfl rfl ?_
        obtain ⟨fs, v7, hx, hv, hw⟩ := hw
        refine bj_get (pc := 40) (ci := 7) (k := 10) (fs := fs) (v := .ref v7) d_R_swapBits_40 rfl (by decide) q_758 hx hv ?_
        refine bj_iload (pc := 43) 4 d_R_swapBits_43 rfl ?_
        refine bj_iload_n (pc := 45) 2 d_R_swapBits_45 rfl rfl ?_
        refine bj_iadd (pc := 46) d_R_swapBits_46 ?_
        obtain ⟨n, f, v8, hx, hin, hv, hw⟩ := hw
        refine bj_lald (pc := 47) (n := n) (f := f) d_R_swapBits_47 hx hin hv ?_
        obtain ⟨n, f, hx, hin, hw⟩ := hw
        refine bj_last (pc := 48) (n := n) (f := f) d_R_swapBits_48 hx hin ?_
        refine bj_aload_n (pc := 49) 1 d_R_swapBits_49 rfl rfl ?_
        obtain ⟨fs, v10, hx, hv, hw⟩ := hw
        refine bj_get (pc := 50) (ci := 7) (k := 10) (fs := fs) (v := .ref v10) d_R_swapBits_50 rfl (by decide) q_758 hx hv ?_
        refine bj_iload (pc := 53) 4 d_R_swapBits_53 rfl ?_
        refine bj_iload_n (pc := 55) 2 d_R_swapBits_55 rfl rfl ?_
        refine bj_iadd (pc := 56) d_R_swapBits_56 ?_
        refine bj_lload (pc := 57) 0 d_R_swapBits_57 rfl ?_
        obtain ⟨n, f, hx, hin, hw⟩ := hw
        refine bj_last (pc := 59) (n := n) (f := f) d_R_swapBits_59 hx hin ?_
        refine bj_sub [1, 2, 3, 4] (lo' := [(0, .ref x0), (1, .int x1), (2, .long x2), (4, .int x4)]) rfl ?_
        exact m_R_swapBits_60 hR hnx3 hw
theorem m_R_swapBits {l : Launch} {R : Room} (hR : bs_rm 2 R) {Φ : bs_R → bs_H → Prop} {x0 : Nat} {x1 : Int32} {x2 : Int64} {h : bs_H} (hw : w_R_swapBits Φ x0 x1 x2 h) : bs_J l K_R_swapBits R Φ 0 [(0, .ref x0), (1, .int x1), (2, .long x2)] [] h := by
  unfold w_R_swapBits at hw
  refine bj_iconst (pc := 0) (v := 0) d_R_swapBits_0 (by decide) ?_
  refine bj_istore (pc := 1) (lo' := [(4, .int 0), (0, .ref x0), (1, .int x1), (2, .long x2)]) d_R_swapBits_1 (by decide) rfl ?_
  refine bj_sub [1, 2, 3, 0] (lo' := [(0, .ref x0), (1, .int x1), (2, .long x2), (4, .int 0)]) rfl ?_
  exact m_R_swapBits_3 hR 1000 _ _ _ _ _ hw
theorem d_R_gatherBits_0 : decode prog_9_method_26_code 0 = .ok (.iconst 0, 1) := by decide +kernel
theorem d_R_gatherBits_1 : decode prog_9_method_26_code 1 = .ok (.istore_n 3, 1) := by decide +kernel
theorem d_R_gatherBits_2 : decode prog_9_method_26_code 2 = .ok (.iconst 0, 1) := by decide +kernel
theorem d_R_gatherBits_3 : decode prog_9_method_26_code 3 = .ok (.istore 4, 2) := by decide +kernel
theorem d_R_gatherBits_5 : decode prog_9_method_26_code 5 = .ok (.iload 4, 2) := by decide +kernel
theorem d_R_gatherBits_7 : decode prog_9_method_26_code 7 = .ok (.aload_n 0, 1) := by decide +kernel
theorem d_R_gatherBits_8 : decode prog_9_method_26_code 8 = .ok (.getfield 89, 3) := by decide +kernel
theorem d_R_gatherBits_11 : decode prog_9_method_26_code 11 = .ok (.if_icmp .ge 35, 3) := by decide +kernel
theorem d_R_gatherBits_14 : decode prog_9_method_26_code 14 = .ok (.aload_n 0, 1) := by decide +kernel
theorem d_R_gatherBits_15 : decode prog_9_method_26_code 15 = .ok (.lload_n 1, 1) := by decide +kernel
theorem d_R_gatherBits_16 : decode prog_9_method_26_code 16 = .ok (.iload 4, 2) := by decide +kernel
theorem d_R_gatherBits_18 : decode prog_9_method_26_code 18 = .ok (.invokevirtual 135, 3) := by decide +kernel
theorem d_R_gatherBits_21 : decode prog_9_method_26_code 21 = .ok (.ifCond .eq 19, 3) := by decide +kernel
theorem d_R_gatherBits_24 : decode prog_9_method_26_code 24 = .ok (.aload_n 0, 1) := by decide +kernel
theorem d_R_gatherBits_25 : decode prog_9_method_26_code 25 = .ok (.getfield 32, 3) := by decide +kernel
theorem d_R_gatherBits_28 : decode prog_9_method_26_code 28 = .ok (.iload_n 3, 1) := by decide +kernel
theorem d_R_gatherBits_29 : decode prog_9_method_26_code 29 = .ok (.aload_n 0, 1) := by decide +kernel
theorem d_R_gatherBits_30 : decode prog_9_method_26_code 30 = .ok (.getfield 29, 3) := by decide +kernel
theorem d_R_gatherBits_33 : decode prog_9_method_26_code 33 = .ok (.iload 4, 2) := by decide +kernel
theorem d_R_gatherBits_35 : decode prog_9_method_26_code 35 = .ok (.laload, 1) := by decide +kernel
theorem d_R_gatherBits_36 : decode prog_9_method_26_code 36 = .ok (.lastore, 1) := by decide +kernel
theorem d_R_gatherBits_37 : decode prog_9_method_26_code 37 = .ok (.iinc 3 1, 3) := by decide +kernel
theorem d_R_gatherBits_40 : decode prog_9_method_26_code 40 = .ok (.iinc 4 1, 3) := by decide +kernel
theorem d_R_gatherBits_43 : decode prog_9_method_26_code 43 = .ok (.goto (-38), 3) := by decide +kernel
theorem d_R_gatherBits_46 : decode prog_9_method_26_code 46 = .ok (.iload_n 3, 1) := by decide +kernel
theorem d_R_gatherBits_47 : decode prog_9_method_26_code 47 = .ok (.istore 4, 2) := by decide +kernel
theorem d_R_gatherBits_49 : decode prog_9_method_26_code 49 = .ok (.iload 4, 2) := by decide +kernel
theorem d_R_gatherBits_51 : decode prog_9_method_26_code 51 = .ok (.aload_n 0, 1) := by decide +kernel
theorem d_R_gatherBits_52 : decode prog_9_method_26_code 52 = .ok (.getfield 89, 3) := by decide +kernel
theorem d_R_gatherBits_55 : decode prog_9_method_26_code 55 = .ok (.if_icmp .ge 17, 3) := by decide +kernel
theorem d_R_gatherBits_58 : decode prog_9_method_26_code 58 = .ok (.aload_n 0, 1) := by decide +kernel
theorem d_R_gatherBits_59 : decode prog_9_method_26_code 59 = .ok (.getfield 32, 3) := by decide +kernel
theorem d_R_gatherBits_62 : decode prog_9_method_26_code 62 = .ok (.iload 4, 2) := by decide +kernel
theorem d_R_gatherBits_64 : decode prog_9_method_26_code 64 = .ok (.lconst 0, 1) := by decide +kernel
theorem d_R_gatherBits_65 : decode prog_9_method_26_code 65 = .ok (.lastore, 1) := by decide +kernel
theorem d_R_gatherBits_66 : decode prog_9_method_26_code 66 = .ok (.iinc 4 1, 3) := by decide +kernel
theorem d_R_gatherBits_69 : decode prog_9_method_26_code 69 = .ok (.goto (-20), 3) := by decide +kernel
theorem d_R_gatherBits_72 : decode prog_9_method_26_code 72 = .ok (.return_, 1) := by decide +kernel
def w_R_gatherBits_49_s (Φ : bs_R → bs_H → Prop) (nx49 : Nat → Int32 → bs_H → Prop) (x0 : Nat) (x4 : Int32) (h : bs_H) : Prop :=
  bs_fI h x0 7 1 (fun v1 => bs_if (v1 ≤ x4) (Φ (.ok none) h) (bs_fA h x0 7 11 (fun v2 => bs_sL h v2 x4 0 (fun h3 => nx49 x0 (x4 + 1) h3))))
def w_R_gatherBits_49 (Φ : bs_R → bs_H → Prop) : Nat → Nat → Int32 → bs_H → Prop
  | 0 => fun _ _ _ => False
  | n + 1 => fun x0 x4 h => w_R_gatherBits_49_s Φ (w_R_gatherBits_49 Φ n) x0 x4 h
def w_R_gatherBits_40 (Φ : bs_R → bs_H → Prop) (nx5 : Nat → Int64 → Int32 → Int32 → bs_H → Prop) (x0 : Nat) (x1 : Int64) (x3 : Int32) (x4 : Int32) (h : bs_H) : Prop :=
  nx5 x0 x1 x3 (x4 + 1) h
def w_R_gatherBits_5_s (Φ : bs_R → bs_H → Prop) (nx5 : Nat → Int64 → Int32 → Int32 → bs_H → Prop) (x0 : Nat) (x1 : Int64) (x3 : Int32) (x4 : Int32) (h : bs_H) : Prop :=
  bs_fI h x0 7 1 (fun v1 => bs_if (v1 ≤ x4) (w_R_gatherBits_49 Φ 1000 x0 x3 h) (bs_on h x0 7 (w_R_isIn (bs_kI Φ fun v2 h3 => (bs_if (v2 = 0) (w_R_gatherBits_40 Φ nx5 x0 x1 x3 x4 h3) (bs_fA h3 x0 7 11 (fun v4 => bs_fA h3 x0 7 10 (fun v5 => bs_lL h3 v5 x4 (fun v6 => bs_sL h3 v4 x3 v6 (fun h7 => w_R_gatherBits_40 Φ nx5 x0 x1 (x3 + 1) x4 h7))))))) x0 x1 x4 h)))
def w_R_gatherBits_5 (Φ : bs_R → bs_H → Prop) : Nat → Nat → Int64 → Int32 → Int32 → bs_H → Prop
  | 0 => fun _ _ _ _ _ => False
  | n + 1 => fun x0 x1 x3 x4 h => w_R_gatherBits_5_s Φ (w_R_gatherBits_5 Φ n) x0 x1 x3 x4 h
def w_R_gatherBits (Φ : bs_R → bs_H → Prop) (x0 : Nat) (x1 : Int64) (h : bs_H) : Prop :=
  w_R_gatherBits_5 Φ 1000 x0 x1 0 0 h
theorem m_R_gatherBits_49 {l : Launch} {R : Room} {Φ : bs_R → bs_H → Prop} (hR : bs_rm 2 R) : ∀ (n : Nat) (x0 : Nat) (x4 : Int32) (h : bs_H), w_R_gatherBits_49 Φ n x0 x4 h → bs_J l K_R_gatherBits R Φ 49 [(0, .ref x0), (4, .int x4)] [] h := by
  intro n
  induction n with
  | zero => intro x0 x4 h hw; exact hw.elim
  | succ n ih =>
    have hnx49 := ih
    intro x0 x4 h hw
    replace hw : w_R_gatherBits_49_s Φ (w_R_gatherBits_49 Φ n) x0 x4 h := hw
    unfold w_R_gatherBits_49_s at hw
    refine bj_iload (pc := 49) 1 d_R_gatherBits_49 rfl ?_
    refine bj_aload_n (pc := 51) 0 d_R_gatherBits_51 rfl rfl ?_
    obtain ⟨fs, v1, hx, hv, hw⟩ := hw
    refine bj_get (pc := 52) (ci := 7) (k := 1) (fs := fs) (v := .int v1) d_R_gatherBits_52 rfl (by decide) q_749 hx hv ?_
    refine bj_icmp_ge (pc := 55) (tgt := 72) d_R_gatherBits_55 (by decide) (fun hc => ?_) (fun hc => ?_)
    · replace hw := hw.1 hc
      exact bj_vret (pc := 72) d_R_gatherBits_72 rfl hw
    · replace hw := hw.2 hc
      refine bj_aload_n (pc := 58) 0 d_R_gatherBits_58 rfl rfl ?_
      obtain ⟨fs, v2, hx, hv, hw⟩ := hw
      refine bj_get (pc := 59) (ci := 7) (k := 11) (fs := fs) (v := .ref v2) d_R_gatherBits_59 rfl (by decide) q_759 hx hv ?_
      refine bj_iload (pc := 62) 1 d_R_gatherBits_62 rfl ?_
      refine bj_lconst (pc := 64) (v := 0) d_R_gatherBits_64 (by decide) ?_
      obtain ⟨n, f, hx, hin, hw⟩ := hw
      refine bj_last (pc := 65) (n := n) (f := f) d_R_gatherBits_65 hx hin ?_
      refine bj_iinc (pc := 66) (v := (x4 + 1)) (lo' := [(4, .int (x4 + 1)), (0, .ref x0)]) 1 d_R_gatherBits_66 rfl rfl (by decide) rfl ?_
      refine bj_goto (pc := 69) (tgt := 49) d_R_gatherBits_69 (by decide) ?_
      refine bj_sub [1, 0] (lo' := [(0, .ref x0), (4, .int (x4 + 1))]) rfl ?_
      exact hnx49 _ _ _ hw
theorem m_R_gatherBits_40 {l : Launch} {R : Room} {Φ : bs_R → bs_H → Prop} (hR : bs_rm 2 R) {nx5 : Nat → Int64 → Int32 → Int32 → bs_H → Prop} (hnx5 : ∀ (x0 : Nat) (x1 : Int64) (x3 : Int32) (x4 : Int32) (h : bs_H), nx5 x0 x1 x3 x4 h → bs_J l K_R_gatherBits R Φ 5 [(0, .ref x0), (1, .long x1), (3, .int x3), (4, .int x4)] [] h) {x0 : Nat} {x1 : Int64} {x3 : Int32} {x4 : Int32} {h : bs_H} (hw : w_R_gatherBits_40 Φ nx5 x0 x1 x3 x4 h) : bs_J l K_R_gatherBits R Φ 40 [(0, .ref x0), (1, .long x1), (3, .int x3), (4, .int x4)] [] h := by
  unfold w_R_gatherBits_40 at hw
  refine bj_iinc (pc := 40) (v := (x4 + 1)) (lo' := [(4, .int (x4 + 1)), (0, .ref x0), (1, .long x1), (3, .int x3)]) 3 d_R_gatherBits_40 rfl rfl (by decide) rfl ?_
  refine bj_goto (pc := 43) (tgt := 5) d_R_gatherBits_43 (by decide) ?_
  refine bj_sub [1, 2, 3, 0] (lo' := [(0, .ref x0), (1, .long x1), (3, .int x3), (4, .int (x4 + 1))]) rfl ?_
  exact hnx5 _ _ _ _ _ hw
theorem m_R_gatherBits_5 {l : Launch} {R : Room} {Φ : bs_R → bs_H → Prop} (hR : bs_rm 2 R) : ∀ (n : Nat) (x0 : Nat) (x1 : Int64) (x3 : Int32) (x4 : Int32) (h : bs_H), w_R_gatherBits_5 Φ n x0 x1 x3 x4 h → bs_J l K_R_gatherBits R Φ 5 [(0, .ref x0), (1, .long x1), (3, .int x3), (4, .int x4)] [] h := by
  intro n
  induction n with
  | zero => intro x0 x1 x3 x4 h hw; exact hw.elim
  | succ n ih =>
    have hnx5 := ih
    intro x0 x1 x3 x4 h hw
    replace hw : w_R_gatherBits_5_s Φ (w_R_gatherBits_5 Φ n) x0 x1 x3 x4 h := hw
    unfold w_R_gatherBits_5_s at hw
    refine bj_iload (pc := 5) 3 d_R_gatherBits_5 rfl ?_
    refine bj_aload_n (pc := 7) 0 d_R_gatherBits_7 rfl rfl ?_
    obtain ⟨fs, v1, hx, hv, hw⟩ := hw
    refine bj_get (pc := 8) (ci := 7) (k := 1) (fs := fs) (v := .int v1) d_R_gatherBits_8 rfl (by decide) q_749 hx hv ?_
    refine bj_icmp_ge (pc := 11) (tgt := 46) d_R_gatherBits_11 (by decide) (fun hc => ?_) (fun hc => ?_)
    · replace hw := hw.1 hc
      refine bj_iload_n (pc := 46) 2 d_R_gatherBits_46 rfl rfl ?_
      refine bj_istore (pc := 47) (lo' := [(4, .int x3), (0, .ref x0), (1, .long x1), (3, .int x3)]) d_R_gatherBits_47 (by decide) rfl ?_
      refine bj_sub [1, 0] (lo' := [(0, .ref x0), (4, .int x3)]) rfl ?_
      exact m_R_gatherBits_49 hR 1000 _ _ _ hw
    · replace hw := hw.2 hc
      refine bj_aload_n (pc := 14) 0 d_R_gatherBits_14 rfl rfl ?_
      refine bj_lload_n (pc := 15) 1 d_R_gatherBits_15 rfl rfl ?_
      refine bj_iload (pc := 16) 3 d_R_gatherBits_16 rfl ?_
      obtain ⟨⟨fs, hx⟩, hw⟩ := hw
      refine bj_callV (pc := 18) (np := 2) (K' := K_R_isIn) (argsL := [.long x1, .int x4]) (st := []) (d1 := 1) (ci := 7) (fs := fs) rfl d_R_gatherBits_18 (Or.inl q_915) q_917 rfl q_36 c_R_isIn n_R_isIn hR (by decide) (by decide) rfl (Nat.le_of_ble_eq_true rfl) rfl (Nat.le_of_ble_eq_true rfl) hx (fun R' hR' => m_R_isIn hR' hw) (bs_kI_ok fun v2 h3 hw => ?_) (fun _ _ z => z)
      refine bj_if_eq (pc := 21) (tgt := 40) d_R_gatherBits_21 (by decide) (fun hc => ?_) (fun hc => ?_)
      · replace hw := hw.1 hc
        exact m_R_gatherBits_40 hR hnx5 hw
      · replace hw := hw.2 hc
        refine bj_aload_n (pc := 24) 0 d_R_gatherBits_24 rfl rfl ?_
        obtain ⟨fs, v4, hx, hv, hw⟩ := hw
        refine bj_get (pc := 25) (ci := 7) (k := 11) (fs := fs) (v := .ref v4) d_R_gatherBits_25 rfl (by decide) q_759 hx hv ?_
        refine bj_iload_n (pc := 28) 2 d_R_gatherBits_28 rfl rfl ?_
        refine bj_aload_n (pc := 29) 0 d_R_gatherBits_29 rfl rfl ?_
        obtain ⟨fs, v5, hx, hv, hw⟩ := hw
        refine bj_get (pc := 30) (ci := 7) (k := 10) (fs := fs) (v := .ref v5) d_R_gatherBits_30 rfl (by decide) q_758 hx hv ?_
        refine bj_iload (pc := 33) 3 d_R_gatherBits_33 rfl ?_
        obtain ⟨n, f, v6, hx, hin, hv, hw⟩ := hw
        refine bj_lald (pc := 35) (n := n) (f := f) d_R_gatherBits_35 hx hin hv ?_
        obtain ⟨n, f, hx, hin, hw⟩ := hw
        refine bj_last (pc := 36) (n := n) (f := f) d_R_gatherBits_36 hx hin ?_
        refine bj_iinc (pc := 37) (v := (x3 + 1)) (lo' := [(3, .int (x3 + 1)), (0, .ref x0), (1, .long x1), (4, .int x4)]) 2 d_R_gatherBits_37 rfl rfl (by decide) rfl ?_
        refine bj_sub [1, 2, 0, 3] (lo' := [(0, .ref x0), (1, .long x1), (3, .int (x3 + 1)), (4, .int x4)]) rfl ?_
        exact m_R_gatherBits_40 hR hnx5 hw
theorem m_R_gatherBits {l : Launch} {R : Room} (hR : bs_rm 2 R) {Φ : bs_R → bs_H → Prop} {x0 : Nat} {x1 : Int64} {h : bs_H} (hw : w_R_gatherBits Φ x0 x1 h) : bs_J l K_R_gatherBits R Φ 0 [(0, .ref x0), (1, .long x1)] [] h := by
  unfold w_R_gatherBits at hw
  refine bj_iconst (pc := 0) (v := 0) d_R_gatherBits_0 (by decide) ?_
  refine bj_istore_n (pc := 1) (lo' := [(3, .int 0), (0, .ref x0), (1, .long x1)]) d_R_gatherBits_1 rfl (by decide) rfl ?_
  refine bj_iconst (pc := 2) (v := 0) d_R_gatherBits_2 (by decide) ?_
  refine bj_istore (pc := 3) (lo' := [(4, .int 0), (3, .int 0), (0, .ref x0), (1, .long x1)]) d_R_gatherBits_3 (by decide) rfl ?_
  refine bj_sub [2, 3, 1, 0] (lo' := [(0, .ref x0), (1, .long x1), (3, .int 0), (4, .int 0)]) rfl ?_
  exact m_R_gatherBits_5 hR 1000 _ _ _ _ _ hw
theorem d_R_scatterBits_0 : decode prog_9_method_27_code 0 = .ok (.iconst 0, 1) := by decide +kernel
theorem d_R_scatterBits_1 : decode prog_9_method_27_code 1 = .ok (.istore_n 3, 1) := by decide +kernel
theorem d_R_scatterBits_2 : decode prog_9_method_27_code 2 = .ok (.iload_n 3, 1) := by decide +kernel
theorem d_R_scatterBits_3 : decode prog_9_method_27_code 3 = .ok (.aload_n 0, 1) := by decide +kernel
theorem d_R_scatterBits_4 : decode prog_9_method_27_code 4 = .ok (.getfield 89, 3) := by decide +kernel
theorem d_R_scatterBits_7 : decode prog_9_method_27_code 7 = .ok (.if_icmp .ge 21, 3) := by decide +kernel
theorem d_R_scatterBits_10 : decode prog_9_method_27_code 10 = .ok (.aload_n 0, 1) := by decide +kernel
theorem d_R_scatterBits_11 : decode prog_9_method_27_code 11 = .ok (.getfield 42, 3) := by decide +kernel
theorem d_R_scatterBits_14 : decode prog_9_method_27_code 14 = .ok (.iload_n 3, 1) := by decide +kernel
theorem d_R_scatterBits_15 : decode prog_9_method_27_code 15 = .ok (.aload_n 0, 1) := by decide +kernel
theorem d_R_scatterBits_16 : decode prog_9_method_27_code 16 = .ok (.getfield 32, 3) := by decide +kernel
theorem d_R_scatterBits_19 : decode prog_9_method_27_code 19 = .ok (.iload_n 3, 1) := by decide +kernel
theorem d_R_scatterBits_20 : decode prog_9_method_27_code 20 = .ok (.laload, 1) := by decide +kernel
theorem d_R_scatterBits_21 : decode prog_9_method_27_code 21 = .ok (.lastore, 1) := by decide +kernel
theorem d_R_scatterBits_22 : decode prog_9_method_27_code 22 = .ok (.iinc 3 1, 3) := by decide +kernel
theorem d_R_scatterBits_25 : decode prog_9_method_27_code 25 = .ok (.goto (-23), 3) := by decide +kernel
theorem d_R_scatterBits_28 : decode prog_9_method_27_code 28 = .ok (.iconst 0, 1) := by decide +kernel
theorem d_R_scatterBits_29 : decode prog_9_method_27_code 29 = .ok (.istore_n 3, 1) := by decide +kernel
theorem d_R_scatterBits_30 : decode prog_9_method_27_code 30 = .ok (.iconst 0, 1) := by decide +kernel
theorem d_R_scatterBits_31 : decode prog_9_method_27_code 31 = .ok (.istore 4, 2) := by decide +kernel
theorem d_R_scatterBits_33 : decode prog_9_method_27_code 33 = .ok (.iload 4, 2) := by decide +kernel
theorem d_R_scatterBits_35 : decode prog_9_method_27_code 35 = .ok (.aload_n 0, 1) := by decide +kernel
theorem d_R_scatterBits_36 : decode prog_9_method_27_code 36 = .ok (.getfield 89, 3) := by decide +kernel
theorem d_R_scatterBits_39 : decode prog_9_method_27_code 39 = .ok (.if_icmp .ge 54, 3) := by decide +kernel
theorem d_R_scatterBits_42 : decode prog_9_method_27_code 42 = .ok (.aload_n 0, 1) := by decide +kernel
theorem d_R_scatterBits_43 : decode prog_9_method_27_code 43 = .ok (.getfield 32, 3) := by decide +kernel
theorem d_R_scatterBits_46 : decode prog_9_method_27_code 46 = .ok (.iload 4, 2) := by decide +kernel
theorem d_R_scatterBits_48 : decode prog_9_method_27_code 48 = .ok (.aload_n 0, 1) := by decide +kernel
theorem d_R_scatterBits_49 : decode prog_9_method_27_code 49 = .ok (.lload_n 1, 1) := by decide +kernel
theorem d_R_scatterBits_50 : decode prog_9_method_27_code 50 = .ok (.iload 4, 2) := by decide +kernel
theorem d_R_scatterBits_52 : decode prog_9_method_27_code 52 = .ok (.invokevirtual 135, 3) := by decide +kernel
theorem d_R_scatterBits_55 : decode prog_9_method_27_code 55 = .ok (.ifCond .eq 12, 3) := by decide +kernel
theorem d_R_scatterBits_58 : decode prog_9_method_27_code 58 = .ok (.aload_n 0, 1) := by decide +kernel
theorem d_R_scatterBits_59 : decode prog_9_method_27_code 59 = .ok (.getfield 42, 3) := by decide +kernel
theorem d_R_scatterBits_62 : decode prog_9_method_27_code 62 = .ok (.iload_n 3, 1) := by decide +kernel
theorem d_R_scatterBits_63 : decode prog_9_method_27_code 63 = .ok (.laload, 1) := by decide +kernel
theorem d_R_scatterBits_64 : decode prog_9_method_27_code 64 = .ok (.goto 4, 3) := by decide +kernel
theorem d_R_scatterBits_67 : decode prog_9_method_27_code 67 = .ok (.lconst 0, 1) := by decide +kernel
theorem d_R_scatterBits_68 : decode prog_9_method_27_code 68 = .ok (.lastore, 1) := by decide +kernel
theorem d_R_scatterBits_69 : decode prog_9_method_27_code 69 = .ok (.iload_n 3, 1) := by decide +kernel
theorem d_R_scatterBits_70 : decode prog_9_method_27_code 70 = .ok (.aload_n 0, 1) := by decide +kernel
theorem d_R_scatterBits_71 : decode prog_9_method_27_code 71 = .ok (.lload_n 1, 1) := by decide +kernel
theorem d_R_scatterBits_72 : decode prog_9_method_27_code 72 = .ok (.iload 4, 2) := by decide +kernel
theorem d_R_scatterBits_74 : decode prog_9_method_27_code 74 = .ok (.invokevirtual 135, 3) := by decide +kernel
theorem d_R_scatterBits_77 : decode prog_9_method_27_code 77 = .ok (.ifCond .eq 7, 3) := by decide +kernel
theorem d_R_scatterBits_80 : decode prog_9_method_27_code 80 = .ok (.iconst 1, 1) := by decide +kernel
theorem d_R_scatterBits_81 : decode prog_9_method_27_code 81 = .ok (.goto 4, 3) := by decide +kernel
theorem d_R_scatterBits_84 : decode prog_9_method_27_code 84 = .ok (.iconst 0, 1) := by decide +kernel
theorem d_R_scatterBits_85 : decode prog_9_method_27_code 85 = .ok (.iadd, 1) := by decide +kernel
theorem d_R_scatterBits_86 : decode prog_9_method_27_code 86 = .ok (.istore_n 3, 1) := by decide +kernel
theorem d_R_scatterBits_87 : decode prog_9_method_27_code 87 = .ok (.iinc 4 1, 3) := by decide +kernel
theorem d_R_scatterBits_90 : decode prog_9_method_27_code 90 = .ok (.goto (-57), 3) := by decide +kernel
theorem d_R_scatterBits_93 : decode prog_9_method_27_code 93 = .ok (.return_, 1) := by decide +kernel
def w_R_scatterBits_85 (Φ : bs_R → bs_H → Prop) (nx33 : Nat → Int64 → Int32 → Int32 → bs_H → Prop) (x0 : Nat) (x1 : Int64) (x4 : Int32) (s0 : Int32) (s1 : Int32) (h : bs_H) : Prop :=
  nx33 x0 x1 (s0 + s1) (x4 + 1) h
def w_R_scatterBits_68 (Φ : bs_R → bs_H → Prop) (nx33 : Nat → Int64 → Int32 → Int32 → bs_H → Prop) (x0 : Nat) (x1 : Int64) (x3 : Int32) (x4 : Int32) (s0 : Nat) (s1 : Int32) (s2 : Int64) (h : bs_H) : Prop :=
  bs_sL h s0 s1 s2 (fun h1 => bs_on h1 x0 7 (w_R_isIn (bs_kI Φ fun v2 h3 => (bs_if (v2 = 0) (w_R_scatterBits_85 Φ nx33 x0 x1 x4 x3 0 h3) (w_R_scatterBits_85 Φ nx33 x0 x1 x4 x3 1 h3))) x0 x1 x4 h1))
def w_R_scatterBits_33_s (Φ : bs_R → bs_H → Prop) (nx33 : Nat → Int64 → Int32 → Int32 → bs_H → Prop) (x0 : Nat) (x1 : Int64) (x3 : Int32) (x4 : Int32) (h : bs_H) : Prop :=
  bs_fI h x0 7 1 (fun v1 => bs_if (v1 ≤ x4) (Φ (.ok none) h) (bs_fA h x0 7 11 (fun v2 => bs_on h x0 7 (w_R_isIn (bs_kI Φ fun v3 h4 => (bs_if (v3 = 0) (w_R_scatterBits_68 Φ nx33 x0 x1 x3 x4 v2 x4 0 h4) (bs_fA h4 x0 7 14 (fun v5 => bs_lL h4 v5 x3 (fun v6 => w_R_scatterBits_68 Φ nx33 x0 x1 x3 x4 v2 x4 v6 h4))))) x0 x1 x4 h))))
def w_R_scatterBits_33 (Φ : bs_R → bs_H → Prop) : Nat → Nat → Int64 → Int32 → Int32 → bs_H → Prop
  | 0 => fun _ _ _ _ _ => False
  | n + 1 => fun x0 x1 x3 x4 h => w_R_scatterBits_33_s Φ (w_R_scatterBits_33 Φ n) x0 x1 x3 x4 h
def w_R_scatterBits_2_s (Φ : bs_R → bs_H → Prop) (nx2 : Nat → Int64 → Int32 → bs_H → Prop) (x0 : Nat) (x1 : Int64) (x3 : Int32) (h : bs_H) : Prop :=
  bs_fI h x0 7 1 (fun v1 => bs_if (v1 ≤ x3) (w_R_scatterBits_33 Φ 1000 x0 x1 0 0 h) (bs_fA h x0 7 14 (fun v2 => bs_fA h x0 7 11 (fun v3 => bs_lL h v3 x3 (fun v4 => bs_sL h v2 x3 v4 (fun h5 => nx2 x0 x1 (x3 + 1) h5))))))
def w_R_scatterBits_2 (Φ : bs_R → bs_H → Prop) : Nat → Nat → Int64 → Int32 → bs_H → Prop
  | 0 => fun _ _ _ _ => False
  | n + 1 => fun x0 x1 x3 h => w_R_scatterBits_2_s Φ (w_R_scatterBits_2 Φ n) x0 x1 x3 h
def w_R_scatterBits (Φ : bs_R → bs_H → Prop) (x0 : Nat) (x1 : Int64) (h : bs_H) : Prop :=
  w_R_scatterBits_2 Φ 1000 x0 x1 0 h
theorem m_R_scatterBits_85 {l : Launch} {R : Room} {Φ : bs_R → bs_H → Prop} (hR : bs_rm 2 R) {nx33 : Nat → Int64 → Int32 → Int32 → bs_H → Prop} (hnx33 : ∀ (x0 : Nat) (x1 : Int64) (x3 : Int32) (x4 : Int32) (h : bs_H), nx33 x0 x1 x3 x4 h → bs_J l K_R_scatterBits R Φ 33 [(0, .ref x0), (1, .long x1), (3, .int x3), (4, .int x4)] [] h) {x0 : Nat} {x1 : Int64} {x4 : Int32} {s0 : Int32} {s1 : Int32} {h : bs_H} (hw : w_R_scatterBits_85 Φ nx33 x0 x1 x4 s0 s1 h) : bs_J l K_R_scatterBits R Φ 85 [(0, .ref x0), (1, .long x1), (4, .int x4)] [.int s1, .int s0] h := by
  unfold w_R_scatterBits_85 at hw
  refine bj_iadd (pc := 85) d_R_scatterBits_85 ?_
  refine bj_istore_n (pc := 86) (lo' := [(3, .int (s0 + s1)), (0, .ref x0), (1, .long x1), (4, .int x4)]) d_R_scatterBits_86 rfl (by decide) rfl ?_
  refine bj_iinc (pc := 87) (v := (x4 + 1)) (lo' := [(4, .int (x4 + 1)), (3, .int (s0 + s1)), (0, .ref x0), (1, .long x1)]) 3 d_R_scatterBits_87 rfl rfl (by decide) rfl ?_
  refine bj_goto (pc := 90) (tgt := 33) d_R_scatterBits_90 (by decide) ?_
  refine bj_sub [2, 3, 1, 0] (lo' := [(0, .ref x0), (1, .long x1), (3, .int (s0 + s1)), (4, .int (x4 + 1))]) rfl ?_
  exact hnx33 _ _ _ _ _ hw
theorem m_R_scatterBits_68 {l : Launch} {R : Room} {Φ : bs_R → bs_H → Prop} (hR : bs_rm 2 R) {nx33 : Nat → Int64 → Int32 → Int32 → bs_H → Prop} (hnx33 : ∀ (x0 : Nat) (x1 : Int64) (x3 : Int32) (x4 : Int32) (h : bs_H), nx33 x0 x1 x3 x4 h → bs_J l K_R_scatterBits R Φ 33 [(0, .ref x0), (1, .long x1), (3, .int x3), (4, .int x4)] [] h) {x0 : Nat} {x1 : Int64} {x3 : Int32} {x4 : Int32} {s0 : Nat} {s1 : Int32} {s2 : Int64} {h : bs_H} (hw : w_R_scatterBits_68 Φ nx33 x0 x1 x3 x4 s0 s1 s2 h) : bs_J l K_R_scatterBits R Φ 68 [(0, .ref x0), (1, .long x1), (3, .int x3), (4, .int x4)] [.long s2, .int s1, .ref s0] h := by
  unfold w_R_scatterBits_68 at hw
  obtain ⟨n, f, hx, hin, hw⟩ := hw
  refine bj_last (pc := 68) (n := n) (f := f) d_R_scatterBits_68 hx hin ?_
  refine bj_iload_n (pc := 69) 2 d_R_scatterBits_69 rfl rfl ?_
  refine bj_aload_n (pc := 70) 0 d_R_scatterBits_70 rfl rfl ?_
  refine bj_lload_n (pc := 71) 1 d_R_scatterBits_71 rfl rfl ?_
  refine bj_iload (pc := 72) 3 d_R_scatterBits_72 rfl ?_
  obtain ⟨⟨fs, hx⟩, hw⟩ := hw
  refine bj_callV (pc := 74) (np := 2) (K' := K_R_isIn) (argsL := [.long x1, .int x4]) (st := [.int x3]) (d1 := 1) (ci := 7) (fs := fs) rfl d_R_scatterBits_74 (Or.inl q_915) q_917 rfl q_36 c_R_isIn n_R_isIn hR (by decide) (by decide) rfl (Nat.le_of_ble_eq_true rfl) rfl (Nat.le_of_ble_eq_true rfl) hx (fun R' hR' => m_R_isIn hR' hw) (bs_kI_ok fun v2 h3 hw => ?_) (fun _ _ z => z)
  refine bj_if_eq (pc := 77) (tgt := 84) d_R_scatterBits_77 (by decide) (fun hc => ?_) (fun hc => ?_)
  · replace hw := hw.1 hc
    refine bj_iconst (pc := 84) (v := 0) d_R_scatterBits_84 (by decide) ?_
    refine bj_sub [0, 1, 3] (lo' := [(0, .ref x0), (1, .long x1), (4, .int x4)]) rfl ?_
    exact m_R_scatterBits_85 hR hnx33 hw
  · replace hw := hw.2 hc
    refine bj_iconst (pc := 80) (v := 1) d_R_scatterBits_80 (by decide) ?_
    refine bj_goto (pc := 81) (tgt := 85) d_R_scatterBits_81 (by decide) ?_
    refine bj_sub [0, 1, 3] (lo' := [(0, .ref x0), (1, .long x1), (4, .int x4)]) rfl ?_
    exact m_R_scatterBits_85 hR hnx33 hw
theorem m_R_scatterBits_33 {l : Launch} {R : Room} {Φ : bs_R → bs_H → Prop} (hR : bs_rm 2 R) : ∀ (n : Nat) (x0 : Nat) (x1 : Int64) (x3 : Int32) (x4 : Int32) (h : bs_H), w_R_scatterBits_33 Φ n x0 x1 x3 x4 h → bs_J l K_R_scatterBits R Φ 33 [(0, .ref x0), (1, .long x1), (3, .int x3), (4, .int x4)] [] h := by
  intro n
  induction n with
  | zero => intro x0 x1 x3 x4 h hw; exact hw.elim
  | succ n ih =>
    have hnx33 := ih
    intro x0 x1 x3 x4 h hw
    replace hw : w_R_scatterBits_33_s Φ (w_R_scatterBits_33 Φ n) x0 x1 x3 x4 h := hw
    unfold w_R_scatterBits_33_s at hw
    refine bj_iload (pc := 33) 3 d_R_scatterBits_33 rfl ?_
    refine bj_aload_n (pc := 35) 0 d_R_scatterBits_35 rfl rfl ?_
    obtain ⟨fs, v1, hx, hv, hw⟩ := hw
    refine bj_get (pc := 36) (ci := 7) (k := 1) (fs := fs) (v := .int v1) d_R_scatterBits_36 rfl (by decide) q_749 hx hv ?_
    refine bj_icmp_ge (pc := 39) (tgt := 93) d_R_scatterBits_39 (by decide) (fun hc => ?_) (fun hc => ?_)
    · replace hw := hw.1 hc
      exact bj_vret (pc := 93) d_R_scatterBits_93 rfl hw
    · replace hw := hw.2 hc
      refine bj_aload_n (pc := 42) 0 d_R_scatterBits_42 rfl rfl ?_
      obtain ⟨fs, v2, hx, hv, hw⟩ := hw
      refine bj_get (pc := 43) (ci := 7) (k := 11) (fs := fs) (v := .ref v2) d_R_scatterBits_43 rfl (by decide) q_759 hx hv ?_
      refine bj_iload (pc := 46) 3 d_R_scatterBits_46 rfl ?_
      refine bj_aload_n (pc := 48) 0 d_R_scatterBits_48 rfl rfl ?_
      refine bj_lload_n (pc := 49) 1 d_R_scatterBits_49 rfl rfl ?_
      refine bj_iload (pc := 50) 3 d_R_scatterBits_50 rfl ?_
      obtain ⟨⟨fs, hx⟩, hw⟩ := hw
      refine bj_callV (pc := 52) (np := 2) (K' := K_R_isIn) (argsL := [.long x1, .int x4]) (st := [.int x4, .ref v2]) (d1 := 1) (ci := 7) (fs := fs) rfl d_R_scatterBits_52 (Or.inl q_915) q_917 rfl q_36 c_R_isIn n_R_isIn hR (by decide) (by decide) rfl (Nat.le_of_ble_eq_true rfl) rfl (Nat.le_of_ble_eq_true rfl) hx (fun R' hR' => m_R_isIn hR' hw) (bs_kI_ok fun v3 h4 hw => ?_) (fun _ _ z => z)
      refine bj_if_eq (pc := 55) (tgt := 67) d_R_scatterBits_55 (by decide) (fun hc => ?_) (fun hc => ?_)
      · replace hw := hw.1 hc
        refine bj_lconst (pc := 67) (v := 0) d_R_scatterBits_67 (by decide) ?_
        exact m_R_scatterBits_68 hR hnx33 hw
      · replace hw := hw.2 hc
        refine bj_aload_n (pc := 58) 0 d_R_scatterBits_58 rfl rfl ?_
        obtain ⟨fs, v5, hx, hv, hw⟩ := hw
        refine bj_get (pc := 59) (ci := 7) (k := 14) (fs := fs) (v := .ref v5) d_R_scatterBits_59 rfl (by decide) q_762 hx hv ?_
        refine bj_iload_n (pc := 62) 2 d_R_scatterBits_62 rfl rfl ?_
        obtain ⟨n, f, v6, hx, hin, hv, hw⟩ := hw
        refine bj_lald (pc := 63) (n := n) (f := f) d_R_scatterBits_63 hx hin hv ?_
        refine bj_goto (pc := 64) (tgt := 68) d_R_scatterBits_64 (by decide) ?_
        exact m_R_scatterBits_68 hR hnx33 hw
theorem m_R_scatterBits_2 {l : Launch} {R : Room} {Φ : bs_R → bs_H → Prop} (hR : bs_rm 2 R) : ∀ (n : Nat) (x0 : Nat) (x1 : Int64) (x3 : Int32) (h : bs_H), w_R_scatterBits_2 Φ n x0 x1 x3 h → bs_J l K_R_scatterBits R Φ 2 [(0, .ref x0), (1, .long x1), (3, .int x3)] [] h := by
  intro n
  induction n with
  | zero => intro x0 x1 x3 h hw; exact hw.elim
  | succ n ih =>
    have hnx2 := ih
    intro x0 x1 x3 h hw
    replace hw : w_R_scatterBits_2_s Φ (w_R_scatterBits_2 Φ n) x0 x1 x3 h := hw
    unfold w_R_scatterBits_2_s at hw
    refine bj_iload_n (pc := 2) 2 d_R_scatterBits_2 rfl rfl ?_
    refine bj_aload_n (pc := 3) 0 d_R_scatterBits_3 rfl rfl ?_
    obtain ⟨fs, v1, hx, hv, hw⟩ := hw
    refine bj_get (pc := 4) (ci := 7) (k := 1) (fs := fs) (v := .int v1) d_R_scatterBits_4 rfl (by decide) q_749 hx hv ?_
    refine bj_icmp_ge (pc := 7) (tgt := 28) d_R_scatterBits_7 (by decide) (fun hc => ?_) (fun hc => ?_)
    · replace hw := hw.1 hc
      refine bj_iconst (pc := 28) (v := 0) d_R_scatterBits_28 (by decide) ?_
      refine bj_istore_n (pc := 29) (lo' := [(3, .int 0), (0, .ref x0), (1, .long x1)]) d_R_scatterBits_29 rfl (by decide) rfl ?_
      refine bj_iconst (pc := 30) (v := 0) d_R_scatterBits_30 (by decide) ?_
      refine bj_istore (pc := 31) (lo' := [(4, .int 0), (3, .int 0), (0, .ref x0), (1, .long x1)]) d_R_scatterBits_31 (by decide) rfl ?_
      refine bj_sub [2, 3, 1, 0] (lo' := [(0, .ref x0), (1, .long x1), (3, .int 0), (4, .int 0)]) rfl ?_
      exact m_R_scatterBits_33 hR 1000 _ _ _ _ _ hw
    · replace hw := hw.2 hc
      refine bj_aload_n (pc := 10) 0 d_R_scatterBits_10 rfl rfl ?_
      obtain ⟨fs, v2, hx, hv, hw⟩ := hw
      refine bj_get (pc := 11) (ci := 7) (k := 14) (fs := fs) (v := .ref v2) d_R_scatterBits_11 rfl (by decide) q_762 hx hv ?_
      refine bj_iload_n (pc := 14) 2 d_R_scatterBits_14 rfl rfl ?_
      refine bj_aload_n (pc := 15) 0 d_R_scatterBits_15 rfl rfl ?_
      obtain ⟨fs, v3, hx, hv, hw⟩ := hw
      refine bj_get (pc := 16) (ci := 7) (k := 11) (fs := fs) (v := .ref v3) d_R_scatterBits_16 rfl (by decide) q_759 hx hv ?_
      refine bj_iload_n (pc := 19) 2 d_R_scatterBits_19 rfl rfl ?_
      obtain ⟨n, f, v4, hx, hin, hv, hw⟩ := hw
      refine bj_lald (pc := 20) (n := n) (f := f) d_R_scatterBits_20 hx hin hv ?_
      obtain ⟨n, f, hx, hin, hw⟩ := hw
      refine bj_last (pc := 21) (n := n) (f := f) d_R_scatterBits_21 hx hin ?_
      refine bj_iinc (pc := 22) (v := (x3 + 1)) (lo' := [(3, .int (x3 + 1)), (0, .ref x0), (1, .long x1)]) 2 d_R_scatterBits_22 rfl rfl (by decide) rfl ?_
      refine bj_goto (pc := 25) (tgt := 2) d_R_scatterBits_25 (by decide) ?_
      refine bj_sub [1, 2, 0] (lo' := [(0, .ref x0), (1, .long x1), (3, .int (x3 + 1))]) rfl ?_
      exact hnx2 _ _ _ _ hw
theorem m_R_scatterBits {l : Launch} {R : Room} (hR : bs_rm 2 R) {Φ : bs_R → bs_H → Prop} {x0 : Nat} {x1 : Int64} {h : bs_H} (hw : w_R_scatterBits Φ x0 x1 h) : bs_J l K_R_scatterBits R Φ 0 [(0, .ref x0), (1, .long x1)] [] h := by
  unfold w_R_scatterBits at hw
  refine bj_iconst (pc := 0) (v := 0) d_R_scatterBits_0 (by decide) ?_
  refine bj_istore_n (pc := 1) (lo' := [(3, .int 0), (0, .ref x0), (1, .long x1)]) d_R_scatterBits_1 rfl (by decide) rfl ?_
  refine bj_sub [1, 2, 0] (lo' := [(0, .ref x0), (1, .long x1), (3, .int 0)]) rfl ?_
  exact m_R_scatterBits_2 hR 1000 _ _ _ _ hw
theorem d_R_go_0 : decode prog_9_method_29_code 0 = .ok (.aload_n 0, 1) := by decide +kernel
theorem d_R_go_1 : decode prog_9_method_29_code 1 = .ok (.getfield 19, 3) := by decide +kernel
theorem d_R_go_4 : decode prog_9_method_29_code 4 = .ok (.iload_n 1, 1) := by decide +kernel
theorem d_R_go_5 : decode prog_9_method_29_code 5 = .ok (.laload, 1) := by decide +kernel
theorem d_R_go_6 : decode prog_9_method_29_code 6 = .ok (.lstore_n 2, 1) := by decide +kernel
theorem d_R_go_7 : decode prog_9_method_29_code 7 = .ok (.aload_n 0, 1) := by decide +kernel
theorem d_R_go_8 : decode prog_9_method_29_code 8 = .ok (.getfield 13, 3) := by decide +kernel
theorem d_R_go_11 : decode prog_9_method_29_code 11 = .ok (.iload_n 1, 1) := by decide +kernel
theorem d_R_go_12 : decode prog_9_method_29_code 12 = .ok (.iaload, 1) := by decide +kernel
theorem d_R_go_13 : decode prog_9_method_29_code 13 = .ok (.tableswitch 109 0 8 #[51, 51, 109, 109, 109, 79, 109, 93, 101], 51) := by decide +kernel
theorem d_R_go_64 : decode prog_9_method_29_code 64 = .ok (.aload_n 0, 1) := by decide +kernel
theorem d_R_go_65 : decode prog_9_method_29_code 65 = .ok (.aload_n 0, 1) := by decide +kernel
theorem d_R_go_66 : decode prog_9_method_29_code 66 = .ok (.getfield 16, 3) := by decide +kernel
theorem d_R_go_69 : decode prog_9_method_29_code 69 = .ok (.iload_n 1, 1) := by decide +kernel
theorem d_R_go_70 : decode prog_9_method_29_code 70 = .ok (.iaload, 1) := by decide +kernel
theorem d_R_go_71 : decode prog_9_method_29_code 71 = .ok (.aload_n 0, 1) := by decide +kernel
theorem d_R_go_72 : decode prog_9_method_29_code 72 = .ok (.getfield 13, 3) := by decide +kernel
theorem d_R_go_75 : decode prog_9_method_29_code 75 = .ok (.iload_n 1, 1) := by decide +kernel
theorem d_R_go_76 : decode prog_9_method_29_code 76 = .ok (.iaload, 1) := by decide +kernel
theorem d_R_go_77 : decode prog_9_method_29_code 77 = .ok (.iconst 1, 1) := by decide +kernel
theorem d_R_go_78 : decode prog_9_method_29_code 78 = .ok (.if_icmp .ne 7, 3) := by decide +kernel
theorem d_R_go_81 : decode prog_9_method_29_code 81 = .ok (.iconst 1, 1) := by decide +kernel
theorem d_R_go_82 : decode prog_9_method_29_code 82 = .ok (.goto 4, 3) := by decide +kernel
theorem d_R_go_85 : decode prog_9_method_29_code 85 = .ok (.iconst 0, 1) := by decide +kernel
theorem d_R_go_86 : decode prog_9_method_29_code 86 = .ok (.invokevirtual 143, 3) := by decide +kernel
theorem d_R_go_89 : decode prog_9_method_29_code 89 = .ok (.goto 202, 3) := by decide +kernel
theorem d_R_go_92 : decode prog_9_method_29_code 92 = .ok (.aload_n 0, 1) := by decide +kernel
theorem d_R_go_93 : decode prog_9_method_29_code 93 = .ok (.aload_n 0, 1) := by decide +kernel
theorem d_R_go_94 : decode prog_9_method_29_code 94 = .ok (.getfield 16, 3) := by decide +kernel
theorem d_R_go_97 : decode prog_9_method_29_code 97 = .ok (.iload_n 1, 1) := by decide +kernel
theorem d_R_go_98 : decode prog_9_method_29_code 98 = .ok (.iaload, 1) := by decide +kernel
theorem d_R_go_99 : decode prog_9_method_29_code 99 = .ok (.lload_n 2, 1) := by decide +kernel
theorem d_R_go_100 : decode prog_9_method_29_code 100 = .ok (.invokevirtual 147, 3) := by decide +kernel
theorem d_R_go_103 : decode prog_9_method_29_code 103 = .ok (.goto 188, 3) := by decide +kernel
theorem d_R_go_106 : decode prog_9_method_29_code 106 = .ok (.aload_n 0, 1) := by decide +kernel
theorem d_R_go_107 : decode prog_9_method_29_code 107 = .ok (.lload_n 2, 1) := by decide +kernel
theorem d_R_go_108 : decode prog_9_method_29_code 108 = .ok (.invokevirtual 151, 3) := by decide +kernel
theorem d_R_go_111 : decode prog_9_method_29_code 111 = .ok (.goto 180, 3) := by decide +kernel
theorem d_R_go_114 : decode prog_9_method_29_code 114 = .ok (.aload_n 0, 1) := by decide +kernel
theorem d_R_go_115 : decode prog_9_method_29_code 115 = .ok (.lload_n 2, 1) := by decide +kernel
theorem d_R_go_116 : decode prog_9_method_29_code 116 = .ok (.invokevirtual 155, 3) := by decide +kernel
theorem d_R_go_119 : decode prog_9_method_29_code 119 = .ok (.goto 172, 3) := by decide +kernel
theorem d_R_go_122 : decode prog_9_method_29_code 122 = .ok (.iconst 0, 1) := by decide +kernel
theorem d_R_go_123 : decode prog_9_method_29_code 123 = .ok (.istore 4, 2) := by decide +kernel
theorem d_R_go_125 : decode prog_9_method_29_code 125 = .ok (.iload 4, 2) := by decide +kernel
theorem d_R_go_127 : decode prog_9_method_29_code 127 = .ok (.aload_n 0, 1) := by decide +kernel
theorem d_R_go_128 : decode prog_9_method_29_code 128 = .ok (.getfield 89, 3) := by decide +kernel
theorem d_R_go_131 : decode prog_9_method_29_code 131 = .ok (.if_icmp .ge 160, 3) := by decide +kernel
theorem d_R_go_134 : decode prog_9_method_29_code 134 = .ok (.aload_n 0, 1) := by decide +kernel
theorem d_R_go_135 : decode prog_9_method_29_code 135 = .ok (.getfield 32, 3) := by decide +kernel
theorem d_R_go_138 : decode prog_9_method_29_code 138 = .ok (.iload 4, 2) := by decide +kernel
theorem d_R_go_140 : decode prog_9_method_29_code 140 = .ok (.aload_n 0, 1) := by decide +kernel
theorem d_R_go_141 : decode prog_9_method_29_code 141 = .ok (.getfield 13, 3) := by decide +kernel
theorem d_R_go_144 : decode prog_9_method_29_code 144 = .ok (.iload_n 1, 1) := by decide +kernel
theorem d_R_go_145 : decode prog_9_method_29_code 145 = .ok (.iaload, 1) := by decide +kernel
theorem d_R_go_146 : decode prog_9_method_29_code 146 = .ok (.iconst 2, 1) := by decide +kernel
theorem d_R_go_147 : decode prog_9_method_29_code 147 = .ok (.if_icmp .ne 17, 3) := by decide +kernel
theorem d_R_go_150 : decode prog_9_method_29_code 150 = .ok (.aload_n 0, 1) := by decide +kernel
theorem d_R_go_151 : decode prog_9_method_29_code 151 = .ok (.lload_n 2, 1) := by decide +kernel
theorem d_R_go_152 : decode prog_9_method_29_code 152 = .ok (.iload 4, 2) := by decide +kernel
theorem d_R_go_154 : decode prog_9_method_29_code 154 = .ok (.invokevirtual 135, 3) := by decide +kernel
theorem d_R_go_157 : decode prog_9_method_29_code 157 = .ok (.ifCond .ne 7, 3) := by decide +kernel
theorem d_R_go_160 : decode prog_9_method_29_code 160 = .ok (.lconst 0, 1) := by decide +kernel
theorem d_R_go_161 : decode prog_9_method_29_code 161 = .ok (.goto 10, 3) := by decide +kernel
theorem d_R_go_164 : decode prog_9_method_29_code 164 = .ok (.aload_n 0, 1) := by decide +kernel
theorem d_R_go_165 : decode prog_9_method_29_code 165 = .ok (.getfield 32, 3) := by decide +kernel
theorem d_R_go_168 : decode prog_9_method_29_code 168 = .ok (.iload 4, 2) := by decide +kernel
theorem d_R_go_170 : decode prog_9_method_29_code 170 = .ok (.laload, 1) := by decide +kernel
theorem d_R_go_171 : decode prog_9_method_29_code 171 = .ok (.lastore, 1) := by decide +kernel
theorem d_R_go_172 : decode prog_9_method_29_code 172 = .ok (.aload_n 0, 1) := by decide +kernel
theorem d_R_go_173 : decode prog_9_method_29_code 173 = .ok (.getfield 35, 3) := by decide +kernel
theorem d_R_go_176 : decode prog_9_method_29_code 176 = .ok (.iload 4, 2) := by decide +kernel
theorem d_R_go_178 : decode prog_9_method_29_code 178 = .ok (.aload_n 0, 1) := by decide +kernel
theorem d_R_go_179 : decode prog_9_method_29_code 179 = .ok (.getfield 13, 3) := by decide +kernel
theorem d_R_go_182 : decode prog_9_method_29_code 182 = .ok (.iload_n 1, 1) := by decide +kernel
theorem d_R_go_183 : decode prog_9_method_29_code 183 = .ok (.iaload, 1) := by decide +kernel
theorem d_R_go_184 : decode prog_9_method_29_code 184 = .ok (.iconst 3, 1) := by decide +kernel
theorem d_R_go_185 : decode prog_9_method_29_code 185 = .ok (.if_icmp .ne 21, 3) := by decide +kernel
theorem d_R_go_188 : decode prog_9_method_29_code 188 = .ok (.aload_n 0, 1) := by decide +kernel
theorem d_R_go_189 : decode prog_9_method_29_code 189 = .ok (.getfield 35, 3) := by decide +kernel
theorem d_R_go_192 : decode prog_9_method_29_code 192 = .ok (.iload 4, 2) := by decide +kernel
theorem d_R_go_194 : decode prog_9_method_29_code 194 = .ok (.laload, 1) := by decide +kernel
theorem d_R_go_195 : decode prog_9_method_29_code 195 = .ok (.aload_n 0, 1) := by decide +kernel
theorem d_R_go_196 : decode prog_9_method_29_code 196 = .ok (.getfield 32, 3) := by decide +kernel
theorem d_R_go_199 : decode prog_9_method_29_code 199 = .ok (.iload 4, 2) := by decide +kernel
theorem d_R_go_201 : decode prog_9_method_29_code 201 = .ok (.laload, 1) := by decide +kernel
theorem d_R_go_202 : decode prog_9_method_29_code 202 = .ok (.lor, 1) := by decide +kernel
theorem d_R_go_203 : decode prog_9_method_29_code 203 = .ok (.goto 39, 3) := by decide +kernel
theorem d_R_go_206 : decode prog_9_method_29_code 206 = .ok (.aload_n 0, 1) := by decide +kernel
theorem d_R_go_207 : decode prog_9_method_29_code 207 = .ok (.getfield 13, 3) := by decide +kernel
theorem d_R_go_210 : decode prog_9_method_29_code 210 = .ok (.iload_n 1, 1) := by decide +kernel
theorem d_R_go_211 : decode prog_9_method_29_code 211 = .ok (.iaload, 1) := by decide +kernel
theorem d_R_go_212 : decode prog_9_method_29_code 212 = .ok (.bipush 6, 2) := by decide +kernel
theorem d_R_go_214 : decode prog_9_method_29_code 214 = .ok (.if_icmp .ne 21, 3) := by decide +kernel
theorem d_R_go_217 : decode prog_9_method_29_code 217 = .ok (.aload_n 0, 1) := by decide +kernel
theorem d_R_go_218 : decode prog_9_method_29_code 218 = .ok (.getfield 35, 3) := by decide +kernel
theorem d_R_go_221 : decode prog_9_method_29_code 221 = .ok (.iload 4, 2) := by decide +kernel
theorem d_R_go_223 : decode prog_9_method_29_code 223 = .ok (.laload, 1) := by decide +kernel
theorem d_R_go_224 : decode prog_9_method_29_code 224 = .ok (.aload_n 0, 1) := by decide +kernel
theorem d_R_go_225 : decode prog_9_method_29_code 225 = .ok (.getfield 29, 3) := by decide +kernel
theorem d_R_go_228 : decode prog_9_method_29_code 228 = .ok (.iload 4, 2) := by decide +kernel
theorem d_R_go_230 : decode prog_9_method_29_code 230 = .ok (.laload, 1) := by decide +kernel
theorem d_R_go_231 : decode prog_9_method_29_code 231 = .ok (.lor, 1) := by decide +kernel
theorem d_R_go_232 : decode prog_9_method_29_code 232 = .ok (.goto 10, 3) := by decide +kernel
theorem d_R_go_235 : decode prog_9_method_29_code 235 = .ok (.aload_n 0, 1) := by decide +kernel
theorem d_R_go_236 : decode prog_9_method_29_code 236 = .ok (.getfield 35, 3) := by decide +kernel
theorem d_R_go_239 : decode prog_9_method_29_code 239 = .ok (.iload 4, 2) := by decide +kernel
theorem d_R_go_241 : decode prog_9_method_29_code 241 = .ok (.laload, 1) := by decide +kernel
theorem d_R_go_242 : decode prog_9_method_29_code 242 = .ok (.lastore, 1) := by decide +kernel
theorem d_R_go_243 : decode prog_9_method_29_code 243 = .ok (.aload_n 0, 1) := by decide +kernel
theorem d_R_go_244 : decode prog_9_method_29_code 244 = .ok (.getfield 38, 3) := by decide +kernel
theorem d_R_go_247 : decode prog_9_method_29_code 247 = .ok (.iload 4, 2) := by decide +kernel
theorem d_R_go_249 : decode prog_9_method_29_code 249 = .ok (.aload_n 0, 1) := by decide +kernel
theorem d_R_go_250 : decode prog_9_method_29_code 250 = .ok (.getfield 38, 3) := by decide +kernel
theorem d_R_go_253 : decode prog_9_method_29_code 253 = .ok (.iload 4, 2) := by decide +kernel
theorem d_R_go_255 : decode prog_9_method_29_code 255 = .ok (.baload, 1) := by decide +kernel
theorem d_R_go_256 : decode prog_9_method_29_code 256 = .ok (.ifCond .ne 23, 3) := by decide +kernel
theorem d_R_go_259 : decode prog_9_method_29_code 259 = .ok (.aload_n 0, 1) := by decide +kernel
theorem d_R_go_260 : decode prog_9_method_29_code 260 = .ok (.getfield 13, 3) := by decide +kernel
theorem d_R_go_263 : decode prog_9_method_29_code 263 = .ok (.iload_n 1, 1) := by decide +kernel
theorem d_R_go_264 : decode prog_9_method_29_code 264 = .ok (.iaload, 1) := by decide +kernel
theorem d_R_go_265 : decode prog_9_method_29_code 265 = .ok (.iconst 4, 1) := by decide +kernel
theorem d_R_go_266 : decode prog_9_method_29_code 266 = .ok (.if_icmp .ne 17, 3) := by decide +kernel
theorem d_R_go_269 : decode prog_9_method_29_code 269 = .ok (.aload_n 0, 1) := by decide +kernel
theorem d_R_go_270 : decode prog_9_method_29_code 270 = .ok (.lload_n 2, 1) := by decide +kernel
theorem d_R_go_271 : decode prog_9_method_29_code 271 = .ok (.iload 4, 2) := by decide +kernel
theorem d_R_go_273 : decode prog_9_method_29_code 273 = .ok (.invokevirtual 135, 3) := by decide +kernel
theorem d_R_go_276 : decode prog_9_method_29_code 276 = .ok (.ifCond .eq 7, 3) := by decide +kernel
theorem d_R_go_279 : decode prog_9_method_29_code 279 = .ok (.iconst 1, 1) := by decide +kernel
theorem d_R_go_280 : decode prog_9_method_29_code 280 = .ok (.goto 4, 3) := by decide +kernel
theorem d_R_go_283 : decode prog_9_method_29_code 283 = .ok (.iconst 0, 1) := by decide +kernel
theorem d_R_go_284 : decode prog_9_method_29_code 284 = .ok (.bastore, 1) := by decide +kernel
theorem d_R_go_285 : decode prog_9_method_29_code 285 = .ok (.iinc 4 1, 3) := by decide +kernel
theorem d_R_go_288 : decode prog_9_method_29_code 288 = .ok (.goto (-163), 3) := by decide +kernel
theorem d_R_go_291 : decode prog_9_method_29_code 291 = .ok (.return_, 1) := by decide +kernel
def w_R_go_291 (Φ : bs_R → bs_H → Prop) (h : bs_H) : Prop :=
  Φ (.ok none) h
def w_R_go_284 (Φ : bs_R → bs_H → Prop) (nx125 : Nat → Int32 → Int64 → Int32 → bs_H → Prop) (x0 : Nat) (x1 : Int32) (x2 : Int64) (x4 : Int32) (s0 : Nat) (s1 : Int32) (s2 : Int32) (h : bs_H) : Prop :=
  bs_sZ h s0 s1 s2 (fun h1 => nx125 x0 x1 x2 (x4 + 1) h1)
def w_R_go_283 (Φ : bs_R → bs_H → Prop) (nx125 : Nat → Int32 → Int64 → Int32 → bs_H → Prop) (x0 : Nat) (x1 : Int32) (x2 : Int64) (x4 : Int32) (s0 : Nat) (s1 : Int32) (h : bs_H) : Prop :=
  w_R_go_284 Φ nx125 x0 x1 x2 x4 s0 s1 0 h
def w_R_go_279 (Φ : bs_R → bs_H → Prop) (nx125 : Nat → Int32 → Int64 → Int32 → bs_H → Prop) (x0 : Nat) (x1 : Int32) (x2 : Int64) (x4 : Int32) (s0 : Nat) (s1 : Int32) (h : bs_H) : Prop :=
  w_R_go_284 Φ nx125 x0 x1 x2 x4 s0 s1 1 h
def w_R_go_242 (Φ : bs_R → bs_H → Prop) (nx125 : Nat → Int32 → Int64 → Int32 → bs_H → Prop) (x0 : Nat) (x1 : Int32) (x2 : Int64) (x4 : Int32) (s0 : Nat) (s1 : Int32) (s2 : Int64) (h : bs_H) : Prop :=
  bs_sL h s0 s1 s2 (fun h1 => bs_fA h1 x0 7 13 (fun v2 => bs_fA h1 x0 7 13 (fun v3 => bs_lZ h1 v3 x4 (fun v4 => bs_if (v4 = 0) (bs_fA h1 x0 7 4 (fun v5 => bs_lI h1 v5 x1 (fun v6 => bs_if (v6 = 4) (bs_on h1 x0 7 (w_R_isIn (bs_kI Φ fun v7 h8 => (bs_if (v7 = 0) (w_R_go_283 Φ nx125 x0 x1 x2 x4 v2 x4 h8) (w_R_go_279 Φ nx125 x0 x1 x2 x4 v2 x4 h8))) x0 x2 x4 h1)) (w_R_go_283 Φ nx125 x0 x1 x2 x4 v2 x4 h1)))) (w_R_go_279 Φ nx125 x0 x1 x2 x4 v2 x4 h1)))))
def w_R_go_171 (Φ : bs_R → bs_H → Prop) (nx125 : Nat → Int32 → Int64 → Int32 → bs_H → Prop) (x0 : Nat) (x1 : Int32) (x2 : Int64) (x4 : Int32) (s0 : Nat) (s1 : Int32) (s2 : Int64) (h : bs_H) : Prop :=
  bs_sL h s0 s1 s2 (fun h1 => bs_fA h1 x0 7 12 (fun v2 => bs_fA h1 x0 7 4 (fun v3 => bs_lI h1 v3 x1 (fun v4 => bs_if (v4 = 3) (bs_fA h1 x0 7 12 (fun v13 => bs_lL h1 v13 x4 (fun v14 => bs_fA h1 x0 7 11 (fun v15 => bs_lL h1 v15 x4 (fun v16 => w_R_go_242 Φ nx125 x0 x1 x2 x4 v2 x4 (v14 ||| v16) h1))))) (bs_fA h1 x0 7 4 (fun v5 => bs_lI h1 v5 x1 (fun v6 => bs_if (v6 = 6) (bs_fA h1 x0 7 12 (fun v9 => bs_lL h1 v9 x4 (fun v10 => bs_fA h1 x0 7 10 (fun v11 => bs_lL h1 v11 x4 (fun v12 => w_R_go_242 Φ nx125 x0 x1 x2 x4 v2 x4 (v10 ||| v12) h1))))) (bs_fA h1 x0 7 12 (fun v7 => bs_lL h1 v7 x4 (fun v8 => w_R_go_242 Φ nx125 x0 x1 x2 x4 v2 x4 v8 h1))))))))))
def w_R_go_164 (Φ : bs_R → bs_H → Prop) (nx125 : Nat → Int32 → Int64 → Int32 → bs_H → Prop) (x0 : Nat) (x1 : Int32) (x2 : Int64) (x4 : Int32) (s0 : Nat) (s1 : Int32) (h : bs_H) : Prop :=
  bs_fA h x0 7 11 (fun v1 => bs_lL h v1 x4 (fun v2 => w_R_go_171 Φ nx125 x0 x1 x2 x4 s0 s1 v2 h))
def w_R_go_125_s (Φ : bs_R → bs_H → Prop) (nx125 : Nat → Int32 → Int64 → Int32 → bs_H → Prop) (x0 : Nat) (x1 : Int32) (x2 : Int64) (x4 : Int32) (h : bs_H) : Prop :=
  bs_fI h x0 7 1 (fun v1 => bs_if (v1 ≤ x4) (w_R_go_291 Φ h) (bs_fA h x0 7 11 (fun v2 => bs_fA h x0 7 4 (fun v3 => bs_lI h v3 x1 (fun v4 => bs_if (v4 = 2) (bs_on h x0 7 (w_R_isIn (bs_kI Φ fun v5 h6 => (bs_if (v5 = 0) (w_R_go_171 Φ nx125 x0 x1 x2 x4 v2 x4 0 h6) (w_R_go_164 Φ nx125 x0 x1 x2 x4 v2 x4 h6))) x0 x2 x4 h)) (w_R_go_164 Φ nx125 x0 x1 x2 x4 v2 x4 h))))))
def w_R_go_125 (Φ : bs_R → bs_H → Prop) : Nat → Nat → Int32 → Int64 → Int32 → bs_H → Prop
  | 0 => fun _ _ _ _ _ => False
  | n + 1 => fun x0 x1 x2 x4 h => w_R_go_125_s Φ (w_R_go_125 Φ n) x0 x1 x2 x4 h
def w_R_go_86 (Φ : bs_R → bs_H → Prop) (s0 : Nat) (s1 : Int32) (s2 : Int32) (h : bs_H) : Prop :=
  bs_on h s0 7 (w_R_moveBits (bs_kV Φ fun h1 => (w_R_go_291 Φ h1)) s0 s1 s2 h)
def w_R_go (Φ : bs_R → bs_H → Prop) (x0 : Nat) (x1 : Int32) (h : bs_H) : Prop :=
  bs_fA h x0 7 6 (fun v1 => bs_lL h v1 x1 (fun v2 => bs_fA h x0 7 4 (fun v3 => bs_lI h v3 x1 (fun v4 => bs_if (v4 = 0) (bs_fA h x0 7 5 (fun v5 => bs_lI h v5 x1 (fun v6 => bs_fA h x0 7 4 (fun v7 => bs_lI h v7 x1 (fun v8 => bs_if (v8 = 1) (w_R_go_86 Φ x0 v6 1 h) (w_R_go_86 Φ x0 v6 0 h)))))) (bs_if (v4 = 1) (bs_fA h x0 7 5 (fun v9 => bs_lI h v9 x1 (fun v10 => bs_fA h x0 7 4 (fun v11 => bs_lI h v11 x1 (fun v12 => bs_if (v12 = 1) (w_R_go_86 Φ x0 v10 1 h) (w_R_go_86 Φ x0 v10 0 h)))))) (bs_if (v4 = 5) (bs_fA h x0 7 5 (fun v13 => bs_lI h v13 x1 (fun v14 => bs_on h x0 7 (w_R_swapBits (bs_kV Φ fun h15 => (w_R_go_291 Φ h15)) x0 v14 v2 h)))) (bs_if (v4 = 7) (bs_on h x0 7 (w_R_gatherBits (bs_kV Φ fun h16 => (w_R_go_291 Φ h16)) x0 v2 h)) (bs_if (v4 = 8) (bs_on h x0 7 (w_R_scatterBits (bs_kV Φ fun h17 => (w_R_go_291 Φ h17)) x0 v2 h)) (w_R_go_125 Φ 1000 x0 x1 v2 0 h)))))))))
theorem m_R_go_291 {l : Launch} {R : Room} {Φ : bs_R → bs_H → Prop} (hR : bs_rm 3 R) {h : bs_H} (hw : w_R_go_291 Φ h) : bs_J l K_R_go R Φ 291 [] [] h := by
  unfold w_R_go_291 at hw
  exact bj_vret (pc := 291) d_R_go_291 rfl hw
theorem m_R_go_284 {l : Launch} {R : Room} {Φ : bs_R → bs_H → Prop} (hR : bs_rm 3 R) {nx125 : Nat → Int32 → Int64 → Int32 → bs_H → Prop} (hnx125 : ∀ (x0 : Nat) (x1 : Int32) (x2 : Int64) (x4 : Int32) (h : bs_H), nx125 x0 x1 x2 x4 h → bs_J l K_R_go R Φ 125 [(0, .ref x0), (1, .int x1), (2, .long x2), (4, .int x4)] [] h) {x0 : Nat} {x1 : Int32} {x2 : Int64} {x4 : Int32} {s0 : Nat} {s1 : Int32} {s2 : Int32} {h : bs_H} (hw : w_R_go_284 Φ nx125 x0 x1 x2 x4 s0 s1 s2 h) : bs_J l K_R_go R Φ 284 [(0, .ref x0), (1, .int x1), (2, .long x2), (4, .int x4)] [.int s2, .int s1, .ref s0] h := by
  unfold w_R_go_284 at hw
  obtain ⟨n, f, hx, hin, hn, hw⟩ := hw
  refine bj_zast (pc := 284) (n := n) (f := f) d_R_go_284 hx hin hn ?_
  refine bj_iinc (pc := 285) (v := (x4 + 1)) (lo' := [(4, .int (x4 + 1)), (0, .ref x0), (1, .int x1), (2, .long x2)]) 3 d_R_go_285 rfl rfl (by decide) rfl ?_
  refine bj_goto (pc := 288) (tgt := 125) d_R_go_288 (by decide) ?_
  refine bj_sub [1, 2, 3, 0] (lo' := [(0, .ref x0), (1, .int x1), (2, .long x2), (4, .int (x4 + 1))]) rfl ?_
  exact hnx125 _ _ _ _ _ hw
theorem m_R_go_283 {l : Launch} {R : Room} {Φ : bs_R → bs_H → Prop} (hR : bs_rm 3 R) {nx125 : Nat → Int32 → Int64 → Int32 → bs_H → Prop} (hnx125 : ∀ (x0 : Nat) (x1 : Int32) (x2 : Int64) (x4 : Int32) (h : bs_H), nx125 x0 x1 x2 x4 h → bs_J l K_R_go R Φ 125 [(0, .ref x0), (1, .int x1), (2, .long x2), (4, .int x4)] [] h) {x0 : Nat} {x1 : Int32} {x2 : Int64} {x4 : Int32} {s0 : Nat} {s1 : Int32} {h : bs_H} (hw : w_R_go_283 Φ nx125 x0 x1 x2 x4 s0 s1 h) : bs_J l K_R_go R Φ 283 [(0, .ref x0), (1, .int x1), (2, .long x2), (4, .int x4)] [.int s1, .ref s0] h := by
  unfold w_R_go_283 at hw
  refine bj_iconst (pc := 283) (v := 0) d_R_go_283 (by decide) ?_
  exact m_R_go_284 hR hnx125 hw
theorem m_R_go_279 {l : Launch} {R : Room} {Φ : bs_R → bs_H → Prop} (hR : bs_rm 3 R) {nx125 : Nat → Int32 → Int64 → Int32 → bs_H → Prop} (hnx125 : ∀ (x0 : Nat) (x1 : Int32) (x2 : Int64) (x4 : Int32) (h : bs_H), nx125 x0 x1 x2 x4 h → bs_J l K_R_go R Φ 125 [(0, .ref x0), (1, .int x1), (2, .long x2), (4, .int x4)] [] h) {x0 : Nat} {x1 : Int32} {x2 : Int64} {x4 : Int32} {s0 : Nat} {s1 : Int32} {h : bs_H} (hw : w_R_go_279 Φ nx125 x0 x1 x2 x4 s0 s1 h) : bs_J l K_R_go R Φ 279 [(0, .ref x0), (1, .int x1), (2, .long x2), (4, .int x4)] [.int s1, .ref s0] h := by
  unfold w_R_go_279 at hw
  refine bj_iconst (pc := 279) (v := 1) d_R_go_279 (by decide) ?_
  refine bj_goto (pc := 280) (tgt := 284) d_R_go_280 (by decide) ?_
  exact m_R_go_284 hR hnx125 hw
theorem m_R_go_242 {l : Launch} {R : Room} {Φ : bs_R → bs_H → Prop} (hR : bs_rm 3 R) {nx125 : Nat → Int32 → Int64 → Int32 → bs_H → Prop} (hnx125 : ∀ (x0 : Nat) (x1 : Int32) (x2 : Int64) (x4 : Int32) (h : bs_H), nx125 x0 x1 x2 x4 h → bs_J l K_R_go R Φ 125 [(0, .ref x0), (1, .int x1), (2, .long x2), (4, .int x4)] [] h) {x0 : Nat} {x1 : Int32} {x2 : Int64} {x4 : Int32} {s0 : Nat} {s1 : Int32} {s2 : Int64} {h : bs_H} (hw : w_R_go_242 Φ nx125 x0 x1 x2 x4 s0 s1 s2 h) : bs_J l K_R_go R Φ 242 [(0, .ref x0), (1, .int x1), (2, .long x2), (4, .int x4)] [.long s2, .int s1, .ref s0] h := by
  unfold w_R_go_242 at hw
  obtain ⟨n, f, hx, hin, hw⟩ := hw
  refine bj_last (pc := 242) (n := n) (f := f) d_R_go_242 hx hin ?_
  refine bj_aload_n (pc := 243) 0 d_R_go_243 rfl rfl ?_
  obtain ⟨fs, v2, hx, hv, hw⟩ := hw
  refine bj_get (pc := 244) (ci := 7) (k := 13) (fs := fs) (v := .ref v2) d_R_go_244 rfl (by decide) q_761 hx hv ?_
  refine bj_iload (pc := 247) 3 d_R_go_247 rfl ?_
  refine bj_aload_n (pc := 249) 0 d_R_go_249 rfl rfl ?_
  obtain ⟨fs, v3, hx, hv, hw⟩ := hw
  refine bj_get (pc := 250) (ci := 7) (k := 13) (fs := fs) (v := .ref v3) d_R_go_250 rfl (by decide) q_761 hx hv ?_
  refine bj_iload (pc := 253) 3 d_R_go_253 rfl ?_
  obtain ⟨n, f, v4, hx, hin, hv, hw⟩ := hw
  refine bj_zald (pc := 255) (n := n) (f := f) d_R_go_255 hx hin hv ?_
  refine bj_if_ne (pc := 256) (tgt := 279) d_R_go_256 (by decide) (fun hc => ?_) (fun hc => ?_)
  · replace hw := hw.2 hc
    exact m_R_go_279 hR hnx125 hw
  · replace hw := hw.1 hc
    refine bj_aload_n (pc := 259) 0 d_R_go_259 rfl rfl ?_
    obtain ⟨fs, v5, hx, hv, hw⟩ := hw
    refine bj_get (pc := 260) (ci := 7) (k := 4) (fs := fs) (v := .ref v5) d_R_go_260 rfl (by decide) q_752 hx hv ?_
    refine bj_iload_n (pc := 263) 1 d_R_go_263 rfl rfl ?_
    obtain ⟨n, f, v6, hx, hin, hv, hw⟩ := hw
    refine bj_iald (pc := 264) (n := n) (f := f) d_R_go_264 hx hin hv ?_
    refine bj_iconst (pc := 265) (v := 4) d_R_go_265 (by decide) ?_
    refine bj_icmp_ne (pc := 266) (tgt := 283) d_R_go_266 (by decide) (fun hc => ?_) (fun hc => ?_)
    · replace hw := hw.2 hc
      exact m_R_go_283 hR hnx125 hw
    · replace hw := hw.1 hc
      refine bj_aload_n (pc := 269) 0 d_R_go_269 rfl rfl ?_
      refine bj_lload_n (pc := 270) 2 d_R_go_270 rfl rfl ?_
      refine bj_iload (pc := 271) 3 d_R_go_271 rfl ?_
      obtain ⟨⟨fs, hx⟩, hw⟩ := hw
      refine bj_callV (pc := 273) (np := 2) (K' := K_R_isIn) (argsL := [.long x2, .int x4]) (st := [.int x4, .ref v2]) (d1 := 1) (ci := 7) (fs := fs) rfl d_R_go_273 (Or.inl q_915) q_917 rfl q_36 c_R_isIn n_R_isIn hR (by decide) (by decide) rfl (Nat.le_of_ble_eq_true rfl) rfl (Nat.le_of_ble_eq_true rfl) hx (fun R' hR' => m_R_isIn hR' hw) (bs_kI_ok fun v7 h8 hw => ?_) (fun _ _ z => z)
      refine bj_if_eq (pc := 276) (tgt := 283) d_R_go_276 (by decide) (fun hc => ?_) (fun hc => ?_)
      · replace hw := hw.1 hc
        exact m_R_go_283 hR hnx125 hw
      · replace hw := hw.2 hc
        exact m_R_go_279 hR hnx125 hw
theorem m_R_go_171 {l : Launch} {R : Room} {Φ : bs_R → bs_H → Prop} (hR : bs_rm 3 R) {nx125 : Nat → Int32 → Int64 → Int32 → bs_H → Prop} (hnx125 : ∀ (x0 : Nat) (x1 : Int32) (x2 : Int64) (x4 : Int32) (h : bs_H), nx125 x0 x1 x2 x4 h → bs_J l K_R_go R Φ 125 [(0, .ref x0), (1, .int x1), (2, .long x2), (4, .int x4)] [] h) {x0 : Nat} {x1 : Int32} {x2 : Int64} {x4 : Int32} {s0 : Nat} {s1 : Int32} {s2 : Int64} {h : bs_H} (hw : w_R_go_171 Φ nx125 x0 x1 x2 x4 s0 s1 s2 h) : bs_J l K_R_go R Φ 171 [(0, .ref x0), (1, .int x1), (2, .long x2), (4, .int x4)] [.long s2, .int s1, .ref s0] h := by
  unfold w_R_go_171 at hw
  obtain ⟨n, f, hx, hin, hw⟩ := hw
  refine bj_last (pc := 171) (n := n) (f := f) d_R_go_171 hx hin ?_
  refine bj_aload_n (pc := 172) 0 d_R_go_172 rfl rfl ?_
  obtain ⟨fs, v2, hx, hv, hw⟩ := hw
  refine bj_get (pc := 173) (ci := 7) (k := 12) (fs := fs) (v := .ref v2) d_R_go_173 rfl (by decide) q_760 hx hv ?_
  refine bj_iload (pc := 176) 3 d_R_go_176 rfl ?_
  refine bj_aload_n (pc := 178) 0 d_R_go_178 rfl rfl ?_
  obtain ⟨fs, v3, hx, hv, hw⟩ := hw
  refine bj_get (pc := 179) (ci := 7) (k := 4) (fs := fs) (v := .ref v3) d_R_go_179 rfl (by decide) q_752 hx hv ?_
  refine bj_iload_n (pc := 182) 1 d_R_go_182 rfl rfl ?_
  obtain ⟨n, f, v4, hx, hin, hv, hw⟩ := hw
  refine bj_iald (pc := 183) (n := n) (f := f) d_R_go_183 hx hin hv ?_
  refine bj_iconst (pc := 184) (v := 3) d_R_go_184 (by decide) ?_
  refine bj_icmp_ne (pc := 185) (tgt := 206) d_R_go_185 (by decide) (fun hc => ?_) (fun hc => ?_)
  · replace hw := hw.2 hc
    refine bj_aload_n (pc := 206) 0 d_R_go_206 rfl rfl ?_
    obtain ⟨fs, v5, hx, hv, hw⟩ := hw
    refine bj_get (pc := 207) (ci := 7) (k := 4) (fs := fs) (v := .ref v5) d_R_go_207 rfl (by decide) q_752 hx hv ?_
    refine bj_iload_n (pc := 210) 1 d_R_go_210 rfl rfl ?_
    obtain ⟨n, f, v6, hx, hin, hv, hw⟩ := hw
    refine bj_iald (pc := 211) (n := n) (f := f) d_R_go_211 hx hin hv ?_
    refine bj_bipush (pc := 212) (v := 6) d_R_go_212 (by decide) ?_
    refine bj_icmp_ne (pc := 214) (tgt := 235) d_R_go_214 (by decide) (fun hc => ?_) (fun hc => ?_)
    · replace hw := hw.2 hc
      refine bj_aload_n (pc := 235) 0 d_R_go_235 rfl rfl ?_
      obtain ⟨fs, v7, hx, hv, hw⟩ := hw
      refine bj_get (pc := 236) (ci := 7) (k := 12) (fs := fs) (v := .ref v7) d_R_go_236 rfl (by decide) q_760 hx hv ?_
      refine bj_iload (pc := 239) 3 d_R_go_239 rfl ?_
      obtain ⟨n, f, v8, hx, hin, hv, hw⟩ := hw
      refine bj_lald (pc := 241) (n := n) (f := f) d_R_go_241 hx hin hv ?_
      exact m_R_go_242 hR hnx125 hw
    · replace hw := hw.1 hc
      refine bj_aload_n (pc := 217) 0 d_R_go_217 rfl rfl ?_
      obtain ⟨fs, v9, hx, hv, hw⟩ := hw
      refine bj_get (pc := 218) (ci := 7) (k := 12) (fs := fs) (v := .ref v9) d_R_go_218 rfl (by decide) q_760 hx hv ?_
      refine bj_iload (pc := 221) 3 d_R_go_221 rfl ?_
      obtain ⟨n, f, v10, hx, hin, hv, hw⟩ := hw
      refine bj_lald (pc := 223) (n := n) (f := f) d_R_go_223 hx hin hv ?_
      refine bj_aload_n (pc := 224) 0 d_R_go_224 rfl rfl ?_
      obtain ⟨fs, v11, hx, hv, hw⟩ := hw
      refine bj_get (pc := 225) (ci := 7) (k := 10) (fs := fs) (v := .ref v11) d_R_go_225 rfl (by decide) q_758 hx hv ?_
      refine bj_iload (pc := 228) 3 d_R_go_228 rfl ?_
      obtain ⟨n, f, v12, hx, hin, hv, hw⟩ := hw
      refine bj_lald (pc := 230) (n := n) (f := f) d_R_go_230 hx hin hv ?_
      refine bj_lor (pc := 231) d_R_go_231 ?_
      refine bj_goto (pc := 232) (tgt := 242) d_R_go_232 (by decide) ?_
      exact m_R_go_242 hR hnx125 hw
  · replace hw := hw.1 hc
    refine bj_aload_n (pc := 188) 0 d_R_go_188 rfl rfl ?_
    obtain ⟨fs, v13, hx, hv, hw⟩ := hw
    refine bj_get (pc := 189) (ci := 7) (k := 12) (fs := fs) (v := .ref v13) d_R_go_189 rfl (by decide) q_760 hx hv ?_
    refine bj_iload (pc := 192) 3 d_R_go_192 rfl ?_
    obtain ⟨n, f, v14, hx, hin, hv, hw⟩ := hw
    refine bj_lald (pc := 194) (n := n) (f := f) d_R_go_194 hx hin hv ?_
    refine bj_aload_n (pc := 195) 0 d_R_go_195 rfl rfl ?_
    obtain ⟨fs, v15, hx, hv, hw⟩ := hw
    refine bj_get (pc := 196) (ci := 7) (k := 11) (fs := fs) (v := .ref v15) d_R_go_196 rfl (by decide) q_759 hx hv ?_
    refine bj_iload (pc := 199) 3 d_R_go_199 rfl ?_
    obtain ⟨n, f, v16, hx, hin, hv, hw⟩ := hw
    refine bj_lald (pc := 201) (n := n) (f := f) d_R_go_201 hx hin hv ?_
    refine bj_lor (pc := 202) d_R_go_202 ?_
    refine bj_goto (pc := 203) (tgt := 242) d_R_go_203 (by decide) ?_
    exact m_R_go_242 hR hnx125 hw
theorem m_R_go_164 {l : Launch} {R : Room} {Φ : bs_R → bs_H → Prop} (hR : bs_rm 3 R) {nx125 : Nat → Int32 → Int64 → Int32 → bs_H → Prop} (hnx125 : ∀ (x0 : Nat) (x1 : Int32) (x2 : Int64) (x4 : Int32) (h : bs_H), nx125 x0 x1 x2 x4 h → bs_J l K_R_go R Φ 125 [(0, .ref x0), (1, .int x1), (2, .long x2), (4, .int x4)] [] h) {x0 : Nat} {x1 : Int32} {x2 : Int64} {x4 : Int32} {s0 : Nat} {s1 : Int32} {h : bs_H} (hw : w_R_go_164 Φ nx125 x0 x1 x2 x4 s0 s1 h) : bs_J l K_R_go R Φ 164 [(0, .ref x0), (1, .int x1), (2, .long x2), (4, .int x4)] [.int s1, .ref s0] h := by
  unfold w_R_go_164 at hw
  refine bj_aload_n (pc := 164) 0 d_R_go_164 rfl rfl ?_
  obtain ⟨fs, v1, hx, hv, hw⟩ := hw
  refine bj_get (pc := 165) (ci := 7) (k := 11) (fs := fs) (v := .ref v1) d_R_go_165 rfl (by decide) q_759 hx hv ?_
  refine bj_iload (pc := 168) 3 d_R_go_168 rfl ?_
  obtain ⟨n, f, v2, hx, hin, hv, hw⟩ := hw
  refine bj_lald (pc := 170) (n := n) (f := f) d_R_go_170 hx hin hv ?_
  exact m_R_go_171 hR hnx125 hw
theorem m_R_go_125 {l : Launch} {R : Room} {Φ : bs_R → bs_H → Prop} (hR : bs_rm 3 R) : ∀ (n : Nat) (x0 : Nat) (x1 : Int32) (x2 : Int64) (x4 : Int32) (h : bs_H), w_R_go_125 Φ n x0 x1 x2 x4 h → bs_J l K_R_go R Φ 125 [(0, .ref x0), (1, .int x1), (2, .long x2), (4, .int x4)] [] h := by
  intro n
  induction n with
  | zero => intro x0 x1 x2 x4 h hw; exact hw.elim
  | succ n ih =>
    have hnx125 := ih
    intro x0 x1 x2 x4 h hw
    replace hw : w_R_go_125_s Φ (w_R_go_125 Φ n) x0 x1 x2 x4 h := hw
    unfold w_R_go_125_s at hw
    refine bj_iload (pc := 125) 3 d_R_go_125 rfl ?_
    refine bj_aload_n (pc := 127) 0 d_R_go_127 rfl rfl ?_
    obtain ⟨fs, v1, hx, hv, hw⟩ := hw
    refine bj_get (pc := 128) (ci := 7) (k := 1) (fs := fs) (v := .int v1) d_R_go_128 rfl (by decide) q_749 hx hv ?_
    refine bj_icmp_ge (pc := 131) (tgt := 291) d_R_go_131 (by decide) (fun hc => ?_) (fun hc => ?_)
    · replace hw := hw.1 hc
      refine bj_sub [] (lo' := []) rfl ?_
      exact m_R_go_291 hR hw
    · replace hw := hw.2 hc
      refine bj_aload_n (pc := 134) 0 d_R_go_134 rfl rfl ?_
      obtain ⟨fs, v2, hx, hv, hw⟩ := hw
      refine bj_get (pc := 135) (ci := 7) (k := 11) (fs := fs) (v := .ref v2) d_R_go_135 rfl (by decide) q_759 hx hv ?_
      refine bj_iload (pc := 138) 3 d_R_go_138 rfl ?_
      refine bj_aload_n (pc := 140) 0 d_R_go_140 rfl rfl ?_
      obtain ⟨fs, v3, hx, hv, hw⟩ := hw
      refine bj_get (pc := 141) (ci := 7) (k := 4) (fs := fs) (v := .ref v3) d_R_go_141 rfl (by decide) q_752 hx hv ?_
      refine bj_iload_n (pc := 144) 1 d_R_go_144 rfl rfl ?_
      obtain ⟨n, f, v4, hx, hin, hv, hw⟩ := hw
      refine bj_iald (pc := 145) (n := n) (f := f) d_R_go_145 hx hin hv ?_
      refine bj_iconst (pc := 146) (v := 2) d_R_go_146 (by decide) ?_
      refine bj_icmp_ne (pc := 147) (tgt := 164) d_R_go_147 (by decide) (fun hc => ?_) (fun hc => ?_)
      · replace hw := hw.2 hc
        exact m_R_go_164 hR hnx125 hw
      · replace hw := hw.1 hc
        refine bj_aload_n (pc := 150) 0 d_R_go_150 rfl rfl ?_
        refine bj_lload_n (pc := 151) 2 d_R_go_151 rfl rfl ?_
        refine bj_iload (pc := 152) 3 d_R_go_152 rfl ?_
        obtain ⟨⟨fs, hx⟩, hw⟩ := hw
        refine bj_callV (pc := 154) (np := 2) (K' := K_R_isIn) (argsL := [.long x2, .int x4]) (st := [.int x4, .ref v2]) (d1 := 1) (ci := 7) (fs := fs) rfl d_R_go_154 (Or.inl q_915) q_917 rfl q_36 c_R_isIn n_R_isIn hR (by decide) (by decide) rfl (Nat.le_of_ble_eq_true rfl) rfl (Nat.le_of_ble_eq_true rfl) hx (fun R' hR' => m_R_isIn hR' hw) (bs_kI_ok fun v5 h6 hw => ?_) (fun _ _ z => z)
        refine bj_if_ne (pc := 157) (tgt := 164) d_R_go_157 (by decide) (fun hc => ?_) (fun hc => ?_)
        · replace hw := hw.2 hc
          exact m_R_go_164 hR hnx125 hw
        · replace hw := hw.1 hc
          refine bj_lconst (pc := 160) (v := 0) d_R_go_160 (by decide) ?_
          refine bj_goto (pc := 161) (tgt := 171) d_R_go_161 (by decide) ?_
          exact m_R_go_171 hR hnx125 hw
theorem m_R_go_86 {l : Launch} {R : Room} {Φ : bs_R → bs_H → Prop} (hR : bs_rm 3 R) {s0 : Nat} {s1 : Int32} {s2 : Int32} {h : bs_H} (hw : w_R_go_86 Φ s0 s1 s2 h) : bs_J l K_R_go R Φ 86 [] [.int s2, .int s1, .ref s0] h := by
  unfold w_R_go_86 at hw
  obtain ⟨⟨fs, hx⟩, hw⟩ := hw
  refine bj_callV (pc := 86) (np := 2) (K' := K_R_moveBits) (argsL := [.int s1, .int s2]) (st := []) (d1 := 1) (ci := 7) (fs := fs) rfl d_R_go_86 (Or.inl q_931) q_933 rfl q_39 c_R_moveBits n_R_moveBits hR (by decide) (by decide) rfl (Nat.le_of_ble_eq_true rfl) rfl (Nat.le_of_ble_eq_true rfl) hx (fun R' hR' => m_R_moveBits hR' hw) (bs_kV_ok fun h1 hw => ?_) (fun _ _ z => z)
  refine bj_goto (pc := 89) (tgt := 291) d_R_go_89 (by decide) ?_
  exact m_R_go_291 hR hw
theorem m_R_go {l : Launch} {R : Room} (hR : bs_rm 3 R) {Φ : bs_R → bs_H → Prop} {x0 : Nat} {x1 : Int32} {h : bs_H} (hw : w_R_go Φ x0 x1 h) : bs_J l K_R_go R Φ 0 [(0, .ref x0), (1, .int x1)] [] h := by
  unfold w_R_go at hw
  refine bj_aload_n (pc := 0) 0 d_R_go_0 rfl rfl ?_
  obtain ⟨fs, v1, hx, hv, hw⟩ := hw
  refine bj_get (pc := 1) (ci := 7) (k := 6) (fs := fs) (v := .ref v1) d_R_go_1 rfl (by decide) q_754 hx hv ?_
  refine bj_iload_n (pc := 4) 1 d_R_go_4 rfl rfl ?_
  obtain ⟨n, f, v2, hx, hin, hv, hw⟩ := hw
  refine bj_lald (pc := 5) (n := n) (f := f) d_R_go_5 hx hin hv ?_
  refine bj_lstore_n (pc := 6) (lo' := [(2, .long v2), (0, .ref x0), (1, .int x1)]) d_R_go_6 rfl (by decide) rfl ?_
  refine bj_aload_n (pc := 7) 1 d_R_go_7 rfl rfl ?_
  obtain ⟨fs, v3, hx, hv, hw⟩ := hw
  refine bj_get (pc := 8) (ci := 7) (k := 4) (fs := fs) (v := .ref v3) d_R_go_8 rfl (by decide) q_752 hx hv ?_
  refine bj_iload_n (pc := 11) 2 d_R_go_11 rfl rfl ?_
  obtain ⟨n, f, v4, hx, hin, hv, hw⟩ := hw
  refine bj_iald (pc := 12) (n := n) (f := f) d_R_go_12 hx hin hv ?_
  by_cases hc0 : v4 = 0
  · replace hw := hw.1 hc0
    refine bj_tableIn (pc := 13) (tgt := 64) d_R_go_13 (by rw [hc0]; decide) (by rw [hc0]; decide) (by rw [hc0]; rfl) (by decide) ?_
    refine bj_aload_n (pc := 64) 1 d_R_go_64 rfl rfl ?_
    refine bj_aload_n (pc := 65) 1 d_R_go_65 rfl rfl ?_
    obtain ⟨fs, v5, hx, hv, hw⟩ := hw
    refine bj_get (pc := 66) (ci := 7) (k := 5) (fs := fs) (v := .ref v5) d_R_go_66 rfl (by decide) q_753 hx hv ?_
    refine bj_iload_n (pc := 69) 2 d_R_go_69 rfl rfl ?_
    obtain ⟨n, f, v6, hx, hin, hv, hw⟩ := hw
    refine bj_iald (pc := 70) (n := n) (f := f) d_R_go_70 hx hin hv ?_
    refine bj_aload_n (pc := 71) 1 d_R_go_71 rfl rfl ?_
    obtain ⟨fs, v7, hx, hv, hw⟩ := hw
    refine bj_get (pc := 72) (ci := 7) (k := 4) (fs := fs) (v := .ref v7) d_R_go_72 rfl (by decide) q_752 hx hv ?_
    refine bj_iload_n (pc := 75) 2 d_R_go_75 rfl rfl ?_
    obtain ⟨n, f, v8, hx, hin, hv, hw⟩ := hw
    refine bj_iald (pc := 76) (n := n) (f := f) d_R_go_76 hx hin hv ?_
    refine bj_iconst (pc := 77) (v := 1) d_R_go_77 (by decide) ?_
    refine bj_icmp_ne (pc := 78) (tgt := 85) d_R_go_78 (by decide) (fun hc => ?_) (fun hc => ?_)
    · replace hw := hw.2 hc
      refine bj_iconst (pc := 85) (v := 0) d_R_go_85 (by decide) ?_
      refine bj_sub [] (lo' := []) rfl ?_
      exact m_R_go_86 hR hw
    · replace hw := hw.1 hc
      refine bj_iconst (pc := 81) (v := 1) d_R_go_81 (by decide) ?_
      refine bj_goto (pc := 82) (tgt := 86) d_R_go_82 (by decide) ?_
      refine bj_sub [] (lo' := []) rfl ?_
      exact m_R_go_86 hR hw
  replace hw := hw.2 hc0
  by_cases hc1 : v4 = 1
  · replace hw := hw.1 hc1
    refine bj_tableIn (pc := 13) (tgt := 64) d_R_go_13 (by rw [hc1]; decide) (by rw [hc1]; decide) (by rw [hc1]; rfl) (by decide) ?_
    refine bj_aload_n (pc := 64) 1 d_R_go_64 rfl rfl ?_
    refine bj_aload_n (pc := 65) 1 d_R_go_65 rfl rfl ?_
    obtain ⟨fs, v9, hx, hv, hw⟩ := hw
    refine bj_get (pc := 66) (ci := 7) (k := 5) (fs := fs) (v := .ref v9) d_R_go_66 rfl (by decide) q_753 hx hv ?_
    refine bj_iload_n (pc := 69) 2 d_R_go_69 rfl rfl ?_
    obtain ⟨n, f, v10, hx, hin, hv, hw⟩ := hw
    refine bj_iald (pc := 70) (n := n) (f := f) d_R_go_70 hx hin hv ?_
    refine bj_aload_n (pc := 71) 1 d_R_go_71 rfl rfl ?_
    obtain ⟨fs, v11, hx, hv, hw⟩ := hw
    refine bj_get (pc := 72) (ci := 7) (k := 4) (fs := fs) (v := .ref v11) d_R_go_72 rfl (by decide) q_752 hx hv ?_
    refine bj_iload_n (pc := 75) 2 d_R_go_75 rfl rfl ?_
    obtain ⟨n, f, v12, hx, hin, hv, hw⟩ := hw
    refine bj_iald (pc := 76) (n := n) (f := f) d_R_go_76 hx hin hv ?_
    refine bj_iconst (pc := 77) (v := 1) d_R_go_77 (by decide) ?_
    refine bj_icmp_ne (pc := 78) (tgt := 85) d_R_go_78 (by decide) (fun hc => ?_) (fun hc => ?_)
    · replace hw := hw.2 hc
      refine bj_iconst (pc := 85) (v := 0) d_R_go_85 (by decide) ?_
      refine bj_sub [] (lo' := []) rfl ?_
      exact m_R_go_86 hR hw
    · replace hw := hw.1 hc
      refine bj_iconst (pc := 81) (v := 1) d_R_go_81 (by decide) ?_
      refine bj_goto (pc := 82) (tgt := 86) d_R_go_82 (by decide) ?_
      refine bj_sub [] (lo' := []) rfl ?_
      exact m_R_go_86 hR hw
  replace hw := hw.2 hc1
  by_cases hc5 : v4 = 5
  · replace hw := hw.1 hc5
    refine bj_tableIn (pc := 13) (tgt := 92) d_R_go_13 (by rw [hc5]; decide) (by rw [hc5]; decide) (by rw [hc5]; rfl) (by decide) ?_
    refine bj_aload_n (pc := 92) 1 d_R_go_92 rfl rfl ?_
    refine bj_aload_n (pc := 93) 1 d_R_go_93 rfl rfl ?_
    obtain ⟨fs, v13, hx, hv, hw⟩ := hw
    refine bj_get (pc := 94) (ci := 7) (k := 5) (fs := fs) (v := .ref v13) d_R_go_94 rfl (by decide) q_753 hx hv ?_
    refine bj_iload_n (pc := 97) 2 d_R_go_97 rfl rfl ?_
    obtain ⟨n, f, v14, hx, hin, hv, hw⟩ := hw
    refine bj_iald (pc := 98) (n := n) (f := f) d_R_go_98 hx hin hv ?_
    refine bj_lload_n (pc := 99) 0 d_R_go_99 rfl rfl ?_
    obtain ⟨⟨fs, hx⟩, hw⟩ := hw
    refine bj_callV (pc := 100) (np := 2) (K' := K_R_swapBits) (argsL := [.int v14, .long v2]) (st := []) (d1 := 2) (ci := 7) (fs := fs) rfl d_R_go_100 (Or.inl q_935) q_937 rfl q_40 c_R_swapBits n_R_swapBits hR (by decide) (by decide) rfl (Nat.le_of_ble_eq_true rfl) rfl (Nat.le_of_ble_eq_true rfl) hx (fun R' hR' => m_R_swapBits hR' hw) (bs_kV_ok fun h15 hw => ?_) (fun _ _ z => z)
    refine bj_goto (pc := 103) (tgt := 291) d_R_go_103 (by decide) ?_
    refine bj_sub [] (lo' := []) rfl ?_
    exact m_R_go_291 hR hw
  replace hw := hw.2 hc5
  by_cases hc7 : v4 = 7
  · replace hw := hw.1 hc7
    refine bj_tableIn (pc := 13) (tgt := 106) d_R_go_13 (by rw [hc7]; decide) (by rw [hc7]; decide) (by rw [hc7]; rfl) (by decide) ?_
    refine bj_aload_n (pc := 106) 1 d_R_go_106 rfl rfl ?_
    refine bj_lload_n (pc := 107) 0 d_R_go_107 rfl rfl ?_
    obtain ⟨⟨fs, hx⟩, hw⟩ := hw
    refine bj_callV (pc := 108) (np := 1) (K' := K_R_gatherBits) (argsL := [.long v2]) (st := []) (d1 := 2) (ci := 7) (fs := fs) rfl d_R_go_108 (Or.inl q_939) q_941 rfl q_41 c_R_gatherBits n_R_gatherBits hR (by decide) (by decide) rfl (Nat.le_of_ble_eq_true rfl) rfl (Nat.le_of_ble_eq_true rfl) hx (fun R' hR' => m_R_gatherBits hR' hw) (bs_kV_ok fun h16 hw => ?_) (fun _ _ z => z)
    refine bj_goto (pc := 111) (tgt := 291) d_R_go_111 (by decide) ?_
    refine bj_sub [] (lo' := []) rfl ?_
    exact m_R_go_291 hR hw
  replace hw := hw.2 hc7
  by_cases hc8 : v4 = 8
  · replace hw := hw.1 hc8
    refine bj_tableIn (pc := 13) (tgt := 114) d_R_go_13 (by rw [hc8]; decide) (by rw [hc8]; decide) (by rw [hc8]; rfl) (by decide) ?_
    refine bj_aload_n (pc := 114) 1 d_R_go_114 rfl rfl ?_
    refine bj_lload_n (pc := 115) 0 d_R_go_115 rfl rfl ?_
    obtain ⟨⟨fs, hx⟩, hw⟩ := hw
    refine bj_callV (pc := 116) (np := 1) (K' := K_R_scatterBits) (argsL := [.long v2]) (st := []) (d1 := 2) (ci := 7) (fs := fs) rfl d_R_go_116 (Or.inl q_943) q_945 rfl q_42 c_R_scatterBits n_R_scatterBits hR (by decide) (by decide) rfl (Nat.le_of_ble_eq_true rfl) rfl (Nat.le_of_ble_eq_true rfl) hx (fun R' hR' => m_R_scatterBits hR' hw) (bs_kV_ok fun h17 hw => ?_) (fun _ _ z => z)
    refine bj_goto (pc := 119) (tgt := 291) d_R_go_119 (by decide) ?_
    refine bj_sub [] (lo' := []) rfl ?_
    exact m_R_go_291 hR hw
  replace hw := hw.2 hc8
  by_cases hc2 : v4 = 2
  · refine bj_tableIn (pc := 13) (tgt := 122) d_R_go_13 (by rw [hc2]; decide) (by rw [hc2]; decide) (by rw [hc2]; rfl) (by decide) ?_
    refine bj_iconst (pc := 122) (v := 0) d_R_go_122 (by decide) ?_
    refine bj_istore (pc := 123) (lo' := [(4, .int 0), (2, .long v2), (0, .ref x0), (1, .int x1)]) d_R_go_123 (by decide) rfl ?_
    refine bj_sub [2, 3, 1, 0] (lo' := [(0, .ref x0), (1, .int x1), (2, .long v2), (4, .int 0)]) rfl ?_
    exact m_R_go_125 hR 1000 _ _ _ _ _ hw
  by_cases hc3 : v4 = 3
  · refine bj_tableIn (pc := 13) (tgt := 122) d_R_go_13 (by rw [hc3]; decide) (by rw [hc3]; decide) (by rw [hc3]; rfl) (by decide) ?_
    refine bj_iconst (pc := 122) (v := 0) d_R_go_122 (by decide) ?_
    refine bj_istore (pc := 123) (lo' := [(4, .int 0), (2, .long v2), (0, .ref x0), (1, .int x1)]) d_R_go_123 (by decide) rfl ?_
    refine bj_sub [2, 3, 1, 0] (lo' := [(0, .ref x0), (1, .int x1), (2, .long v2), (4, .int 0)]) rfl ?_
    exact m_R_go_125 hR 1000 _ _ _ _ _ hw
  by_cases hc4 : v4 = 4
  · refine bj_tableIn (pc := 13) (tgt := 122) d_R_go_13 (by rw [hc4]; decide) (by rw [hc4]; decide) (by rw [hc4]; rfl) (by decide) ?_
    refine bj_iconst (pc := 122) (v := 0) d_R_go_122 (by decide) ?_
    refine bj_istore (pc := 123) (lo' := [(4, .int 0), (2, .long v2), (0, .ref x0), (1, .int x1)]) d_R_go_123 (by decide) rfl ?_
    refine bj_sub [2, 3, 1, 0] (lo' := [(0, .ref x0), (1, .int x1), (2, .long v2), (4, .int 0)]) rfl ?_
    exact m_R_go_125 hR 1000 _ _ _ _ _ hw
  by_cases hc6 : v4 = 6
  · refine bj_tableIn (pc := 13) (tgt := 122) d_R_go_13 (by rw [hc6]; decide) (by rw [hc6]; decide) (by rw [hc6]; rfl) (by decide) ?_
    refine bj_iconst (pc := 122) (v := 0) d_R_go_122 (by decide) ?_
    refine bj_istore (pc := 123) (lo' := [(4, .int 0), (2, .long v2), (0, .ref x0), (1, .int x1)]) d_R_go_123 (by decide) rfl ?_
    refine bj_sub [2, 3, 1, 0] (lo' := [(0, .ref x0), (1, .int x1), (2, .long v2), (4, .int 0)]) rfl ?_
    exact m_R_go_125 hR 1000 _ _ _ _ _ hw
  refine bj_tableOut (pc := 13) (tgt := 122) d_R_go_13 ?_ (by decide) ?_
  · have n0 := lv_neT (k := 0) (a := 0) hc0 (by decide) ; have n1 := lv_neT (k := 1) (a := 1) hc1 (by decide) ; have n2 := lv_neT (k := 2) (a := 2) hc2 (by decide) ; have n3 := lv_neT (k := 3) (a := 3) hc3 (by decide) ; have n4 := lv_neT (k := 4) (a := 4) hc4 (by decide) ; have n5 := lv_neT (k := 5) (a := 5) hc5 (by decide) ; have n6 := lv_neT (k := 6) (a := 6) hc6 (by decide) ; have n7 := lv_neT (k := 7) (a := 7) hc7 (by decide) ; have n8 := lv_neT (k := 8) (a := 8) hc8 (by decide) ; omega
  refine bj_iconst (pc := 122) (v := 0) d_R_go_122 (by decide) ?_
  refine bj_istore (pc := 123) (lo' := [(4, .int 0), (2, .long v2), (0, .ref x0), (1, .int x1)]) d_R_go_123 (by decide) rfl ?_
  refine bj_sub [2, 3, 1, 0] (lo' := [(0, .ref x0), (1, .int x1), (2, .long v2), (4, .int 0)]) rfl ?_
  exact m_R_go_125 hR 1000 _ _ _ _ _ hw
