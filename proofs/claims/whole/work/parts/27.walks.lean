set_option maxHeartbeats 1000000 in
theorem r_B_checksum {w : Wd} {K : Int64 → Wd → Prop} (h : RunL 1 M_B_more [.long 23, .long ((w.1 39 2).toInt64)] w (fun r2 w1 => RunL 1 M_B_more [.long r2, .long ((w1.1 39 11).toInt64)] w1 (fun r4 w3 => RunL 1 M_B_more [.long r4, .long (w3.2 39 3)] w3 (fun r6 w5 => E 1 M_B_checksum 29 [(0, .ref 39), (1, .long r6), (3, .int 0)] [] w5 (qL 1 K))))) : RunL 1 M_B_checksum [.ref 39] w K := by
  refine runs_of (L := [(0, .ref 39)]) rfl (Nat.le_of_ble_eq_true rfl) rfl ?_
  refine x_ldc2 (v := 23) d_B_checksum_0 mw_1400 ?_
  refine x_aload_n 0 d_B_checksum_3 rfl ?_
  refine x_getI 11 2 d_B_checksum_4 fg_11_16 rfl rfl (Nf_58 (by decide)) ?_
  refine x_i2l d_B_checksum_7 ?_
  refine x_callSL (st := []) M_B_more [.long 23, .long ((w.1 39 2).toInt64)] d_B_checksum_8 ml_11_284 cv_B_more rfl (Nat.le_of_ble_eq_true rfl) ⟨Nat.le_of_ble_eq_true rfl, Nat.le_of_ble_eq_true rfl⟩ ⟨rfl, rfl⟩ h (fun r2 w1 h => ?_)
  refine x_aload_n 0 d_B_checksum_11 rfl ?_
  refine x_getI 11 11 d_B_checksum_12 fg_11_98 rfl rfl (Nf_58 (by decide)) ?_
  refine x_i2l d_B_checksum_15 ?_
  refine x_callSL (st := []) M_B_more [.long r2, .long ((w1.1 39 11).toInt64)] d_B_checksum_16 ml_11_284 cv_B_more rfl (Nat.le_of_ble_eq_true rfl) ⟨Nat.le_of_ble_eq_true rfl, Nat.le_of_ble_eq_true rfl⟩ ⟨rfl, rfl⟩ h (fun r4 w3 h => ?_)
  refine x_aload_n 0 d_B_checksum_19 rfl ?_
  refine x_getL 11 3 d_B_checksum_20 fg_11_19 rfl rfl (Nf_58 (by decide)) ?_
  refine x_callSL (st := []) M_B_more [.long r4, .long (w3.2 39 3)] d_B_checksum_23 ml_11_284 cv_B_more rfl (Nat.le_of_ble_eq_true rfl) ⟨Nat.le_of_ble_eq_true rfl, Nat.le_of_ble_eq_true rfl⟩ ⟨rfl, rfl⟩ h (fun r6 w5 h => ?_)
  refine x_lstore_n (L' := [(0, .ref 39), (1, .long r6)]) [1, 0] d_B_checksum_26 (by decide) rfl ?_
  refine x_iconst (v := 0) d_B_checksum_27 (by decide) ?_
  refine x_istore_n (L' := [(0, .ref 39), (1, .long r6), (3, .int 0)]) [1, 2, 0] d_B_checksum_28 (by decide) rfl ?_
  exact h
set_option maxHeartbeats 1000000 in
theorem w_B_checksum_29 {x3 : Int32} {y1 : Int64} {w : Wd} {K : Int64 → Wd → Prop} (h : (6 ≤ x3 → RunV 1 M_B_counts [.ref 39, .ref 40, .int 6] w (fun w1 => E 1 M_B_checksum 64 [(0, .ref 39), (1, .long y1), (3, .int 1)] [] w1 (qL 1 K))) ∧ (¬ 6 ≤ x3 → vp_in x3 6 ∧ RunL 1 M_B_more [.long y1, .long (w.2 40 x3.toNatClampNeg)] w (fun r3 w2 => ∀ a4 : Int32, a4 = x3 + 1 → E 1 M_B_checksum 29 [(0, .ref 39), (1, .long r3), (3, .int a4)] [] w2 (qL 1 K)))) : E 1 M_B_checksum 29 [(0, .ref 39), (1, .long y1), (3, .int x3)] [] w (qL 1 K) := by
  refine x_iload_n 2 d_B_checksum_29 rfl ?_
  refine x_bipush (v := 6) d_B_checksum_30 (by decide) ?_
  refine x_icmp_ge 52 d_B_checksum_32 (by decide) (fun c0 => ?_) (fun c0 => ?_)
  · have h := h.1 c0
    refine x_aload_n 0 d_B_checksum_52 rfl ?_
    refine x_aload_n 0 d_B_checksum_53 rfl ?_
    refine x_getR 11 4 40 d_B_checksum_54 fg_11_23 rfl rfl rfl (Nf_58 (by decide)) ?_
    refine x_bipush (v := 6) d_B_checksum_57 (by decide) ?_
    refine x_callVV (st := []) M_B_counts [.ref 40, .int 6] d_B_checksum_59 ml_11_181 cv_B_counts rfl rfl (Nf_58 (by decide)) rfl (Nat.le_of_ble_eq_true rfl) ⟨Nat.le_of_ble_eq_true rfl, Nat.le_of_ble_eq_true rfl⟩ ⟨rfl, rfl⟩ h (fun w1 h => ?_)
    refine x_iconst (v := 1) d_B_checksum_62 (by decide) ?_
    refine x_istore_n (L' := [(0, .ref 39), (1, .long y1), (3, .int 1)]) [1, 2, 0] d_B_checksum_63 (by decide) rfl ?_
    exact h
  · have h := h.2 c0
    refine x_lload_n 1 d_B_checksum_35 rfl ?_
    refine x_aload_n 0 d_B_checksum_36 rfl ?_
    refine x_getR 11 4 40 d_B_checksum_37 fg_11_23 rfl rfl rfl (Nf_58 (by decide)) ?_
    refine x_iload_n 2 d_B_checksum_40 rfl ?_
    obtain ⟨h0, h⟩ := h
    refine x_lald d_B_checksum_41 rfl (Nf_58 (by decide)) h0 ?_
    refine x_callSL (st := []) M_B_more [.long y1, .long (w.2 40 x3.toNatClampNeg)] d_B_checksum_42 ml_11_284 cv_B_more rfl (Nat.le_of_ble_eq_true rfl) ⟨Nat.le_of_ble_eq_true rfl, Nat.le_of_ble_eq_true rfl⟩ ⟨rfl, rfl⟩ h (fun r3 w2 h => ?_)
    refine x_lstore_n (L' := [(0, .ref 39), (1, .long r3), (3, .int x3)]) [1, 0, 2] d_B_checksum_45 (by decide) rfl ?_
    obtain ⟨a4, ea4⟩ : ∃ z : Int32, z = x3 + 1 := ⟨_, rfl⟩
    have h := h a4 ea4
    refine x_iincE (L' := [(0, .ref 39), (1, .long r3), (3, .int a4)]) 2 [1, 2, 0] d_B_checksum_46 rfl ea4 (by decide) rfl ?_
    refine x_goto 29 d_B_checksum_49 (by decide) ?_
    exact h
set_option maxHeartbeats 1000000 in
theorem w_B_checksum_64 {x3 : Int32} {y1 : Int64} {w : Wd} {K : Int64 → Wd → Prop} (h : ((w.1 39 2) ≤ x3 → RunL 1 M_B_multipliers [.ref 39] w (fun r2 w1 => RunL 1 M_B_more [.long y1, .long r2] w1 (fun r4 w3 => RunI 1 M_B_symmetries [.ref 39] w3 (fun r6 w5 => RunL 1 M_B_more [.long r4, .long r6.toInt64] w5 (fun r8 w7 => RunV 1 M_B_canonicalOf [.ref 39, .ref 40, .int 0, .ref 51] w7 (fun w9 => E 1 M_B_checksum 124 [(0, .ref 39), (1, .long r8), (3, .int 0)] [] w9 (qL 1 K))))))) ∧ (¬ (w.1 39 2) ≤ x3 → vp_in x3 40 ∧ RunL 1 M_B_more [.long y1, .long ((w.1 48 x3.toNatClampNeg).toInt64)] w (fun r11 w10 => ∀ a12 : Int32, a12 = x3 + 1 → E 1 M_B_checksum 64 [(0, .ref 39), (1, .long r11), (3, .int a12)] [] w10 (qL 1 K)))) : E 1 M_B_checksum 64 [(0, .ref 39), (1, .long y1), (3, .int x3)] [] w (qL 1 K) := by
  refine x_iload_n 2 d_B_checksum_64 rfl ?_
  refine x_aload_n 0 d_B_checksum_65 rfl ?_
  refine x_getI 11 2 d_B_checksum_66 fg_11_16 rfl rfl (Nf_58 (by decide)) ?_
  refine x_icmp_ge 90 d_B_checksum_69 (by decide) (fun c0 => ?_) (fun c0 => ?_)
  · have h := h.1 c0
    refine x_lload_n 1 d_B_checksum_90 rfl ?_
    refine x_aload_n 0 d_B_checksum_91 rfl ?_
    refine x_callVL (st := [.long y1]) M_B_multipliers [] d_B_checksum_92 ml_11_288 cv_B_multipliers rfl rfl (Nf_58 (by decide)) rfl (Nat.le_of_ble_eq_true rfl) ⟨Nat.le_of_ble_eq_true rfl, Nat.le_of_ble_eq_true rfl⟩ ⟨rfl, rfl⟩ h (fun r2 w1 h => ?_)
    refine x_callSL (st := []) M_B_more [.long y1, .long r2] d_B_checksum_95 ml_11_284 cv_B_more rfl (Nat.le_of_ble_eq_true rfl) ⟨Nat.le_of_ble_eq_true rfl, Nat.le_of_ble_eq_true rfl⟩ ⟨rfl, rfl⟩ h (fun r4 w3 h => ?_)
    refine x_lstore_n (L' := [(0, .ref 39), (1, .long r4), (3, .int x3)]) [1, 0, 2] d_B_checksum_98 (by decide) rfl ?_
    refine x_lload_n 1 d_B_checksum_99 rfl ?_
    refine x_aload_n 0 d_B_checksum_100 rfl ?_
    refine x_callVI (st := [.long r4]) M_B_symmetries [] d_B_checksum_101 ml_11_292 cv_B_symmetries rfl rfl (Nf_58 (by decide)) rfl (Nat.le_of_ble_eq_true rfl) ⟨Nat.le_of_ble_eq_true rfl, Nat.le_of_ble_eq_true rfl⟩ ⟨rfl, rfl⟩ h (fun r6 w5 h => ?_)
    refine x_i2l d_B_checksum_104 ?_
    refine x_callSL (st := []) M_B_more [.long r4, .long r6.toInt64] d_B_checksum_105 ml_11_284 cv_B_more rfl (Nat.le_of_ble_eq_true rfl) ⟨Nat.le_of_ble_eq_true rfl, Nat.le_of_ble_eq_true rfl⟩ ⟨rfl, rfl⟩ h (fun r8 w7 h => ?_)
    refine x_lstore_n (L' := [(0, .ref 39), (1, .long r8), (3, .int x3)]) [1, 0, 2] d_B_checksum_108 (by decide) rfl ?_
    refine x_aload_n 0 d_B_checksum_109 rfl ?_
    refine x_aload_n 0 d_B_checksum_110 rfl ?_
    refine x_getR 11 4 40 d_B_checksum_111 fg_11_23 rfl rfl rfl (Nf_58 (by decide)) ?_
    refine x_iconst (v := 0) d_B_checksum_114 (by decide) ?_
    refine x_aload_n 0 d_B_checksum_115 rfl ?_
    refine x_getR 11 22 51 d_B_checksum_116 fg_11_59 rfl rfl rfl (Nf_58 (by decide)) ?_
    refine x_callVV (st := []) M_B_canonicalOf [.ref 40, .int 0, .ref 51] d_B_checksum_119 ml_11_205 cv_B_canonicalOf rfl rfl (Nf_58 (by decide)) rfl (Nat.le_of_ble_eq_true rfl) ⟨Nat.le_of_ble_eq_true rfl, Nat.le_of_ble_eq_true rfl⟩ ⟨rfl, rfl⟩ h (fun w9 h => ?_)
    refine x_iconst (v := 0) d_B_checksum_122 (by decide) ?_
    refine x_istore_n (L' := [(0, .ref 39), (1, .long r8), (3, .int 0)]) [1, 2, 0] d_B_checksum_123 (by decide) rfl ?_
    exact h
  · have h := h.2 c0
    refine x_lload_n 1 d_B_checksum_72 rfl ?_
    refine x_aload_n 0 d_B_checksum_73 rfl ?_
    refine x_getR 11 18 48 d_B_checksum_74 fg_11_50 rfl rfl rfl (Nf_58 (by decide)) ?_
    refine x_iload_n 2 d_B_checksum_77 rfl ?_
    obtain ⟨h0, h⟩ := h
    refine x_iald d_B_checksum_78 rfl (Nf_58 (by decide)) h0 ?_
    refine x_i2l d_B_checksum_79 ?_
    refine x_callSL (st := []) M_B_more [.long y1, .long ((w.1 48 x3.toNatClampNeg).toInt64)] d_B_checksum_80 ml_11_284 cv_B_more rfl (Nat.le_of_ble_eq_true rfl) ⟨Nat.le_of_ble_eq_true rfl, Nat.le_of_ble_eq_true rfl⟩ ⟨rfl, rfl⟩ h (fun r11 w10 h => ?_)
    refine x_lstore_n (L' := [(0, .ref 39), (1, .long r11), (3, .int x3)]) [1, 0, 2] d_B_checksum_83 (by decide) rfl ?_
    obtain ⟨a12, ea12⟩ : ∃ z : Int32, z = x3 + 1 := ⟨_, rfl⟩
    have h := h a12 ea12
    refine x_iincE (L' := [(0, .ref 39), (1, .long r11), (3, .int a12)]) 2 [1, 2, 0] d_B_checksum_84 rfl ea12 (by decide) rfl ?_
    refine x_goto 64 d_B_checksum_87 (by decide) ?_
    exact h
set_option maxHeartbeats 1000000 in
theorem w_B_checksum_124 {x3 : Int32} {y1 : Int64} {w : Wd} {K : Int64 → Wd → Prop} (h : ((w.1 39 19) ≤ x3 → RunI 1 M_B_designBlocks [.ref 39] w (fun r2 w1 => RunL 1 M_B_more [.long y1, .long r2.toInt64] w1 (fun r4 w3 => RunI 1 M_B_rankOf [.ref 39, .int 2] w3 (fun r6 w5 => RunL 1 M_B_more [.long r4, .long r6.toInt64] w5 (fun r8 w7 => K r8 w7))))) ∧ (¬ (w.1 39 19) ≤ x3 → vp_in x3 6 ∧ RunL 1 M_B_more [.long y1, .long (w.2 51 x3.toNatClampNeg)] w (fun r10 w9 => ∀ a11 : Int32, a11 = x3 + 1 → E 1 M_B_checksum 124 [(0, .ref 39), (1, .long r10), (3, .int a11)] [] w9 (qL 1 K)))) : E 1 M_B_checksum 124 [(0, .ref 39), (1, .long y1), (3, .int x3)] [] w (qL 1 K) := by
  refine x_iload_n 2 d_B_checksum_124 rfl ?_
  refine x_aload_n 0 d_B_checksum_125 rfl ?_
  refine x_getI 11 19 d_B_checksum_126 fg_11_188 rfl rfl (Nf_58 (by decide)) ?_
  refine x_icmp_ge 149 d_B_checksum_129 (by decide) (fun c0 => ?_) (fun c0 => ?_)
  · have h := h.1 c0
    refine x_lload_n 1 d_B_checksum_149 rfl ?_
    refine x_aload_n 0 d_B_checksum_150 rfl ?_
    refine x_callVI (st := [.long y1]) M_B_designBlocks [] d_B_checksum_151 ml_11_295 cv_B_designBlocks rfl rfl (Nf_58 (by decide)) rfl (Nat.le_of_ble_eq_true rfl) ⟨Nat.le_of_ble_eq_true rfl, Nat.le_of_ble_eq_true rfl⟩ ⟨rfl, rfl⟩ h (fun r2 w1 h => ?_)
    refine x_i2l d_B_checksum_154 ?_
    refine x_callSL (st := []) M_B_more [.long y1, .long r2.toInt64] d_B_checksum_155 ml_11_284 cv_B_more rfl (Nat.le_of_ble_eq_true rfl) ⟨Nat.le_of_ble_eq_true rfl, Nat.le_of_ble_eq_true rfl⟩ ⟨rfl, rfl⟩ h (fun r4 w3 h => ?_)
    refine x_lstore_n (L' := [(0, .ref 39), (1, .long r4), (3, .int x3)]) [1, 0, 2] d_B_checksum_158 (by decide) rfl ?_
    refine x_lload_n 1 d_B_checksum_159 rfl ?_
    refine x_aload_n 0 d_B_checksum_160 rfl ?_
    refine x_iconst (v := 2) d_B_checksum_161 (by decide) ?_
    refine x_callVI (st := [.long r4]) M_B_rankOf [.int 2] d_B_checksum_162 ml_11_222 cv_B_rankOf rfl rfl (Nf_58 (by decide)) rfl (Nat.le_of_ble_eq_true rfl) ⟨Nat.le_of_ble_eq_true rfl, Nat.le_of_ble_eq_true rfl⟩ ⟨rfl, rfl⟩ h (fun r6 w5 h => ?_)
    refine x_i2l d_B_checksum_165 ?_
    refine x_callSL (st := []) M_B_more [.long r4, .long r6.toInt64] d_B_checksum_166 ml_11_284 cv_B_more rfl (Nat.le_of_ble_eq_true rfl) ⟨Nat.le_of_ble_eq_true rfl, Nat.le_of_ble_eq_true rfl⟩ ⟨rfl, rfl⟩ h (fun r8 w7 h => ?_)
    exact x_retL d_B_checksum_169 rfl ⟨rfl, rfl⟩ h
  · have h := h.2 c0
    refine x_lload_n 1 d_B_checksum_132 rfl ?_
    refine x_aload_n 0 d_B_checksum_133 rfl ?_
    refine x_getR 11 22 51 d_B_checksum_134 fg_11_59 rfl rfl rfl (Nf_58 (by decide)) ?_
    refine x_iload_n 2 d_B_checksum_137 rfl ?_
    obtain ⟨h0, h⟩ := h
    refine x_lald d_B_checksum_138 rfl (Nf_58 (by decide)) h0 ?_
    refine x_callSL (st := []) M_B_more [.long y1, .long (w.2 51 x3.toNatClampNeg)] d_B_checksum_139 ml_11_284 cv_B_more rfl (Nat.le_of_ble_eq_true rfl) ⟨Nat.le_of_ble_eq_true rfl, Nat.le_of_ble_eq_true rfl⟩ ⟨rfl, rfl⟩ h (fun r10 w9 h => ?_)
    refine x_lstore_n (L' := [(0, .ref 39), (1, .long r10), (3, .int x3)]) [1, 0, 2] d_B_checksum_142 (by decide) rfl ?_
    obtain ⟨a11, ea11⟩ : ∃ z : Int32, z = x3 + 1 := ⟨_, rfl⟩
    have h := h a11 ea11
    refine x_iincE (L' := [(0, .ref 39), (1, .long r10), (3, .int a11)]) 2 [1, 2, 0] d_B_checksum_143 rfl ea11 (by decide) rfl ?_
    refine x_goto 124 d_B_checksum_146 (by decide) ?_
    exact h
set_option maxHeartbeats 1000000 in
theorem r_B_clearText {w : Wd} {K : Int32 → Wd → Prop} (h : ∀ a1 : Int32, a1 = w.1 39 10 → ∀ w2 : Wd, w2 = upI w 39 10 0 → K a1 w2) : RunI 1 M_B_clearText [.ref 39] w K := by
  refine runs_of (L := [(0, .ref 39)]) rfl (Nat.le_of_ble_eq_true rfl) rfl ?_
  refine x_aload_n 0 d_B_clearText_0 rfl ?_
  refine x_getI 11 10 d_B_clearText_1 fg_11_245 rfl rfl (Nf_58 (by decide)) ?_
  obtain ⟨a1, ea1⟩ : ∃ z : Int32, z = w.1 39 10 := ⟨_, rfl⟩
  have h := h a1 ea1
  refine x_istore_nE (L' := [(0, .ref 39), (1, .int a1)]) [1, 0] d_B_clearText_4 (by decide) ea1 rfl ?_
  refine x_aload_n 0 d_B_clearText_5 rfl ?_
  refine x_iconst (v := 0) d_B_clearText_6 (by decide) ?_
  refine x_putIE 11 10 d_B_clearText_7 fp_11_245 rfl rfl (Nf_58 (by decide)) (fun w2 ew2 => ?_)
  have h := h w2 ew2
  refine x_iload_n 1 d_B_clearText_10 rfl ?_
  exact x_retI d_B_clearText_11 rfl ⟨rfl, rfl⟩ h
set_option maxHeartbeats 1000000 in
theorem r_B_count {x1 : Int32} {w : Wd} {K : Int32 → Wd → Prop} (h : RunZ 1 M_B_in [.long x1.toInt64, .long 1, .long (((w.1 39 2) - 1).toInt64)] w (fun z2 w1 => (z2 = true → RunV 1 M_B_counts [.ref 39, .ref 40, .int 6] w1 (fun w3 => vp_in x1 40 ∧ K (w3.1 48 x1.toNatClampNeg) w3)) ∧ (z2 = false → K ((-1)) w1))) : RunI 1 M_B_count [.ref 39, .int x1] w K := by
  refine runs_of (L := [(0, .ref 39), (1, .int x1)]) rfl (Nat.le_of_ble_eq_true rfl) rfl ?_
  refine x_iload_n 1 d_B_count_0 rfl ?_
  refine x_i2l d_B_count_1 ?_
  refine x_lconst (v := 1) d_B_count_2 (by decide) ?_
  refine x_aload_n 0 d_B_count_3 rfl ?_
  refine x_getI 11 2 d_B_count_4 fg_11_16 rfl rfl (Nf_58 (by decide)) ?_
  refine x_iconst (v := 1) d_B_count_7 (by decide) ?_
  refine x_isub d_B_count_8 ?_
  refine x_i2l d_B_count_9 ?_
  refine x_callSZ (st := []) M_B_in [.long x1.toInt64, .long 1, .long (((w.1 39 2) - 1).toInt64)] d_B_count_10 ml_11_83 cv_B_in rfl (Nat.le_of_ble_eq_true rfl) ⟨Nat.le_of_ble_eq_true rfl, Nat.le_of_ble_eq_true rfl⟩ ⟨rfl, rfl⟩ h (fun z2 w1 h => ?_)
  refine x_zif_ne 18 d_B_count_13 (by decide) (fun c0 => ?_) (fun c0 => ?_)
  · have h := h.1 c0
    refine x_aload_n 0 d_B_count_18 rfl ?_
    refine x_aload_n 0 d_B_count_19 rfl ?_
    refine x_getR 11 4 40 d_B_count_20 fg_11_23 rfl rfl rfl (Nf_58 (by decide)) ?_
    refine x_bipush (v := 6) d_B_count_23 (by decide) ?_
    refine x_callVV (st := []) M_B_counts [.ref 40, .int 6] d_B_count_25 ml_11_181 cv_B_counts rfl rfl (Nf_58 (by decide)) rfl (Nat.le_of_ble_eq_true rfl) ⟨Nat.le_of_ble_eq_true rfl, Nat.le_of_ble_eq_true rfl⟩ ⟨rfl, rfl⟩ h (fun w3 h => ?_)
    refine x_aload_n 0 d_B_count_28 rfl ?_
    refine x_getR 11 18 48 d_B_count_29 fg_11_50 rfl rfl rfl (Nf_58 (by decide)) ?_
    refine x_iload_n 1 d_B_count_32 rfl ?_
    obtain ⟨h0, h⟩ := h
    refine x_iald d_B_count_33 rfl (Nf_58 (by decide)) h0 ?_
    exact x_retI d_B_count_34 rfl ⟨rfl, rfl⟩ h
  · have h := h.2 c0
    refine x_iconst (v := (-1)) d_B_count_16 (by decide) ?_
    exact x_retI d_B_count_17 rfl ⟨rfl, rfl⟩ h
set_option maxHeartbeats 1000000 in
theorem r_B_covered {w : Wd} {K : Int32 → Wd → Prop} (h : RunV 1 M_B_counts [.ref 39, .ref 40, .int 6] w (fun w1 => E 1 M_B_covered 14 [(0, .ref 39), (1, .int 0), (2, .int 1)] [] w1 (qI 1 K))) : RunI 1 M_B_covered [.ref 39] w K := by
  refine runs_of (L := [(0, .ref 39)]) rfl (Nat.le_of_ble_eq_true rfl) rfl ?_
  refine x_aload_n 0 d_B_covered_0 rfl ?_
  refine x_aload_n 0 d_B_covered_1 rfl ?_
  refine x_getR 11 4 40 d_B_covered_2 fg_11_23 rfl rfl rfl (Nf_58 (by decide)) ?_
  refine x_bipush (v := 6) d_B_covered_5 (by decide) ?_
  refine x_callVV (st := []) M_B_counts [.ref 40, .int 6] d_B_covered_7 ml_11_181 cv_B_counts rfl rfl (Nf_58 (by decide)) rfl (Nat.le_of_ble_eq_true rfl) ⟨Nat.le_of_ble_eq_true rfl, Nat.le_of_ble_eq_true rfl⟩ ⟨rfl, rfl⟩ h (fun w1 h => ?_)
  refine x_iconst (v := 0) d_B_covered_10 (by decide) ?_
  refine x_istore_n (L' := [(0, .ref 39), (1, .int 0)]) [1, 0] d_B_covered_11 (by decide) rfl ?_
  refine x_iconst (v := 1) d_B_covered_12 (by decide) ?_
  refine x_istore_n (L' := [(0, .ref 39), (1, .int 0), (2, .int 1)]) [1, 2, 0] d_B_covered_13 (by decide) rfl ?_
  exact h
set_option maxHeartbeats 1000000 in
theorem w_B_covered_14 {x1 x2 : Int32} {w : Wd} {K : Int32 → Wd → Prop} (h : ((w.1 39 2) ≤ x2 → K x1 w) ∧ (¬ (w.1 39 2) ≤ x2 → vp_in x2 40 ∧ ((w.1 48 x2.toNatClampNeg) ≤ 0 → ∀ a1 : Int32, a1 = x1 + 0 → ∀ a2 : Int32, a2 = x2 + 1 → E 1 M_B_covered 14 [(0, .ref 39), (1, .int a1), (2, .int a2)] [] w (qI 1 K)) ∧ (¬ (w.1 48 x2.toNatClampNeg) ≤ 0 → ∀ a3 : Int32, a3 = x1 + 1 → ∀ a4 : Int32, a4 = x2 + 1 → E 1 M_B_covered 14 [(0, .ref 39), (1, .int a3), (2, .int a4)] [] w (qI 1 K)))) : E 1 M_B_covered 14 [(0, .ref 39), (1, .int x1), (2, .int x2)] [] w (qI 1 K) := by
  refine x_iload_n 2 d_B_covered_14 rfl ?_
  refine x_aload_n 0 d_B_covered_15 rfl ?_
  refine x_getI 11 2 d_B_covered_16 fg_11_16 rfl rfl (Nf_58 (by decide)) ?_
  refine x_icmp_ge 45 d_B_covered_19 (by decide) (fun c0 => ?_) (fun c0 => ?_)
  · have h := h.1 c0
    refine x_iload_n 1 d_B_covered_45 rfl ?_
    exact x_retI d_B_covered_46 rfl ⟨rfl, rfl⟩ h
  · have h := h.2 c0
    refine x_iload_n 1 d_B_covered_22 rfl ?_
    refine x_aload_n 0 d_B_covered_23 rfl ?_
    refine x_getR 11 18 48 d_B_covered_24 fg_11_50 rfl rfl rfl (Nf_58 (by decide)) ?_
    refine x_iload_n 2 d_B_covered_27 rfl ?_
    obtain ⟨h0, h⟩ := h
    refine x_iald d_B_covered_28 rfl (Nf_58 (by decide)) h0 ?_
    refine x_if_le 36 d_B_covered_29 (by decide) (fun c0 => ?_) (fun c0 => ?_)
    · have h := h.1 c0
      refine x_iconst (v := 0) d_B_covered_36 (by decide) ?_
      refine x_iadd d_B_covered_37 ?_
      obtain ⟨a1, ea1⟩ : ∃ z : Int32, z = x1 + 0 := ⟨_, rfl⟩
      have h := h a1 ea1
      refine x_istore_nE (L' := [(0, .ref 39), (1, .int a1), (2, .int x2)]) [1, 0, 2] d_B_covered_38 (by decide) ea1 rfl ?_
      obtain ⟨a2, ea2⟩ : ∃ z : Int32, z = x2 + 1 := ⟨_, rfl⟩
      have h := h a2 ea2
      refine x_iincE (L' := [(0, .ref 39), (1, .int a1), (2, .int a2)]) 2 [1, 2, 0] d_B_covered_39 rfl ea2 (by decide) rfl ?_
      refine x_goto 14 d_B_covered_42 (by decide) ?_
      exact h
    · have h := h.2 c0
      refine x_iconst (v := 1) d_B_covered_32 (by decide) ?_
      refine x_goto 37 d_B_covered_33 (by decide) ?_
      refine x_iadd d_B_covered_37 ?_
      obtain ⟨a3, ea3⟩ : ∃ z : Int32, z = x1 + 1 := ⟨_, rfl⟩
      have h := h a3 ea3
      refine x_istore_nE (L' := [(0, .ref 39), (1, .int a3), (2, .int x2)]) [1, 0, 2] d_B_covered_38 (by decide) ea3 rfl ?_
      obtain ⟨a4, ea4⟩ : ∃ z : Int32, z = x2 + 1 := ⟨_, rfl⟩
      have h := h a4 ea4
      refine x_iincE (L' := [(0, .ref 39), (1, .int a3), (2, .int a4)]) 2 [1, 2, 0] d_B_covered_39 rfl ea4 (by decide) rfl ?_
      refine x_goto 14 d_B_covered_42 (by decide) ?_
      exact h
set_option maxHeartbeats 1000000 in
theorem r_B_lack {x1 : Int32} {w : Wd} {K : Int32 → Wd → Prop} (h : RunV 1 M_B_counts [.ref 39, .ref 40, .int 6] w (fun w1 => E 1 M_B_lack 14 [(0, .ref 39), (1, .int x1), (2, .int 0), (3, .int 1)] [] w1 (qI 1 K))) : RunI 1 M_B_lack [.ref 39, .int x1] w K := by
  refine runs_of (L := [(0, .ref 39), (1, .int x1)]) rfl (Nat.le_of_ble_eq_true rfl) rfl ?_
  refine x_aload_n 0 d_B_lack_0 rfl ?_
  refine x_aload_n 0 d_B_lack_1 rfl ?_
  refine x_getR 11 4 40 d_B_lack_2 fg_11_23 rfl rfl rfl (Nf_58 (by decide)) ?_
  refine x_bipush (v := 6) d_B_lack_5 (by decide) ?_
  refine x_callVV (st := []) M_B_counts [.ref 40, .int 6] d_B_lack_7 ml_11_181 cv_B_counts rfl rfl (Nf_58 (by decide)) rfl (Nat.le_of_ble_eq_true rfl) ⟨Nat.le_of_ble_eq_true rfl, Nat.le_of_ble_eq_true rfl⟩ ⟨rfl, rfl⟩ h (fun w1 h => ?_)
  refine x_iconst (v := 0) d_B_lack_10 (by decide) ?_
  refine x_istore_n (L' := [(0, .ref 39), (1, .int x1), (2, .int 0)]) [1, 2, 0] d_B_lack_11 (by decide) rfl ?_
  refine x_iconst (v := 1) d_B_lack_12 (by decide) ?_
  refine x_istore_n (L' := [(0, .ref 39), (1, .int x1), (2, .int 0), (3, .int 1)]) [1, 2, 3, 0] d_B_lack_13 (by decide) rfl ?_
  exact h
set_option maxHeartbeats 1000000 in
theorem w_B_lack_14 {x1 x2 x3 : Int32} {w : Wd} {K : Int32 → Wd → Prop} (h : ((w.1 39 2) ≤ x3 → K x2 w) ∧ (¬ (w.1 39 2) ≤ x3 → RunZ 1 M_B_has [.long (w.2 39 3), .int x3] w (fun z2 w1 => (z2 = false → vp_in x3 40 ∧ ((w1.1 48 x3.toNatClampNeg) ≤ x1 → vp_in x3 40 ∧ ∀ a3 : Int32, a3 = x2 + (x1 - (w1.1 48 x3.toNatClampNeg)) → ∀ a4 : Int32, a4 = x3 + 1 → E 1 M_B_lack 14 [(0, .ref 39), (1, .int x1), (2, .int a3), (3, .int a4)] [] w1 (qI 1 K)) ∧ (¬ (w1.1 48 x3.toNatClampNeg) ≤ x1 → vp_in x3 40 ∧ ∀ a5 : Int32, a5 = x2 + ((w1.1 48 x3.toNatClampNeg) - x1) → ∀ a6 : Int32, a6 = x3 + 1 → E 1 M_B_lack 14 [(0, .ref 39), (1, .int x1), (2, .int a5), (3, .int a6)] [] w1 (qI 1 K))) ∧ (z2 = true → vp_in x3 40 ∧ ((w1.1 48 x3.toNatClampNeg) ≤ 0 → vp_in x3 40 ∧ ∀ a7 : Int32, a7 = x2 + (0 - (w1.1 48 x3.toNatClampNeg)) → ∀ a8 : Int32, a8 = x3 + 1 → E 1 M_B_lack 14 [(0, .ref 39), (1, .int x1), (2, .int a7), (3, .int a8)] [] w1 (qI 1 K)) ∧ (¬ (w1.1 48 x3.toNatClampNeg) ≤ 0 → vp_in x3 40 ∧ ∀ a9 : Int32, a9 = x2 + ((w1.1 48 x3.toNatClampNeg) - 0) → ∀ a10 : Int32, a10 = x3 + 1 → E 1 M_B_lack 14 [(0, .ref 39), (1, .int x1), (2, .int a9), (3, .int a10)] [] w1 (qI 1 K)))))) : E 1 M_B_lack 14 [(0, .ref 39), (1, .int x1), (2, .int x2), (3, .int x3)] [] w (qI 1 K) := by
  refine x_iload_n 3 d_B_lack_14 rfl ?_
  refine x_aload_n 0 d_B_lack_15 rfl ?_
  refine x_getI 11 2 d_B_lack_16 fg_11_16 rfl rfl (Nf_58 (by decide)) ?_
  refine x_icmp_ge 81 d_B_lack_19 (by decide) (fun c0 => ?_) (fun c0 => ?_)
  · have h := h.1 c0
    refine x_iload_n 2 d_B_lack_81 rfl ?_
    exact x_retI d_B_lack_82 rfl ⟨rfl, rfl⟩ h
  · have h := h.2 c0
    refine x_aload_n 0 d_B_lack_22 rfl ?_
    refine x_getL 11 3 d_B_lack_23 fg_11_19 rfl rfl (Nf_58 (by decide)) ?_
    refine x_iload_n 3 d_B_lack_26 rfl ?_
    refine x_callSZ (st := []) M_B_has [.long (w.2 39 3), .int x3] d_B_lack_27 ml_11_134 cv_B_has rfl (Nat.le_of_ble_eq_true rfl) ⟨Nat.le_of_ble_eq_true rfl, Nat.le_of_ble_eq_true rfl⟩ ⟨rfl, rfl⟩ h (fun z2 w1 h => ?_)
    refine x_zif_eq 37 d_B_lack_30 (by decide) (fun c0 => ?_) (fun c0 => ?_)
    · have h := h.1 c0
      refine x_iload_n 1 d_B_lack_37 rfl ?_
      refine x_istore (L' := [(0, .ref 39), (1, .int x1), (2, .int x2), (3, .int x3), (4, .int x1)]) [1, 2, 3, 4, 0] d_B_lack_38 (by decide) rfl ?_
      refine x_iload_n 2 d_B_lack_40 rfl ?_
      refine x_aload_n 0 d_B_lack_41 rfl ?_
      refine x_getR 11 18 48 d_B_lack_42 fg_11_50 rfl rfl rfl (Nf_58 (by decide)) ?_
      refine x_iload_n 3 d_B_lack_45 rfl ?_
      obtain ⟨h0, h⟩ := h
      refine x_iald d_B_lack_46 rfl (Nf_58 (by decide)) h0 ?_
      refine x_iload 4 d_B_lack_47 rfl ?_
      refine x_icmp_le 64 d_B_lack_49 (by decide) (fun c0 => ?_) (fun c0 => ?_)
      · have h := h.1 c0
        refine x_iload 4 d_B_lack_64 rfl ?_
        refine x_aload_n 0 d_B_lack_66 rfl ?_
        refine x_getR 11 18 48 d_B_lack_67 fg_11_50 rfl rfl rfl (Nf_58 (by decide)) ?_
        refine x_iload_n 3 d_B_lack_70 rfl ?_
        obtain ⟨h0, h⟩ := h
        refine x_iald d_B_lack_71 rfl (Nf_58 (by decide)) h0 ?_
        refine x_isub d_B_lack_72 ?_
        refine x_iadd d_B_lack_73 ?_
        obtain ⟨a3, ea3⟩ : ∃ z : Int32, z = x2 + (x1 - (w1.1 48 x3.toNatClampNeg)) := ⟨_, rfl⟩
        have h := h a3 ea3
        refine x_istore_nE (L' := [(0, .ref 39), (1, .int x1), (2, .int a3), (3, .int x3), (4, .int x1)]) [1, 2, 0, 3, 4] d_B_lack_74 (by decide) ea3 rfl ?_
        obtain ⟨a4, ea4⟩ : ∃ z : Int32, z = x3 + 1 := ⟨_, rfl⟩
        have h := h a4 ea4
        refine x_iincE (L' := [(0, .ref 39), (1, .int x1), (2, .int a3), (3, .int a4), (4, .int x1)]) 3 [1, 2, 3, 0, 4] d_B_lack_75 rfl ea4 (by decide) rfl ?_
        refine x_goto 14 d_B_lack_78 (by decide) ?_
        exact x_perm [0, 1, 2, 3] rfl h
      · have h := h.2 c0
        refine x_aload_n 0 d_B_lack_52 rfl ?_
        refine x_getR 11 18 48 d_B_lack_53 fg_11_50 rfl rfl rfl (Nf_58 (by decide)) ?_
        refine x_iload_n 3 d_B_lack_56 rfl ?_
        obtain ⟨h0, h⟩ := h
        refine x_iald d_B_lack_57 rfl (Nf_58 (by decide)) h0 ?_
        refine x_iload 4 d_B_lack_58 rfl ?_
        refine x_isub d_B_lack_60 ?_
        refine x_goto 73 d_B_lack_61 (by decide) ?_
        refine x_iadd d_B_lack_73 ?_
        obtain ⟨a5, ea5⟩ : ∃ z : Int32, z = x2 + ((w1.1 48 x3.toNatClampNeg) - x1) := ⟨_, rfl⟩
        have h := h a5 ea5
        refine x_istore_nE (L' := [(0, .ref 39), (1, .int x1), (2, .int a5), (3, .int x3), (4, .int x1)]) [1, 2, 0, 3, 4] d_B_lack_74 (by decide) ea5 rfl ?_
        obtain ⟨a6, ea6⟩ : ∃ z : Int32, z = x3 + 1 := ⟨_, rfl⟩
        have h := h a6 ea6
        refine x_iincE (L' := [(0, .ref 39), (1, .int x1), (2, .int a5), (3, .int a6), (4, .int x1)]) 3 [1, 2, 3, 0, 4] d_B_lack_75 rfl ea6 (by decide) rfl ?_
        refine x_goto 14 d_B_lack_78 (by decide) ?_
        exact x_perm [0, 1, 2, 3] rfl h
    · have h := h.2 c0
      refine x_iconst (v := 0) d_B_lack_33 (by decide) ?_
      refine x_goto 38 d_B_lack_34 (by decide) ?_
      refine x_istore (L' := [(0, .ref 39), (1, .int x1), (2, .int x2), (3, .int x3), (4, .int 0)]) [1, 2, 3, 4, 0] d_B_lack_38 (by decide) rfl ?_
      refine x_iload_n 2 d_B_lack_40 rfl ?_
      refine x_aload_n 0 d_B_lack_41 rfl ?_
      refine x_getR 11 18 48 d_B_lack_42 fg_11_50 rfl rfl rfl (Nf_58 (by decide)) ?_
      refine x_iload_n 3 d_B_lack_45 rfl ?_
      obtain ⟨h0, h⟩ := h
      refine x_iald d_B_lack_46 rfl (Nf_58 (by decide)) h0 ?_
      refine x_iload 4 d_B_lack_47 rfl ?_
      refine x_icmp_le 64 d_B_lack_49 (by decide) (fun c0 => ?_) (fun c0 => ?_)
      · have h := h.1 c0
        refine x_iload 4 d_B_lack_64 rfl ?_
        refine x_aload_n 0 d_B_lack_66 rfl ?_
        refine x_getR 11 18 48 d_B_lack_67 fg_11_50 rfl rfl rfl (Nf_58 (by decide)) ?_
        refine x_iload_n 3 d_B_lack_70 rfl ?_
        obtain ⟨h0, h⟩ := h
        refine x_iald d_B_lack_71 rfl (Nf_58 (by decide)) h0 ?_
        refine x_isub d_B_lack_72 ?_
        refine x_iadd d_B_lack_73 ?_
        obtain ⟨a7, ea7⟩ : ∃ z : Int32, z = x2 + (0 - (w1.1 48 x3.toNatClampNeg)) := ⟨_, rfl⟩
        have h := h a7 ea7
        refine x_istore_nE (L' := [(0, .ref 39), (1, .int x1), (2, .int a7), (3, .int x3), (4, .int 0)]) [1, 2, 0, 3, 4] d_B_lack_74 (by decide) ea7 rfl ?_
        obtain ⟨a8, ea8⟩ : ∃ z : Int32, z = x3 + 1 := ⟨_, rfl⟩
        have h := h a8 ea8
        refine x_iincE (L' := [(0, .ref 39), (1, .int x1), (2, .int a7), (3, .int a8), (4, .int 0)]) 3 [1, 2, 3, 0, 4] d_B_lack_75 rfl ea8 (by decide) rfl ?_
        refine x_goto 14 d_B_lack_78 (by decide) ?_
        exact x_perm [0, 1, 2, 3] rfl h
      · have h := h.2 c0
        refine x_aload_n 0 d_B_lack_52 rfl ?_
        refine x_getR 11 18 48 d_B_lack_53 fg_11_50 rfl rfl rfl (Nf_58 (by decide)) ?_
        refine x_iload_n 3 d_B_lack_56 rfl ?_
        obtain ⟨h0, h⟩ := h
        refine x_iald d_B_lack_57 rfl (Nf_58 (by decide)) h0 ?_
        refine x_iload 4 d_B_lack_58 rfl ?_
        refine x_isub d_B_lack_60 ?_
        refine x_goto 73 d_B_lack_61 (by decide) ?_
        refine x_iadd d_B_lack_73 ?_
        obtain ⟨a9, ea9⟩ : ∃ z : Int32, z = x2 + ((w1.1 48 x3.toNatClampNeg) - 0) := ⟨_, rfl⟩
        have h := h a9 ea9
        refine x_istore_nE (L' := [(0, .ref 39), (1, .int x1), (2, .int a9), (3, .int x3), (4, .int 0)]) [1, 2, 0, 3, 4] d_B_lack_74 (by decide) ea9 rfl ?_
        obtain ⟨a10, ea10⟩ : ∃ z : Int32, z = x3 + 1 := ⟨_, rfl⟩
        have h := h a10 ea10
        refine x_iincE (L' := [(0, .ref 39), (1, .int x1), (2, .int a9), (3, .int a10), (4, .int 0)]) 3 [1, 2, 3, 0, 4] d_B_lack_75 rfl ea10 (by decide) rfl ?_
        refine x_goto 14 d_B_lack_78 (by decide) ?_
        exact x_perm [0, 1, 2, 3] rfl h
set_option maxHeartbeats 1000000 in
theorem r_B_deficiency {x1 : Int32} {w : Wd} {K : Int32 → Wd → Prop} (h : RunZ 1 M_B_in [.long x1.toInt64, .long 1, .long 20] w (fun z2 w1 => (z2 = false → K ((-1)) w1) ∧ (z2 = true → RunI 1 M_B_lack [.ref 39, .int x1] w1 (fun r4 w3 => K r4 w3)))) : RunI 1 M_B_deficiency [.ref 39, .int x1] w K := by
  refine runs_of (L := [(0, .ref 39), (1, .int x1)]) rfl (Nat.le_of_ble_eq_true rfl) rfl ?_
  refine x_iload_n 1 d_B_deficiency_0 rfl ?_
  refine x_i2l d_B_deficiency_1 ?_
  refine x_lconst (v := 1) d_B_deficiency_2 (by decide) ?_
  refine x_ldc2 (v := 20) d_B_deficiency_3 mw_1175 ?_
  refine x_callSZ (st := []) M_B_in [.long x1.toInt64, .long 1, .long 20] d_B_deficiency_6 ml_11_83 cv_B_in rfl (Nat.le_of_ble_eq_true rfl) ⟨Nat.le_of_ble_eq_true rfl, Nat.le_of_ble_eq_true rfl⟩ ⟨rfl, rfl⟩ h (fun z2 w1 h => ?_)
  refine x_zif_eq 20 d_B_deficiency_9 (by decide) (fun c0 => ?_) (fun c0 => ?_)
  · have h := h.1 c0
    refine x_iconst (v := (-1)) d_B_deficiency_20 (by decide) ?_
    exact x_retI d_B_deficiency_21 rfl ⟨rfl, rfl⟩ h
  · have h := h.2 c0
    refine x_aload_n 0 d_B_deficiency_12 rfl ?_
    refine x_iload_n 1 d_B_deficiency_13 rfl ?_
    refine x_callVI (st := []) M_B_lack [.int x1] d_B_deficiency_14 ml_11_164 cv_B_lack rfl rfl (Nf_58 (by decide)) rfl (Nat.le_of_ble_eq_true rfl) ⟨Nat.le_of_ble_eq_true rfl, Nat.le_of_ble_eq_true rfl⟩ ⟨rfl, rfl⟩ h (fun r4 w3 h => ?_)
    refine x_goto 21 d_B_deficiency_17 (by decide) ?_
    exact x_retI d_B_deficiency_21 rfl ⟨rfl, rfl⟩ h
set_option maxHeartbeats 1000000 in
theorem r_B_designBlock {x1 : Int32} {w : Wd} {K : Int64 → Wd → Prop} (h : RunV 1 M_B_develops [.ref 39] w (fun w1 => RunZ 1 M_B_in [.long x1.toInt64, .long 0, .long (((w1.1 39 23) - 1).toInt64)] w1 (fun z3 w2 => (z3 = false → K ((-1)) w2) ∧ (z3 = true → vp_in x1 240 ∧ K (w2.2 52 x1.toNatClampNeg) w2)))) : RunL 1 M_B_designBlock [.ref 39, .int x1] w K := by
  refine runs_of (L := [(0, .ref 39), (1, .int x1)]) rfl (Nat.le_of_ble_eq_true rfl) rfl ?_
  refine x_aload_n 0 d_B_designBlock_0 rfl ?_
  refine x_callVV (st := []) M_B_develops [] d_B_designBlock_1 ml_11_212 cv_B_develops rfl rfl (Nf_58 (by decide)) rfl (Nat.le_of_ble_eq_true rfl) ⟨Nat.le_of_ble_eq_true rfl, Nat.le_of_ble_eq_true rfl⟩ ⟨rfl, rfl⟩ h (fun w1 h => ?_)
  refine x_iload_n 1 d_B_designBlock_4 rfl ?_
  refine x_i2l d_B_designBlock_5 ?_
  refine x_lconst (v := 0) d_B_designBlock_6 (by decide) ?_
  refine x_aload_n 0 d_B_designBlock_7 rfl ?_
  refine x_getI 11 23 d_B_designBlock_8 fg_11_209 rfl rfl (Nf_58 (by decide)) ?_
  refine x_iconst (v := 1) d_B_designBlock_11 (by decide) ?_
  refine x_isub d_B_designBlock_12 ?_
  refine x_i2l d_B_designBlock_13 ?_
  refine x_callSZ (st := []) M_B_in [.long x1.toInt64, .long 0, .long (((w1.1 39 23) - 1).toInt64)] d_B_designBlock_14 ml_11_83 cv_B_in rfl (Nat.le_of_ble_eq_true rfl) ⟨Nat.le_of_ble_eq_true rfl, Nat.le_of_ble_eq_true rfl⟩ ⟨rfl, rfl⟩ h (fun z3 w2 h => ?_)
  refine x_zif_eq 29 d_B_designBlock_17 (by decide) (fun c0 => ?_) (fun c0 => ?_)
  · have h := h.1 c0
    refine x_ldc2 (v := (-1)) d_B_designBlock_29 mw_1184 ?_
    exact x_retL d_B_designBlock_32 rfl ⟨rfl, rfl⟩ h
  · have h := h.2 c0
    refine x_aload_n 0 d_B_designBlock_20 rfl ?_
    refine x_getR 11 24 52 d_B_designBlock_21 fg_11_62 rfl rfl rfl (Nf_58 (by decide)) ?_
    refine x_iload_n 1 d_B_designBlock_24 rfl ?_
    obtain ⟨h0, h⟩ := h
    refine x_lald d_B_designBlock_25 rfl (Nf_58 (by decide)) h0 ?_
    refine x_goto 32 d_B_designBlock_26 (by decide) ?_
    exact x_retL d_B_designBlock_32 rfl ⟨rfl, rfl⟩ h
set_option maxHeartbeats 1000000 in
theorem r_B_disjointBlocks {w : Wd} {K : Int32 → Wd → Prop} (h : RunV 1 M_B_develops [.ref 39] w (fun w1 => E 1 M_B_disjointBlocks 11 [(0, .ref 39), (1, .long 0), (3, .int 0), (4, .int 0)] [] w1 (qI 1 K))) : RunI 1 M_B_disjointBlocks [.ref 39] w K := by
  refine runs_of (L := [(0, .ref 39)]) rfl (Nat.le_of_ble_eq_true rfl) rfl ?_
  refine x_aload_n 0 d_B_disjointBlocks_0 rfl ?_
  refine x_callVV (st := []) M_B_develops [] d_B_disjointBlocks_1 ml_11_212 cv_B_develops rfl rfl (Nf_58 (by decide)) rfl (Nat.le_of_ble_eq_true rfl) ⟨Nat.le_of_ble_eq_true rfl, Nat.le_of_ble_eq_true rfl⟩ ⟨rfl, rfl⟩ h (fun w1 h => ?_)
  refine x_lconst (v := 0) d_B_disjointBlocks_4 (by decide) ?_
  refine x_lstore_n (L' := [(0, .ref 39), (1, .long 0)]) [1, 0] d_B_disjointBlocks_5 (by decide) rfl ?_
  refine x_iconst (v := 0) d_B_disjointBlocks_6 (by decide) ?_
  refine x_istore_n (L' := [(0, .ref 39), (1, .long 0), (3, .int 0)]) [1, 2, 0] d_B_disjointBlocks_7 (by decide) rfl ?_
  refine x_iconst (v := 0) d_B_disjointBlocks_8 (by decide) ?_
  refine x_istore (L' := [(0, .ref 39), (1, .long 0), (3, .int 0), (4, .int 0)]) [1, 2, 3, 0] d_B_disjointBlocks_9 (by decide) rfl ?_
  exact h
set_option maxHeartbeats 1000000 in
theorem w_B_disjointBlocks_11 {x3 x4 : Int32} {y1 : Int64} {w : Wd} {K : Int32 → Wd → Prop} (h : ((w.1 39 23) ≤ x4 → K x3 w) ∧ (¬ (w.1 39 23) ≤ x4 → vp_in x4 240 ∧ (¬ (y1 &&& (w.2 52 x4.toNatClampNeg)) = 0 → ∀ a1 : Int32, a1 = x4 + 1 → E 1 M_B_disjointBlocks 11 [(0, .ref 39), (1, .long y1), (3, .int x3), (4, .int a1)] [] w (qI 1 K)) ∧ ((y1 &&& (w.2 52 x4.toNatClampNeg)) = 0 → vp_in x4 240 ∧ ∀ b2 : Int64, b2 = y1 ||| (w.2 52 x4.toNatClampNeg) → ∀ a3 : Int32, a3 = x3 + 1 → ∀ a4 : Int32, a4 = x4 + 1 → E 1 M_B_disjointBlocks 11 [(0, .ref 39), (1, .long b2), (3, .int a3), (4, .int a4)] [] w (qI 1 K)))) : E 1 M_B_disjointBlocks 11 [(0, .ref 39), (1, .long y1), (3, .int x3), (4, .int x4)] [] w (qI 1 K) := by
  refine x_iload 3 d_B_disjointBlocks_11 rfl ?_
  refine x_aload_n 0 d_B_disjointBlocks_13 rfl ?_
  refine x_getI 11 23 d_B_disjointBlocks_14 fg_11_209 rfl rfl (Nf_58 (by decide)) ?_
  refine x_icmp_ge 53 d_B_disjointBlocks_17 (by decide) (fun c0 => ?_) (fun c0 => ?_)
  · have h := h.1 c0
    refine x_iload_n 2 d_B_disjointBlocks_53 rfl ?_
    exact x_retI d_B_disjointBlocks_54 rfl ⟨rfl, rfl⟩ h
  · have h := h.2 c0
    refine x_lload_n 1 d_B_disjointBlocks_20 rfl ?_
    refine x_aload_n 0 d_B_disjointBlocks_21 rfl ?_
    refine x_getR 11 24 52 d_B_disjointBlocks_22 fg_11_62 rfl rfl rfl (Nf_58 (by decide)) ?_
    refine x_iload 3 d_B_disjointBlocks_25 rfl ?_
    obtain ⟨h0, h⟩ := h
    refine x_lald d_B_disjointBlocks_27 rfl (Nf_58 (by decide)) h0 ?_
    refine x_land d_B_disjointBlocks_28 ?_
    refine x_lconst (v := 0) d_B_disjointBlocks_29 (by decide) ?_
    refine x_lif_ne 47 d_B_disjointBlocks_30 d_B_disjointBlocks_31 (by decide) (fun c0 => ?_) (fun c0 => ?_)
    · have h := h.1 c0
      obtain ⟨a1, ea1⟩ : ∃ z : Int32, z = x4 + 1 := ⟨_, rfl⟩
      have h := h a1 ea1
      refine x_iincE (L' := [(0, .ref 39), (1, .long y1), (3, .int x3), (4, .int a1)]) 3 [1, 2, 3, 0] d_B_disjointBlocks_47 rfl ea1 (by decide) rfl ?_
      refine x_goto 11 d_B_disjointBlocks_50 (by decide) ?_
      exact h
    · have h := h.2 c0
      refine x_lload_n 1 d_B_disjointBlocks_34 rfl ?_
      refine x_aload_n 0 d_B_disjointBlocks_35 rfl ?_
      refine x_getR 11 24 52 d_B_disjointBlocks_36 fg_11_62 rfl rfl rfl (Nf_58 (by decide)) ?_
      refine x_iload 3 d_B_disjointBlocks_39 rfl ?_
      obtain ⟨h0, h⟩ := h
      refine x_lald d_B_disjointBlocks_41 rfl (Nf_58 (by decide)) h0 ?_
      refine x_lor d_B_disjointBlocks_42 ?_
      obtain ⟨b2, eb2⟩ : ∃ z : Int64, z = y1 ||| (w.2 52 x4.toNatClampNeg) := ⟨_, rfl⟩
      have h := h b2 eb2
      refine x_lstore_nE (L' := [(0, .ref 39), (1, .long b2), (3, .int x3), (4, .int x4)]) [1, 0, 2, 3] d_B_disjointBlocks_43 (by decide) eb2 rfl ?_
      obtain ⟨a3, ea3⟩ : ∃ z : Int32, z = x3 + 1 := ⟨_, rfl⟩
      have h := h a3 ea3
      refine x_iincE (L' := [(0, .ref 39), (1, .long b2), (3, .int a3), (4, .int x4)]) 2 [1, 2, 0, 3] d_B_disjointBlocks_44 rfl ea3 (by decide) rfl ?_
      obtain ⟨a4, ea4⟩ : ∃ z : Int32, z = x4 + 1 := ⟨_, rfl⟩
      have h := h a4 ea4
      refine x_iincE (L' := [(0, .ref 39), (1, .long b2), (3, .int a3), (4, .int a4)]) 3 [1, 2, 3, 0] d_B_disjointBlocks_47 rfl ea4 (by decide) rfl ?_
      refine x_goto 11 d_B_disjointBlocks_50 (by decide) ?_
      exact h
set_option maxHeartbeats 1000000 in
theorem r_B_isElement {x1 : Int32} {w : Wd} {K : Bool → Wd → Prop} (h : RunZ 1 M_B_in [.long x1.toInt64, .long 0, .long (((w.1 39 2) - 1).toInt64)] w (fun z2 w1 => K z2 w1)) : RunZ 1 M_B_isElement [.ref 39, .int x1] w K := by
  refine runs_of (L := [(0, .ref 39), (1, .int x1)]) rfl (Nat.le_of_ble_eq_true rfl) rfl ?_
  refine x_iload_n 1 d_B_isElement_0 rfl ?_
  refine x_i2l d_B_isElement_1 ?_
  refine x_lconst (v := 0) d_B_isElement_2 (by decide) ?_
  refine x_aload_n 0 d_B_isElement_3 rfl ?_
  refine x_getI 11 2 d_B_isElement_4 fg_11_16 rfl rfl (Nf_58 (by decide)) ?_
  refine x_iconst (v := 1) d_B_isElement_7 (by decide) ?_
  refine x_isub d_B_isElement_8 ?_
  refine x_i2l d_B_isElement_9 ?_
  refine x_callSZ (st := []) M_B_in [.long x1.toInt64, .long 0, .long (((w.1 39 2) - 1).toInt64)] d_B_isElement_10 ml_11_83 cv_B_in rfl (Nat.le_of_ble_eq_true rfl) ⟨Nat.le_of_ble_eq_true rfl, Nat.le_of_ble_eq_true rfl⟩ ⟨rfl, rfl⟩ h (fun z2 w1 h => ?_)
  exact x_retZ d_B_isElement_13 rfl rfl ⟨rfl, rfl⟩ h
set_option maxHeartbeats 1000000 in
theorem r_B_exchange {x1 x2 x3 : Int32} {w : Wd} {K : Int32 → Wd → Prop} (h : RunZ 1 M_B_isBlock [.int x1] w (fun z2 w1 => (z2 = false → K ((-1)) w1) ∧ (z2 = true → RunZ 1 M_B_isElement [.ref 39, .int x2] w1 (fun z4 w3 => (z4 = false → K ((-1)) w3) ∧ (z4 = true → RunZ 1 M_B_isElement [.ref 39, .int x3] w3 (fun z6 w5 => (z6 = true → vp_in x1 6 ∧ RunZ 1 M_B_has [.long (w5.2 40 x1.toNatClampNeg), .int x2] w5 (fun z8 w7 => (z8 = false → K ((-3)) w7) ∧ (z8 = true → vp_in x1 6 ∧ RunZ 1 M_B_has [.long (w7.2 40 x1.toNatClampNeg), .int x3] w7 (fun z10 w9 => (z10 = false → vp_in x1 6 ∧ RunI 1 M_B_becomes [.ref 39, .int x1, .long (((w9.2 40 x1.toNatClampNeg) ^^^ (1 <<< (x2.toInt64 &&& 63))) ^^^ (1 <<< (x3.toInt64 &&& 63)))] w9 (fun r12 w11 => RunI 1 M_B_lack [.ref 39, .int 1] w11 (fun r14 w13 => K r14 w13))) ∧ (z10 = true → K ((-3)) w9))))) ∧ (z6 = false → K ((-1)) w5))))))) : RunI 1 M_B_exchange [.ref 39, .int x1, .int x2, .int x3] w K := by
  refine runs_of (L := [(0, .ref 39), (1, .int x1), (2, .int x2), (3, .int x3)]) rfl (Nat.le_of_ble_eq_true rfl) rfl ?_
  refine x_iload_n 1 d_B_exchange_0 rfl ?_
  refine x_callSZ (st := []) M_B_isBlock [.int x1] d_B_exchange_1 ml_11_147 cv_B_isBlock rfl (Nat.le_of_ble_eq_true rfl) ⟨Nat.le_of_ble_eq_true rfl, Nat.le_of_ble_eq_true rfl⟩ ⟨rfl, rfl⟩ h (fun z2 w1 h => ?_)
  refine x_zif_eq 23 d_B_exchange_4 (by decide) (fun c0 => ?_) (fun c0 => ?_)
  · have h := h.1 c0
    refine x_iconst (v := (-1)) d_B_exchange_23 (by decide) ?_
    exact x_retI d_B_exchange_24 rfl ⟨rfl, rfl⟩ h
  · have h := h.2 c0
    refine x_aload_n 0 d_B_exchange_7 rfl ?_
    refine x_iload_n 2 d_B_exchange_8 rfl ?_
    refine x_callVZ (st := []) M_B_isElement [.int x2] d_B_exchange_9 ml_11_121 cv_B_isElement rfl rfl (Nf_58 (by decide)) rfl (Nat.le_of_ble_eq_true rfl) ⟨Nat.le_of_ble_eq_true rfl, Nat.le_of_ble_eq_true rfl⟩ ⟨rfl, rfl⟩ h (fun z4 w3 h => ?_)
    refine x_zif_eq 23 d_B_exchange_12 (by decide) (fun c0 => ?_) (fun c0 => ?_)
    · have h := h.1 c0
      refine x_iconst (v := (-1)) d_B_exchange_23 (by decide) ?_
      exact x_retI d_B_exchange_24 rfl ⟨rfl, rfl⟩ h
    · have h := h.2 c0
      refine x_aload_n 0 d_B_exchange_15 rfl ?_
      refine x_iload_n 3 d_B_exchange_16 rfl ?_
      refine x_callVZ (st := []) M_B_isElement [.int x3] d_B_exchange_17 ml_11_121 cv_B_isElement rfl rfl (Nf_58 (by decide)) rfl (Nat.le_of_ble_eq_true rfl) ⟨Nat.le_of_ble_eq_true rfl, Nat.le_of_ble_eq_true rfl⟩ ⟨rfl, rfl⟩ h (fun z6 w5 h => ?_)
      refine x_zif_ne 25 d_B_exchange_20 (by decide) (fun c0 => ?_) (fun c0 => ?_)
      · have h := h.1 c0
        refine x_aload_n 0 d_B_exchange_25 rfl ?_
        refine x_getR 11 4 40 d_B_exchange_26 fg_11_23 rfl rfl rfl (Nf_58 (by decide)) ?_
        refine x_iload_n 1 d_B_exchange_29 rfl ?_
        obtain ⟨h0, h⟩ := h
        refine x_lald d_B_exchange_30 rfl (Nf_58 (by decide)) h0 ?_
        refine x_iload_n 2 d_B_exchange_31 rfl ?_
        refine x_callSZ (st := []) M_B_has [.long (w5.2 40 x1.toNatClampNeg), .int x2] d_B_exchange_32 ml_11_134 cv_B_has rfl (Nat.le_of_ble_eq_true rfl) ⟨Nat.le_of_ble_eq_true rfl, Nat.le_of_ble_eq_true rfl⟩ ⟨rfl, rfl⟩ h (fun z8 w7 h => ?_)
        refine x_zif_eq 51 d_B_exchange_35 (by decide) (fun c0 => ?_) (fun c0 => ?_)
        · have h := h.1 c0
          refine x_bipush (v := (-3)) d_B_exchange_51 (by decide) ?_
          exact x_retI d_B_exchange_53 rfl ⟨rfl, rfl⟩ h
        · have h := h.2 c0
          refine x_aload_n 0 d_B_exchange_38 rfl ?_
          refine x_getR 11 4 40 d_B_exchange_39 fg_11_23 rfl rfl rfl (Nf_58 (by decide)) ?_
          refine x_iload_n 1 d_B_exchange_42 rfl ?_
          obtain ⟨h0, h⟩ := h
          refine x_lald d_B_exchange_43 rfl (Nf_58 (by decide)) h0 ?_
          refine x_iload_n 3 d_B_exchange_44 rfl ?_
          refine x_callSZ (st := []) M_B_has [.long (w7.2 40 x1.toNatClampNeg), .int x3] d_B_exchange_45 ml_11_134 cv_B_has rfl (Nat.le_of_ble_eq_true rfl) ⟨Nat.le_of_ble_eq_true rfl, Nat.le_of_ble_eq_true rfl⟩ ⟨rfl, rfl⟩ h (fun z10 w9 h => ?_)
          refine x_zif_eq 54 d_B_exchange_48 (by decide) (fun c0 => ?_) (fun c0 => ?_)
          · have h := h.1 c0
            refine x_aload_n 0 d_B_exchange_54 rfl ?_
            refine x_iload_n 1 d_B_exchange_55 rfl ?_
            refine x_aload_n 0 d_B_exchange_56 rfl ?_
            refine x_getR 11 4 40 d_B_exchange_57 fg_11_23 rfl rfl rfl (Nf_58 (by decide)) ?_
            refine x_iload_n 1 d_B_exchange_60 rfl ?_
            obtain ⟨h0, h⟩ := h
            refine x_lald d_B_exchange_61 rfl (Nf_58 (by decide)) h0 ?_
            refine x_lconst (v := 1) d_B_exchange_62 (by decide) ?_
            refine x_iload_n 2 d_B_exchange_63 rfl ?_
            refine x_lshl d_B_exchange_64 ?_
            refine x_lxor d_B_exchange_65 ?_
            refine x_lconst (v := 1) d_B_exchange_66 (by decide) ?_
            refine x_iload_n 3 d_B_exchange_67 rfl ?_
            refine x_lshl d_B_exchange_68 ?_
            refine x_lxor d_B_exchange_69 ?_
            refine x_callVI (st := []) M_B_becomes [.int x1, .long (((w9.2 40 x1.toNatClampNeg) ^^^ (1 <<< (x2.toInt64 &&& 63))) ^^^ (1 <<< (x3.toInt64 &&& 63)))] d_B_exchange_70 ml_11_150 cv_B_becomes rfl rfl (Nf_58 (by decide)) rfl (Nat.le_of_ble_eq_true rfl) ⟨Nat.le_of_ble_eq_true rfl, Nat.le_of_ble_eq_true rfl⟩ ⟨rfl, rfl⟩ h (fun r12 w11 h => ?_)
            refine x_istore (L' := [(0, .ref 39), (1, .int x1), (2, .int x2), (3, .int x3), (4, .int r12)]) [1, 2, 3, 4, 0] d_B_exchange_73 (by decide) rfl ?_
            refine x_aload_n 0 d_B_exchange_75 rfl ?_
            refine x_iconst (v := 1) d_B_exchange_76 (by decide) ?_
            refine x_callVI (st := []) M_B_lack [.int 1] d_B_exchange_77 ml_11_164 cv_B_lack rfl rfl (Nf_58 (by decide)) rfl (Nat.le_of_ble_eq_true rfl) ⟨Nat.le_of_ble_eq_true rfl, Nat.le_of_ble_eq_true rfl⟩ ⟨rfl, rfl⟩ h (fun r14 w13 h => ?_)
            exact x_retI d_B_exchange_80 rfl ⟨rfl, rfl⟩ h
          · have h := h.2 c0
            refine x_bipush (v := (-3)) d_B_exchange_51 (by decide) ?_
            exact x_retI d_B_exchange_53 rfl ⟨rfl, rfl⟩ h
      · have h := h.2 c0
        refine x_iconst (v := (-1)) d_B_exchange_23 (by decide) ?_
        exact x_retI d_B_exchange_24 rfl ⟨rfl, rfl⟩ h
set_option maxHeartbeats 1000000 in
theorem r_B_here {w : Wd} {K : Int32 → Wd → Prop} (h : ((w.1 39 10) ≤ (w.1 39 31) → K 0 w) ∧ (¬ (w.1 39 10) ≤ (w.1 39 31) → vp_in (w.1 39 31) 160 ∧ K (w.1 44 (w.1 39 31).toNatClampNeg) w)) : RunI 1 M_B_here [.ref 39] w K := by
  refine runs_of (L := [(0, .ref 39)]) rfl (Nat.le_of_ble_eq_true rfl) rfl ?_
  refine x_aload_n 0 d_B_here_0 rfl ?_
  refine x_getI 11 31 d_B_here_1 fg_11_248 rfl rfl (Nf_58 (by decide)) ?_
  refine x_aload_n 0 d_B_here_4 rfl ?_
  refine x_getI 11 10 d_B_here_5 fg_11_245 rfl rfl (Nf_58 (by decide)) ?_
  refine x_icmp_ge 23 d_B_here_8 (by decide) (fun c0 => ?_) (fun c0 => ?_)
  · have h := h.1 c0
    refine x_iconst (v := 0) d_B_here_23 (by decide) ?_
    exact x_retI d_B_here_24 rfl ⟨rfl, rfl⟩ h
  · have h := h.2 c0
    refine x_aload_n 0 d_B_here_11 rfl ?_
    refine x_getR 11 9 44 d_B_here_12 fg_11_37 rfl rfl rfl (Nf_58 (by decide)) ?_
    refine x_aload_n 0 d_B_here_15 rfl ?_
    refine x_getI 11 31 d_B_here_16 fg_11_248 rfl rfl (Nf_58 (by decide)) ?_
    obtain ⟨h0, h⟩ := h
    refine x_iald d_B_here_19 rfl (Nf_58 (by decide)) h0 ?_
    refine x_goto 24 d_B_here_20 (by decide) ?_
    exact x_retI d_B_here_24 rfl ⟨rfl, rfl⟩ h
set_option maxHeartbeats 1000000 in
theorem r_B_isDigit {w : Wd} {K : Bool → Wd → Prop} (h : RunI 1 M_B_here [.ref 39] w (fun r2 w1 => RunZ 1 M_B_in [.long r2.toInt64, .long 48, .long 57] w1 (fun z4 w3 => K z4 w3))) : RunZ 1 M_B_isDigit [.ref 39] w K := by
  refine runs_of (L := [(0, .ref 39)]) rfl (Nat.le_of_ble_eq_true rfl) rfl ?_
  refine x_aload_n 0 d_B_isDigit_0 rfl ?_
  refine x_callVI (st := []) M_B_here [] d_B_isDigit_1 ml_11_251 cv_B_here rfl rfl (Nf_58 (by decide)) rfl (Nat.le_of_ble_eq_true rfl) ⟨Nat.le_of_ble_eq_true rfl, Nat.le_of_ble_eq_true rfl⟩ ⟨rfl, rfl⟩ h (fun r2 w1 h => ?_)
  refine x_i2l d_B_isDigit_4 ?_
  refine x_ldc2 (v := 48) d_B_isDigit_5 mw_1378 ?_
  refine x_ldc2 (v := 57) d_B_isDigit_8 mw_1379 ?_
  refine x_callSZ (st := []) M_B_in [.long r2.toInt64, .long 48, .long 57] d_B_isDigit_11 ml_11_83 cv_B_in rfl (Nat.le_of_ble_eq_true rfl) ⟨Nat.le_of_ble_eq_true rfl, Nat.le_of_ble_eq_true rfl⟩ ⟨rfl, rfl⟩ h (fun z4 w3 h => ?_)
  exact x_retZ d_B_isDigit_14 rfl rfl ⟨rfl, rfl⟩ h
set_option maxHeartbeats 1000000 in
theorem r_B_number {x1 : Int32} {w : Wd} {K : Int32 → Wd → Prop} (h : RunZ 1 M_B_isDigit [.ref 39] w (fun z2 w1 => (z2 = true → ∀ a3 : Int32, a3 = w1.1 39 31 → E 1 M_B_number 19 [(0, .ref 39), (1, .int x1), (2, .int a3), (3, .int 0), (4, .int 1)] [] w1 (qI 1 K)) ∧ (z2 = false → K ((-1)) w1))) : RunI 1 M_B_number [.ref 39, .int x1] w K := by
  refine runs_of (L := [(0, .ref 39), (1, .int x1)]) rfl (Nat.le_of_ble_eq_true rfl) rfl ?_
  refine x_aload_n 0 d_B_number_0 rfl ?_
  refine x_callVZ (st := []) M_B_isDigit [] d_B_number_1 ml_11_258 cv_B_isDigit rfl rfl (Nf_58 (by decide)) rfl (Nat.le_of_ble_eq_true rfl) ⟨Nat.le_of_ble_eq_true rfl, Nat.le_of_ble_eq_true rfl⟩ ⟨rfl, rfl⟩ h (fun z2 w1 h => ?_)
  refine x_zif_ne 9 d_B_number_4 (by decide) (fun c0 => ?_) (fun c0 => ?_)
  · have h := h.1 c0
    refine x_aload_n 0 d_B_number_9 rfl ?_
    refine x_getI 11 31 d_B_number_10 fg_11_248 rfl rfl (Nf_58 (by decide)) ?_
    obtain ⟨a3, ea3⟩ : ∃ z : Int32, z = w1.1 39 31 := ⟨_, rfl⟩
    have h := h a3 ea3
    refine x_istore_nE (L' := [(0, .ref 39), (1, .int x1), (2, .int a3)]) [1, 2, 0] d_B_number_13 (by decide) ea3 rfl ?_
    refine x_iconst (v := 0) d_B_number_14 (by decide) ?_
    refine x_istore_n (L' := [(0, .ref 39), (1, .int x1), (2, .int a3), (3, .int 0)]) [1, 2, 3, 0] d_B_number_15 (by decide) rfl ?_
    refine x_iconst (v := 1) d_B_number_16 (by decide) ?_
    refine x_istore (L' := [(0, .ref 39), (1, .int x1), (2, .int a3), (3, .int 0), (4, .int 1)]) [1, 2, 3, 4, 0] d_B_number_17 (by decide) rfl ?_
    exact h
  · have h := h.2 c0
    refine x_iconst (v := (-1)) d_B_number_7 (by decide) ?_
    exact x_retI d_B_number_8 rfl ⟨rfl, rfl⟩ h
set_option maxHeartbeats 1000000 in
theorem w_B_number_19 {x1 x2 x3 x4 : Int32} {w : Wd} {K : Int32 → Wd → Prop} (h : (x4 = 0 → (x3 < x1 → K x3 w) ∧ (¬ x3 < x1 → ∀ w1 : Wd, w1 = upI w 39 31 x2 → K ((-1)) w1)) ∧ (¬ x4 = 0 → (1000 ≤ x3 → ∀ w2 : Wd, w2 = upI w 39 31 ((w.1 39 31) + 1) → RunZ 1 M_B_isDigit [.ref 39] w2 (fun z4 w3 => (z4 = false → E 1 M_B_number 19 [(0, .ref 39), (1, .int x1), (2, .int x2), (3, .int x3), (4, .int 0)] [] w3 (qI 1 K)) ∧ (z4 = true → vp_in x2 160 ∧ ((w3.1 44 x2.toNatClampNeg) = 48 → E 1 M_B_number 19 [(0, .ref 39), (1, .int x1), (2, .int x2), (3, .int x3), (4, .int 0)] [] w3 (qI 1 K)) ∧ (¬ (w3.1 44 x2.toNatClampNeg) = 48 → E 1 M_B_number 19 [(0, .ref 39), (1, .int x1), (2, .int x2), (3, .int x3), (4, .int 1)] [] w3 (qI 1 K))))) ∧ (¬ 1000 ≤ x3 → RunI 1 M_B_here [.ref 39] w (fun r6 w5 => ∀ a7 : Int32, a7 = ((10 * x3) + r6) - 48 → ∀ w8 : Wd, w8 = upI w5 39 31 ((w5.1 39 31) + 1) → RunZ 1 M_B_isDigit [.ref 39] w8 (fun z10 w9 => (z10 = false → E 1 M_B_number 19 [(0, .ref 39), (1, .int x1), (2, .int x2), (3, .int a7), (4, .int 0)] [] w9 (qI 1 K)) ∧ (z10 = true → vp_in x2 160 ∧ ((w9.1 44 x2.toNatClampNeg) = 48 → E 1 M_B_number 19 [(0, .ref 39), (1, .int x1), (2, .int x2), (3, .int a7), (4, .int 0)] [] w9 (qI 1 K)) ∧ (¬ (w9.1 44 x2.toNatClampNeg) = 48 → E 1 M_B_number 19 [(0, .ref 39), (1, .int x1), (2, .int x2), (3, .int a7), (4, .int 1)] [] w9 (qI 1 K)))))))) : E 1 M_B_number 19 [(0, .ref 39), (1, .int x1), (2, .int x2), (3, .int x3), (4, .int x4)] [] w (qI 1 K) := by
  refine x_iload 4 d_B_number_19 rfl ?_
  refine x_if_eq 86 d_B_number_21 (by decide) (fun c0 => ?_) (fun c0 => ?_)
  · have h := h.1 c0
    refine x_iload_n 3 d_B_number_86 rfl ?_
    refine x_iload_n 1 d_B_number_87 rfl ?_
    refine x_icmp_lt 98 d_B_number_88 (by decide) (fun c0 => ?_) (fun c0 => ?_)
    · have h := h.1 c0
      refine x_iload_n 3 d_B_number_98 rfl ?_
      exact x_retI d_B_number_99 rfl ⟨rfl, rfl⟩ h
    · have h := h.2 c0
      refine x_aload_n 0 d_B_number_91 rfl ?_
      refine x_iload_n 2 d_B_number_92 rfl ?_
      refine x_putIE 11 31 d_B_number_93 fp_11_248 rfl rfl (Nf_58 (by decide)) (fun w1 ew1 => ?_)
      have h := h w1 ew1
      refine x_iconst (v := (-1)) d_B_number_96 (by decide) ?_
      exact x_retI d_B_number_97 rfl ⟨rfl, rfl⟩ h
  · have h := h.2 c0
    refine x_iload_n 3 d_B_number_24 rfl ?_
    refine x_sipush (v := 1000) d_B_number_25 (by decide) ?_
    refine x_icmp_ge 46 d_B_number_28 (by decide) (fun c0 => ?_) (fun c0 => ?_)
    · have h := h.1 c0
      refine x_iload_n 3 d_B_number_46 rfl ?_
      refine x_istore_n (L' := [(0, .ref 39), (1, .int x1), (2, .int x2), (3, .int x3), (4, .int x4)]) [1, 2, 3, 0, 4] d_B_number_47 (by decide) rfl ?_
      refine x_aload_n 0 d_B_number_48 rfl ?_
      refine x_dup d_B_number_49 rfl ?_
      refine x_getI 11 31 d_B_number_50 fg_11_248 rfl rfl (Nf_58 (by decide)) ?_
      refine x_iconst (v := 1) d_B_number_53 (by decide) ?_
      refine x_iadd d_B_number_54 ?_
      refine x_putIE 11 31 d_B_number_55 fp_11_248 rfl rfl (Nf_58 (by decide)) (fun w2 ew2 => ?_)
      have h := h w2 ew2
      refine x_aload_n 0 d_B_number_58 rfl ?_
      refine x_callVZ (st := []) M_B_isDigit [] d_B_number_59 ml_11_258 cv_B_isDigit rfl rfl (Nf_58 (by decide)) rfl (Nat.le_of_ble_eq_true rfl) ⟨Nat.le_of_ble_eq_true rfl, Nat.le_of_ble_eq_true rfl⟩ ⟨rfl, rfl⟩ h (fun z4 w3 h => ?_)
      refine x_zif_eq 80 d_B_number_62 (by decide) (fun c0 => ?_) (fun c0 => ?_)
      · have h := h.1 c0
        refine x_iconst (v := 0) d_B_number_80 (by decide) ?_
        refine x_istore (L' := [(0, .ref 39), (1, .int x1), (2, .int x2), (3, .int x3), (4, .int 0)]) [1, 2, 3, 4, 0] d_B_number_81 (by decide) rfl ?_
        refine x_goto 19 d_B_number_83 (by decide) ?_
        exact h
      · have h := h.2 c0
        refine x_aload_n 0 d_B_number_65 rfl ?_
        refine x_getR 11 9 44 d_B_number_66 fg_11_37 rfl rfl rfl (Nf_58 (by decide)) ?_
        refine x_iload_n 2 d_B_number_69 rfl ?_
        obtain ⟨h0, h⟩ := h
        refine x_iald d_B_number_70 rfl (Nf_58 (by decide)) h0 ?_
        refine x_bipush (v := 48) d_B_number_71 (by decide) ?_
        refine x_icmp_eq 80 d_B_number_73 (by decide) (fun c0 => ?_) (fun c0 => ?_)
        · have h := h.1 c0
          refine x_iconst (v := 0) d_B_number_80 (by decide) ?_
          refine x_istore (L' := [(0, .ref 39), (1, .int x1), (2, .int x2), (3, .int x3), (4, .int 0)]) [1, 2, 3, 4, 0] d_B_number_81 (by decide) rfl ?_
          refine x_goto 19 d_B_number_83 (by decide) ?_
          exact h
        · have h := h.2 c0
          refine x_iconst (v := 1) d_B_number_76 (by decide) ?_
          refine x_goto 81 d_B_number_77 (by decide) ?_
          refine x_istore (L' := [(0, .ref 39), (1, .int x1), (2, .int x2), (3, .int x3), (4, .int 1)]) [1, 2, 3, 4, 0] d_B_number_81 (by decide) rfl ?_
          refine x_goto 19 d_B_number_83 (by decide) ?_
          exact h
    · have h := h.2 c0
      refine x_bipush (v := 10) d_B_number_31 (by decide) ?_
      refine x_iload_n 3 d_B_number_33 rfl ?_
      refine x_imul d_B_number_34 ?_
      refine x_aload_n 0 d_B_number_35 rfl ?_
      refine x_callVI (st := [.int (10 * x3)]) M_B_here [] d_B_number_36 ml_11_251 cv_B_here rfl rfl (Nf_58 (by decide)) rfl (Nat.le_of_ble_eq_true rfl) ⟨Nat.le_of_ble_eq_true rfl, Nat.le_of_ble_eq_true rfl⟩ ⟨rfl, rfl⟩ h (fun r6 w5 h => ?_)
      refine x_iadd d_B_number_39 ?_
      refine x_bipush (v := 48) d_B_number_40 (by decide) ?_
      refine x_isub d_B_number_42 ?_
      refine x_goto 47 d_B_number_43 (by decide) ?_
      obtain ⟨a7, ea7⟩ : ∃ z : Int32, z = ((10 * x3) + r6) - 48 := ⟨_, rfl⟩
      have h := h a7 ea7
      refine x_istore_nE (L' := [(0, .ref 39), (1, .int x1), (2, .int x2), (3, .int a7), (4, .int x4)]) [1, 2, 3, 0, 4] d_B_number_47 (by decide) ea7 rfl ?_
      refine x_aload_n 0 d_B_number_48 rfl ?_
      refine x_dup d_B_number_49 rfl ?_
      refine x_getI 11 31 d_B_number_50 fg_11_248 rfl rfl (Nf_58 (by decide)) ?_
      refine x_iconst (v := 1) d_B_number_53 (by decide) ?_
      refine x_iadd d_B_number_54 ?_
      refine x_putIE 11 31 d_B_number_55 fp_11_248 rfl rfl (Nf_58 (by decide)) (fun w8 ew8 => ?_)
      have h := h w8 ew8
      refine x_aload_n 0 d_B_number_58 rfl ?_
      refine x_callVZ (st := []) M_B_isDigit [] d_B_number_59 ml_11_258 cv_B_isDigit rfl rfl (Nf_58 (by decide)) rfl (Nat.le_of_ble_eq_true rfl) ⟨Nat.le_of_ble_eq_true rfl, Nat.le_of_ble_eq_true rfl⟩ ⟨rfl, rfl⟩ h (fun z10 w9 h => ?_)
      refine x_zif_eq 80 d_B_number_62 (by decide) (fun c0 => ?_) (fun c0 => ?_)
      · have h := h.1 c0
        refine x_iconst (v := 0) d_B_number_80 (by decide) ?_
        refine x_istore (L' := [(0, .ref 39), (1, .int x1), (2, .int x2), (3, .int a7), (4, .int 0)]) [1, 2, 3, 4, 0] d_B_number_81 (by decide) rfl ?_
        refine x_goto 19 d_B_number_83 (by decide) ?_
        exact h
      · have h := h.2 c0
        refine x_aload_n 0 d_B_number_65 rfl ?_
        refine x_getR 11 9 44 d_B_number_66 fg_11_37 rfl rfl rfl (Nf_58 (by decide)) ?_
        refine x_iload_n 2 d_B_number_69 rfl ?_
        obtain ⟨h0, h⟩ := h
        refine x_iald d_B_number_70 rfl (Nf_58 (by decide)) h0 ?_
        refine x_bipush (v := 48) d_B_number_71 (by decide) ?_
        refine x_icmp_eq 80 d_B_number_73 (by decide) (fun c0 => ?_) (fun c0 => ?_)
        · have h := h.1 c0
          refine x_iconst (v := 0) d_B_number_80 (by decide) ?_
          refine x_istore (L' := [(0, .ref 39), (1, .int x1), (2, .int x2), (3, .int a7), (4, .int 0)]) [1, 2, 3, 4, 0] d_B_number_81 (by decide) rfl ?_
          refine x_goto 19 d_B_number_83 (by decide) ?_
          exact h
        · have h := h.2 c0
          refine x_iconst (v := 1) d_B_number_76 (by decide) ?_
          refine x_goto 81 d_B_number_77 (by decide) ?_
          refine x_istore (L' := [(0, .ref 39), (1, .int x1), (2, .int x2), (3, .int a7), (4, .int 1)]) [1, 2, 3, 4, 0] d_B_number_81 (by decide) rfl ?_
          refine x_goto 19 d_B_number_83 (by decide) ?_
          exact h
set_option maxHeartbeats 1000000 in
theorem r_B_isNextElement {w : Wd} {K : Bool → Wd → Prop} (h : ∀ a1 : Int32, a1 = w.1 39 31 → RunI 1 M_B_number [.ref 39, .int (w.1 39 0)] w (fun r3 w2 => (0 ≤ r3 → ((w2.1 39 1) ≤ 1 → E 1 M_B_isNextElement 66 [(0, .ref 39), (1, .int a1), (2, .int r3), (3, .int 0)] [] w2 (qZ 1 K)) ∧ (¬ (w2.1 39 1) ≤ 1 → RunI 1 M_B_here [.ref 39] w2 (fun r5 w4 => (r5 = 46 → ∀ w6 : Wd, w6 = upI w4 39 31 ((w4.1 39 31) + 1) → RunI 1 M_B_number [.ref 39, .int (w6.1 39 1)] w6 (fun r8 w7 => (0 ≤ r8 → E 1 M_B_isNextElement 66 [(0, .ref 39), (1, .int a1), (2, .int r3), (3, .int r8)] [] w7 (qZ 1 K)) ∧ (¬ 0 ≤ r8 → K false w7))) ∧ (¬ r5 = 46 → K false w4)))) ∧ (¬ 0 ≤ r3 → K false w2))) : RunZ 1 M_B_isNextElement [.ref 39] w K := by
  refine runs_of (L := [(0, .ref 39)]) rfl (Nat.le_of_ble_eq_true rfl) rfl ?_
  refine x_aload_n 0 d_B_isNextElement_0 rfl ?_
  refine x_getI 11 31 d_B_isNextElement_1 fg_11_248 rfl rfl (Nf_58 (by decide)) ?_
  obtain ⟨a1, ea1⟩ : ∃ z : Int32, z = w.1 39 31 := ⟨_, rfl⟩
  have h := h a1 ea1
  refine x_istore_nE (L' := [(0, .ref 39), (1, .int a1)]) [1, 0] d_B_isNextElement_4 (by decide) ea1 rfl ?_
  refine x_aload_n 0 d_B_isNextElement_5 rfl ?_
  refine x_aload_n 0 d_B_isNextElement_6 rfl ?_
  refine x_getI 11 0 d_B_isNextElement_7 fg_11_7 rfl rfl (Nf_58 (by decide)) ?_
  refine x_callVI (st := []) M_B_number [.int (w.1 39 0)] d_B_isNextElement_10 ml_11_262 cv_B_number rfl rfl (Nf_58 (by decide)) rfl (Nat.le_of_ble_eq_true rfl) ⟨Nat.le_of_ble_eq_true rfl, Nat.le_of_ble_eq_true rfl⟩ ⟨rfl, rfl⟩ h (fun r3 w2 h => ?_)
  refine x_istore_n (L' := [(0, .ref 39), (1, .int a1), (2, .int r3)]) [1, 2, 0] d_B_isNextElement_13 (by decide) rfl ?_
  refine x_iload_n 2 d_B_isNextElement_14 rfl ?_
  refine x_if_ge 20 d_B_isNextElement_15 (by decide) (fun c0 => ?_) (fun c0 => ?_)
  · have h := h.1 c0
    refine x_iconst (v := 0) d_B_isNextElement_20 (by decide) ?_
    refine x_istore_n (L' := [(0, .ref 39), (1, .int a1), (2, .int r3), (3, .int 0)]) [1, 2, 3, 0] d_B_isNextElement_21 (by decide) rfl ?_
    refine x_aload_n 0 d_B_isNextElement_22 rfl ?_
    refine x_getI 11 1 d_B_isNextElement_23 fg_11_13 rfl rfl (Nf_58 (by decide)) ?_
    refine x_iconst (v := 1) d_B_isNextElement_26 (by decide) ?_
    refine x_icmp_le 66 d_B_isNextElement_27 (by decide) (fun c0 => ?_) (fun c0 => ?_)
    · have h := h.1 c0
      exact h
    · have h := h.2 c0
      refine x_aload_n 0 d_B_isNextElement_30 rfl ?_
      refine x_callVI (st := []) M_B_here [] d_B_isNextElement_31 ml_11_251 cv_B_here rfl rfl (Nf_58 (by decide)) rfl (Nat.le_of_ble_eq_true rfl) ⟨Nat.le_of_ble_eq_true rfl, Nat.le_of_ble_eq_true rfl⟩ ⟨rfl, rfl⟩ h (fun r5 w4 h => ?_)
      refine x_bipush (v := 46) d_B_isNextElement_34 (by decide) ?_
      refine x_icmp_eq 41 d_B_isNextElement_36 (by decide) (fun c0 => ?_) (fun c0 => ?_)
      · have h := h.1 c0
        refine x_aload_n 0 d_B_isNextElement_41 rfl ?_
        refine x_dup d_B_isNextElement_42 rfl ?_
        refine x_getI 11 31 d_B_isNextElement_43 fg_11_248 rfl rfl (Nf_58 (by decide)) ?_
        refine x_iconst (v := 1) d_B_isNextElement_46 (by decide) ?_
        refine x_iadd d_B_isNextElement_47 ?_
        refine x_putIE 11 31 d_B_isNextElement_48 fp_11_248 rfl rfl (Nf_58 (by decide)) (fun w6 ew6 => ?_)
        have h := h w6 ew6
        refine x_aload_n 0 d_B_isNextElement_51 rfl ?_
        refine x_aload_n 0 d_B_isNextElement_52 rfl ?_
        refine x_getI 11 1 d_B_isNextElement_53 fg_11_13 rfl rfl (Nf_58 (by decide)) ?_
        refine x_callVI (st := []) M_B_number [.int (w6.1 39 1)] d_B_isNextElement_56 ml_11_262 cv_B_number rfl rfl (Nf_58 (by decide)) rfl (Nat.le_of_ble_eq_true rfl) ⟨Nat.le_of_ble_eq_true rfl, Nat.le_of_ble_eq_true rfl⟩ ⟨rfl, rfl⟩ h (fun r8 w7 h => ?_)
        refine x_istore_n (L' := [(0, .ref 39), (1, .int a1), (2, .int r3), (3, .int r8)]) [1, 2, 3, 0] d_B_isNextElement_59 (by decide) rfl ?_
        refine x_iload_n 3 d_B_isNextElement_60 rfl ?_
        refine x_if_ge 66 d_B_isNextElement_61 (by decide) (fun c0 => ?_) (fun c0 => ?_)
        · have h := h.1 c0
          exact h
        · have h := h.2 c0
          refine x_iconst (v := 0) d_B_isNextElement_64 (by decide) ?_
          exact x_retZ (z := false) d_B_isNextElement_65 rfl rfl ⟨rfl, rfl⟩ h
      · have h := h.2 c0
        refine x_iconst (v := 0) d_B_isNextElement_39 (by decide) ?_
        exact x_retZ (z := false) d_B_isNextElement_40 rfl rfl ⟨rfl, rfl⟩ h
  · have h := h.2 c0
    refine x_iconst (v := 0) d_B_isNextElement_18 (by decide) ?_
    exact x_retZ (z := false) d_B_isNextElement_19 rfl rfl ⟨rfl, rfl⟩ h
set_option maxHeartbeats 1000000 in
theorem w_B_isNextElement_66 {x1 x2 x3 : Int32} {w : Wd} {K : Bool → Wd → Prop} (h : vp_in (w.1 39 29) 6 ∧ RunZ 1 M_B_has [.long (w.2 57 (w.1 39 29).toNatClampNeg), .int (((w.1 39 1) * x2) + x3)] w (fun z2 w1 => (z2 = false → vp_in (w1.1 39 29) 6 ∧ vp_in (w1.1 39 29) 6 ∧ ∀ w3 : Wd, w3 = upL w1 57 (w1.1 39 29).toNatClampNeg ((w1.2 57 (w1.1 39 29).toNatClampNeg) ||| (1 <<< ((((w1.1 39 1) * x2) + x3).toInt64 &&& 63))) → K true w3) ∧ (z2 = true → ∀ w4 : Wd, w4 = upI w1 39 31 x1 → K false w4))) : E 1 M_B_isNextElement 66 [(0, .ref 39), (1, .int x1), (2, .int x2), (3, .int x3)] [] w (qZ 1 K) := by
  refine x_aload_n 0 d_B_isNextElement_66 rfl ?_
  refine x_getR 11 30 57 d_B_isNextElement_67 fg_11_77 rfl rfl rfl (Nf_58 (by decide)) ?_
  refine x_aload_n 0 d_B_isNextElement_70 rfl ?_
  refine x_getI 11 29 d_B_isNextElement_71 fg_11_265 rfl rfl (Nf_58 (by decide)) ?_
  obtain ⟨h0, h⟩ := h
  refine x_lald d_B_isNextElement_74 rfl (Nf_58 (by decide)) h0 ?_
  refine x_aload_n 0 d_B_isNextElement_75 rfl ?_
  refine x_getI 11 1 d_B_isNextElement_76 fg_11_13 rfl rfl (Nf_58 (by decide)) ?_
  refine x_iload_n 2 d_B_isNextElement_79 rfl ?_
  refine x_imul d_B_isNextElement_80 ?_
  refine x_iload_n 3 d_B_isNextElement_81 rfl ?_
  refine x_iadd d_B_isNextElement_82 ?_
  refine x_callSZ (st := []) M_B_has [.long (w.2 57 (w.1 39 29).toNatClampNeg), .int (((w.1 39 1) * x2) + x3)] d_B_isNextElement_83 ml_11_134 cv_B_has rfl (Nat.le_of_ble_eq_true rfl) ⟨Nat.le_of_ble_eq_true rfl, Nat.le_of_ble_eq_true rfl⟩ ⟨rfl, rfl⟩ h (fun z2 w1 h => ?_)
  refine x_zif_eq 96 d_B_isNextElement_86 (by decide) (fun c0 => ?_) (fun c0 => ?_)
  · have h := h.1 c0
    refine x_aload_n 0 d_B_isNextElement_96 rfl ?_
    refine x_getR 11 30 57 d_B_isNextElement_97 fg_11_77 rfl rfl rfl (Nf_58 (by decide)) ?_
    refine x_aload_n 0 d_B_isNextElement_100 rfl ?_
    refine x_getI 11 29 d_B_isNextElement_101 fg_11_265 rfl rfl (Nf_58 (by decide)) ?_
    refine x_dup2 d_B_isNextElement_104 rfl rfl ?_
    obtain ⟨h0, h⟩ := h
    refine x_lald d_B_isNextElement_105 rfl (Nf_58 (by decide)) h0 ?_
    refine x_lconst (v := 1) d_B_isNextElement_106 (by decide) ?_
    refine x_aload_n 0 d_B_isNextElement_107 rfl ?_
    refine x_getI 11 1 d_B_isNextElement_108 fg_11_13 rfl rfl (Nf_58 (by decide)) ?_
    refine x_iload_n 2 d_B_isNextElement_111 rfl ?_
    refine x_imul d_B_isNextElement_112 ?_
    refine x_iload_n 3 d_B_isNextElement_113 rfl ?_
    refine x_iadd d_B_isNextElement_114 ?_
    refine x_lshl d_B_isNextElement_115 ?_
    refine x_lor d_B_isNextElement_116 ?_
    obtain ⟨h0, h⟩ := h
    refine x_lastE d_B_isNextElement_117 rfl (Nf_58 (by decide)) h0 (fun w3 ew3 => ?_)
    have h := h w3 ew3
    refine x_iconst (v := 1) d_B_isNextElement_118 (by decide) ?_
    exact x_retZ (z := true) d_B_isNextElement_119 rfl rfl ⟨rfl, rfl⟩ h
  · have h := h.2 c0
    refine x_aload_n 0 d_B_isNextElement_89 rfl ?_
    refine x_iload_n 1 d_B_isNextElement_90 rfl ?_
    refine x_putIE 11 31 d_B_isNextElement_91 fp_11_248 rfl rfl (Nf_58 (by decide)) (fun w4 ew4 => ?_)
    have h := h w4 ew4
    refine x_iconst (v := 0) d_B_isNextElement_94 (by decide) ?_
    exact x_retZ (z := false) d_B_isNextElement_95 rfl rfl ⟨rfl, rfl⟩ h
set_option maxHeartbeats 1000000 in
theorem r_B_isNextBlock {w : Wd} {K : Bool → Wd → Prop} (h : (¬ (w.1 39 29) = 6 → vp_in (w.1 39 29) 6 ∧ ∀ w1 : Wd, w1 = upL w 57 (w.1 39 29).toNatClampNeg 0 → RunZ 1 M_B_isNextElement [.ref 39] w1 (fun z3 w2 => ∀ a4 : Int32, a4 = bI z3 → E 1 M_B_isNextBlock 26 [(0, .ref 39), (1, .int a4)] [] w2 (qZ 1 K))) ∧ ((w.1 39 29) = 6 → K false w)) : RunZ 1 M_B_isNextBlock [.ref 39] w K := by
  refine runs_of (L := [(0, .ref 39)]) rfl (Nat.le_of_ble_eq_true rfl) rfl ?_
  refine x_aload_n 0 d_B_isNextBlock_0 rfl ?_
  refine x_getI 11 29 d_B_isNextBlock_1 fg_11_265 rfl rfl (Nf_58 (by decide)) ?_
  refine x_bipush (v := 6) d_B_isNextBlock_4 (by decide) ?_
  refine x_icmp_ne 11 d_B_isNextBlock_6 (by decide) (fun c0 => ?_) (fun c0 => ?_)
  · have h := h.1 c0
    refine x_aload_n 0 d_B_isNextBlock_11 rfl ?_
    refine x_getR 11 30 57 d_B_isNextBlock_12 fg_11_77 rfl rfl rfl (Nf_58 (by decide)) ?_
    refine x_aload_n 0 d_B_isNextBlock_15 rfl ?_
    refine x_getI 11 29 d_B_isNextBlock_16 fg_11_265 rfl rfl (Nf_58 (by decide)) ?_
    refine x_lconst (v := 0) d_B_isNextBlock_19 (by decide) ?_
    obtain ⟨h0, h⟩ := h
    refine x_lastE d_B_isNextBlock_20 rfl (Nf_58 (by decide)) h0 (fun w1 ew1 => ?_)
    have h := h w1 ew1
    refine x_aload_n 0 d_B_isNextBlock_21 rfl ?_
    refine x_callVZ (st := []) M_B_isNextElement [] d_B_isNextBlock_22 ml_11_268 cv_B_isNextElement rfl rfl (Nf_58 (by decide)) rfl (Nat.le_of_ble_eq_true rfl) ⟨Nat.le_of_ble_eq_true rfl, Nat.le_of_ble_eq_true rfl⟩ ⟨rfl, rfl⟩ h (fun z3 w2 h => ?_)
    obtain ⟨a4, ea4⟩ : ∃ z : Int32, z = bI z3 := ⟨_, rfl⟩
    have h := h a4 ea4
    refine x_istore_nE (L' := [(0, .ref 39), (1, .int a4)]) [1, 0] d_B_isNextBlock_25 (by decide) ea4 rfl ?_
    exact h
  · have h := h.2 c0
    refine x_iconst (v := 0) d_B_isNextBlock_9 (by decide) ?_
    exact x_retZ (z := false) d_B_isNextBlock_10 rfl rfl ⟨rfl, rfl⟩ h
set_option maxHeartbeats 1000000 in
theorem w_B_isNextBlock_26 {x1 : Int32} {w : Wd} {K : Bool → Wd → Prop} (h : (x1 = 0 → (x1 = 0 → K false w) ∧ (¬ x1 = 0 → RunI 1 M_B_here [.ref 39] w (fun r2 w1 => (r2 = 59 → ∀ w3 : Wd, w3 = upI w1 39 31 ((w1.1 39 31) + 1) → ∀ w4 : Wd, w4 = upI w3 39 29 ((w3.1 39 29) + 1) → K true w4) ∧ (¬ r2 = 59 → K false w1)))) ∧ (¬ x1 = 0 → RunI 1 M_B_here [.ref 39] w (fun r6 w5 => (¬ r6 = 44 → (x1 = 0 → K false w5) ∧ (¬ x1 = 0 → RunI 1 M_B_here [.ref 39] w5 (fun r8 w7 => (r8 = 59 → ∀ w9 : Wd, w9 = upI w7 39 31 ((w7.1 39 31) + 1) → ∀ w10 : Wd, w10 = upI w9 39 29 ((w9.1 39 29) + 1) → K true w10) ∧ (¬ r8 = 59 → K false w7)))) ∧ (r6 = 44 → ∀ w11 : Wd, w11 = upI w5 39 31 ((w5.1 39 31) + 1) → RunZ 1 M_B_isNextElement [.ref 39] w11 (fun z13 w12 => ∀ a14 : Int32, a14 = bI z13 → E 1 M_B_isNextBlock 26 [(0, .ref 39), (1, .int a14)] [] w12 (qZ 1 K)))))) : E 1 M_B_isNextBlock 26 [(0, .ref 39), (1, .int x1)] [] w (qZ 1 K) := by
  refine x_iload_n 1 d_B_isNextBlock_26 rfl ?_
  refine x_if_eq 57 d_B_isNextBlock_27 (by decide) (fun c0 => ?_) (fun c0 => ?_)
  · have h := h.1 c0
    refine x_iload_n 1 d_B_isNextBlock_57 rfl ?_
    refine x_if_eq 70 d_B_isNextBlock_58 (by decide) (fun c0 => ?_) (fun c0 => ?_)
    · have h := h.1 c0
      refine x_iconst (v := 0) d_B_isNextBlock_70 (by decide) ?_
      exact x_retZ (z := false) d_B_isNextBlock_71 rfl rfl ⟨rfl, rfl⟩ h
    · have h := h.2 c0
      refine x_aload_n 0 d_B_isNextBlock_61 rfl ?_
      refine x_callVI (st := []) M_B_here [] d_B_isNextBlock_62 ml_11_251 cv_B_here rfl rfl (Nf_58 (by decide)) rfl (Nat.le_of_ble_eq_true rfl) ⟨Nat.le_of_ble_eq_true rfl, Nat.le_of_ble_eq_true rfl⟩ ⟨rfl, rfl⟩ h (fun r2 w1 h => ?_)
      refine x_bipush (v := 59) d_B_isNextBlock_65 (by decide) ?_
      refine x_icmp_eq 72 d_B_isNextBlock_67 (by decide) (fun c0 => ?_) (fun c0 => ?_)
      · have h := h.1 c0
        refine x_aload_n 0 d_B_isNextBlock_72 rfl ?_
        refine x_dup d_B_isNextBlock_73 rfl ?_
        refine x_getI 11 31 d_B_isNextBlock_74 fg_11_248 rfl rfl (Nf_58 (by decide)) ?_
        refine x_iconst (v := 1) d_B_isNextBlock_77 (by decide) ?_
        refine x_iadd d_B_isNextBlock_78 ?_
        refine x_putIE 11 31 d_B_isNextBlock_79 fp_11_248 rfl rfl (Nf_58 (by decide)) (fun w3 ew3 => ?_)
        have h := h w3 ew3
        refine x_aload_n 0 d_B_isNextBlock_82 rfl ?_
        refine x_dup d_B_isNextBlock_83 rfl ?_
        refine x_getI 11 29 d_B_isNextBlock_84 fg_11_265 rfl rfl (Nf_58 (by decide)) ?_
        refine x_iconst (v := 1) d_B_isNextBlock_87 (by decide) ?_
        refine x_iadd d_B_isNextBlock_88 ?_
        refine x_putIE 11 29 d_B_isNextBlock_89 fp_11_265 rfl rfl (Nf_58 (by decide)) (fun w4 ew4 => ?_)
        have h := h w4 ew4
        refine x_iconst (v := 1) d_B_isNextBlock_92 (by decide) ?_
        exact x_retZ (z := true) d_B_isNextBlock_93 rfl rfl ⟨rfl, rfl⟩ h
      · have h := h.2 c0
        refine x_iconst (v := 0) d_B_isNextBlock_70 (by decide) ?_
        exact x_retZ (z := false) d_B_isNextBlock_71 rfl rfl ⟨rfl, rfl⟩ h
  · have h := h.2 c0
    refine x_aload_n 0 d_B_isNextBlock_30 rfl ?_
    refine x_callVI (st := []) M_B_here [] d_B_isNextBlock_31 ml_11_251 cv_B_here rfl rfl (Nf_58 (by decide)) rfl (Nat.le_of_ble_eq_true rfl) ⟨Nat.le_of_ble_eq_true rfl, Nat.le_of_ble_eq_true rfl⟩ ⟨rfl, rfl⟩ h (fun r6 w5 h => ?_)
    refine x_bipush (v := 44) d_B_isNextBlock_34 (by decide) ?_
    refine x_icmp_ne 57 d_B_isNextBlock_36 (by decide) (fun c0 => ?_) (fun c0 => ?_)
    · have h := h.1 c0
      refine x_iload_n 1 d_B_isNextBlock_57 rfl ?_
      refine x_if_eq 70 d_B_isNextBlock_58 (by decide) (fun c0 => ?_) (fun c0 => ?_)
      · have h := h.1 c0
        refine x_iconst (v := 0) d_B_isNextBlock_70 (by decide) ?_
        exact x_retZ (z := false) d_B_isNextBlock_71 rfl rfl ⟨rfl, rfl⟩ h
      · have h := h.2 c0
        refine x_aload_n 0 d_B_isNextBlock_61 rfl ?_
        refine x_callVI (st := []) M_B_here [] d_B_isNextBlock_62 ml_11_251 cv_B_here rfl rfl (Nf_58 (by decide)) rfl (Nat.le_of_ble_eq_true rfl) ⟨Nat.le_of_ble_eq_true rfl, Nat.le_of_ble_eq_true rfl⟩ ⟨rfl, rfl⟩ h (fun r8 w7 h => ?_)
        refine x_bipush (v := 59) d_B_isNextBlock_65 (by decide) ?_
        refine x_icmp_eq 72 d_B_isNextBlock_67 (by decide) (fun c0 => ?_) (fun c0 => ?_)
        · have h := h.1 c0
          refine x_aload_n 0 d_B_isNextBlock_72 rfl ?_
          refine x_dup d_B_isNextBlock_73 rfl ?_
          refine x_getI 11 31 d_B_isNextBlock_74 fg_11_248 rfl rfl (Nf_58 (by decide)) ?_
          refine x_iconst (v := 1) d_B_isNextBlock_77 (by decide) ?_
          refine x_iadd d_B_isNextBlock_78 ?_
          refine x_putIE 11 31 d_B_isNextBlock_79 fp_11_248 rfl rfl (Nf_58 (by decide)) (fun w9 ew9 => ?_)
          have h := h w9 ew9
          refine x_aload_n 0 d_B_isNextBlock_82 rfl ?_
          refine x_dup d_B_isNextBlock_83 rfl ?_
          refine x_getI 11 29 d_B_isNextBlock_84 fg_11_265 rfl rfl (Nf_58 (by decide)) ?_
          refine x_iconst (v := 1) d_B_isNextBlock_87 (by decide) ?_
          refine x_iadd d_B_isNextBlock_88 ?_
          refine x_putIE 11 29 d_B_isNextBlock_89 fp_11_265 rfl rfl (Nf_58 (by decide)) (fun w10 ew10 => ?_)
          have h := h w10 ew10
          refine x_iconst (v := 1) d_B_isNextBlock_92 (by decide) ?_
          exact x_retZ (z := true) d_B_isNextBlock_93 rfl rfl ⟨rfl, rfl⟩ h
        · have h := h.2 c0
          refine x_iconst (v := 0) d_B_isNextBlock_70 (by decide) ?_
          exact x_retZ (z := false) d_B_isNextBlock_71 rfl rfl ⟨rfl, rfl⟩ h
    · have h := h.2 c0
      refine x_aload_n 0 d_B_isNextBlock_39 rfl ?_
      refine x_dup d_B_isNextBlock_40 rfl ?_
      refine x_getI 11 31 d_B_isNextBlock_41 fg_11_248 rfl rfl (Nf_58 (by decide)) ?_
      refine x_iconst (v := 1) d_B_isNextBlock_44 (by decide) ?_
      refine x_iadd d_B_isNextBlock_45 ?_
      refine x_putIE 11 31 d_B_isNextBlock_46 fp_11_248 rfl rfl (Nf_58 (by decide)) (fun w11 ew11 => ?_)
      have h := h w11 ew11
      refine x_aload_n 0 d_B_isNextBlock_49 rfl ?_
      refine x_callVZ (st := []) M_B_isNextElement [] d_B_isNextBlock_50 ml_11_268 cv_B_isNextElement rfl rfl (Nf_58 (by decide)) rfl (Nat.le_of_ble_eq_true rfl) ⟨Nat.le_of_ble_eq_true rfl, Nat.le_of_ble_eq_true rfl⟩ ⟨rfl, rfl⟩ h (fun z13 w12 h => ?_)
      obtain ⟨a14, ea14⟩ : ∃ z : Int32, z = bI z13 := ⟨_, rfl⟩
      have h := h a14 ea14
      refine x_istore_nE (L' := [(0, .ref 39), (1, .int a14)]) [1, 0] d_B_isNextBlock_53 (by decide) ea14 rfl ?_
      refine x_goto 26 d_B_isNextBlock_54 (by decide) ?_
      exact h
set_option maxHeartbeats 1000000 in
theorem r_B_isText {w : Wd} {K : Bool → Wd → Prop} (h : ∀ w1 : Wd, w1 = upI w 39 29 0 → ∀ w2 : Wd, w2 = upI w1 39 31 0 → E 1 M_B_isText 12 [(0, .ref 39), (1, .int 1)] [] w2 (qZ 1 K)) : RunZ 1 M_B_isText [.ref 39] w K := by
  refine runs_of (L := [(0, .ref 39)]) rfl (Nat.le_of_ble_eq_true rfl) rfl ?_
  refine x_aload_n 0 d_B_isText_0 rfl ?_
  refine x_iconst (v := 0) d_B_isText_1 (by decide) ?_
  refine x_putIE 11 29 d_B_isText_2 fp_11_265 rfl rfl (Nf_58 (by decide)) (fun w1 ew1 => ?_)
  have h := h w1 ew1
  refine x_aload_n 0 d_B_isText_5 rfl ?_
  refine x_iconst (v := 0) d_B_isText_6 (by decide) ?_
  refine x_putIE 11 31 d_B_isText_7 fp_11_248 rfl rfl (Nf_58 (by decide)) (fun w2 ew2 => ?_)
  have h := h w2 ew2
  refine x_iconst (v := 1) d_B_isText_10 (by decide) ?_
  refine x_istore_n (L' := [(0, .ref 39), (1, .int 1)]) [1, 0] d_B_isText_11 (by decide) rfl ?_
  exact h
set_option maxHeartbeats 1000000 in
theorem w_B_isText_12 {x1 : Int32} {w : Wd} {K : Bool → Wd → Prop} (h : (x1 = 0 → (∃ b0 : Bool, x1 = bI b0 ∧ K b0 w)) ∧ (¬ x1 = 0 → ((w.1 39 10) ≤ (w.1 39 31) → (∃ b0 : Bool, x1 = bI b0 ∧ K b0 w)) ∧ (¬ (w.1 39 10) ≤ (w.1 39 31) → RunZ 1 M_B_isNextBlock [.ref 39] w (fun z2 w1 => ∀ a3 : Int32, a3 = bI z2 → E 1 M_B_isText 12 [(0, .ref 39), (1, .int a3)] [] w1 (qZ 1 K))))) : E 1 M_B_isText 12 [(0, .ref 39), (1, .int x1)] [] w (qZ 1 K) := by
  refine x_iload_n 1 d_B_isText_12 rfl ?_
  refine x_if_eq 35 d_B_isText_13 (by decide) (fun c0 => ?_) (fun c0 => ?_)
  · have h := h.1 c0
    refine x_iload_n 1 d_B_isText_35 rfl ?_
    obtain ⟨b0, e0, h⟩ := h
    exact x_retZ (z := b0) d_B_isText_36 rfl e0 ⟨rfl, rfl⟩ h
  · have h := h.2 c0
    refine x_aload_n 0 d_B_isText_16 rfl ?_
    refine x_getI 11 31 d_B_isText_17 fg_11_248 rfl rfl (Nf_58 (by decide)) ?_
    refine x_aload_n 0 d_B_isText_20 rfl ?_
    refine x_getI 11 10 d_B_isText_21 fg_11_245 rfl rfl (Nf_58 (by decide)) ?_
    refine x_icmp_ge 35 d_B_isText_24 (by decide) (fun c0 => ?_) (fun c0 => ?_)
    · have h := h.1 c0
      refine x_iload_n 1 d_B_isText_35 rfl ?_
      obtain ⟨b0, e0, h⟩ := h
      exact x_retZ (z := b0) d_B_isText_36 rfl e0 ⟨rfl, rfl⟩ h
    · have h := h.2 c0
      refine x_aload_n 0 d_B_isText_27 rfl ?_
      refine x_callVZ (st := []) M_B_isNextBlock [] d_B_isText_28 ml_11_271 cv_B_isNextBlock rfl rfl (Nf_58 (by decide)) rfl (Nat.le_of_ble_eq_true rfl) ⟨Nat.le_of_ble_eq_true rfl, Nat.le_of_ble_eq_true rfl⟩ ⟨rfl, rfl⟩ h (fun z2 w1 h => ?_)
      obtain ⟨a3, ea3⟩ : ∃ z : Int32, z = bI z2 := ⟨_, rfl⟩
      have h := h a3 ea3
      refine x_istore_nE (L' := [(0, .ref 39), (1, .int a3)]) [1, 0] d_B_isText_31 (by decide) ea3 rfl ?_
      refine x_goto 12 d_B_isText_32 (by decide) ?_
      exact h
set_option maxHeartbeats 1000000 in
theorem r_B_faultPosition {w : Wd} {K : Int32 → Wd → Prop} (h : RunZ 1 M_B_isText [.ref 39] w (fun z2 w1 => (z2 = false → K (w1.1 39 31) w1) ∧ (z2 = true → K ((-4)) w1))) : RunI 1 M_B_faultPosition [.ref 39] w K := by
  refine runs_of (L := [(0, .ref 39)]) rfl (Nat.le_of_ble_eq_true rfl) rfl ?_
  refine x_aload_n 0 d_B_faultPosition_0 rfl ?_
  refine x_callVZ (st := []) M_B_isText [] d_B_faultPosition_1 ml_11_274 cv_B_isText rfl rfl (Nf_58 (by decide)) rfl (Nat.le_of_ble_eq_true rfl) ⟨Nat.le_of_ble_eq_true rfl, Nat.le_of_ble_eq_true rfl⟩ ⟨rfl, rfl⟩ h (fun z2 w1 h => ?_)
  refine x_zif_eq 12 d_B_faultPosition_4 (by decide) (fun c0 => ?_) (fun c0 => ?_)
  · have h := h.1 c0
    refine x_aload_n 0 d_B_faultPosition_12 rfl ?_
    refine x_getI 11 31 d_B_faultPosition_13 fg_11_248 rfl rfl (Nf_58 (by decide)) ?_
    exact x_retI d_B_faultPosition_16 rfl ⟨rfl, rfl⟩ h
  · have h := h.2 c0
    refine x_bipush (v := (-4)) d_B_faultPosition_7 (by decide) ?_
    refine x_goto 16 d_B_faultPosition_9 (by decide) ?_
    exact x_retI d_B_faultPosition_16 rfl ⟨rfl, rfl⟩ h
set_option maxHeartbeats 1000000 in
theorem r_B_isAutomorphism {x1 x2 : Int32} {w : Wd} {K : Bool → Wd → Prop} (h : RunI 1 M_B_times [.ref 39, .int (w.1 39 0), .int x1] w (fun r2 w1 => (¬ r2 = 0 → K false w1) ∧ (r2 = 0 → RunI 1 M_B_times [.ref 39, .int (w1.1 39 1), .int x2] w1 (fun r4 w3 => (r4 = 0 → E 1 M_B_isAutomorphism 31 [(0, .ref 39), (1, .int x1), (2, .int x2), (3, .long 0), (5, .int 0)] [] w3 (qZ 1 K)) ∧ (¬ r4 = 0 → K false w3))))) : RunZ 1 M_B_isAutomorphism [.ref 39, .int x1, .int x2] w K := by
  refine runs_of (L := [(0, .ref 39), (1, .int x1), (2, .int x2)]) rfl (Nat.le_of_ble_eq_true rfl) rfl ?_
  refine x_aload_n 0 d_B_isAutomorphism_0 rfl ?_
  refine x_aload_n 0 d_B_isAutomorphism_1 rfl ?_
  refine x_getI 11 0 d_B_isAutomorphism_2 fg_11_7 rfl rfl (Nf_58 (by decide)) ?_
  refine x_iload_n 1 d_B_isAutomorphism_5 rfl ?_
  refine x_callVI (st := []) M_B_times [.int (w.1 39 0), .int x1] d_B_isAutomorphism_6 ml_11_87 cv_B_times rfl rfl (Nf_58 (by decide)) rfl (Nat.le_of_ble_eq_true rfl) ⟨Nat.le_of_ble_eq_true rfl, Nat.le_of_ble_eq_true rfl⟩ ⟨rfl, rfl⟩ h (fun r2 w1 h => ?_)
  refine x_if_ne 24 d_B_isAutomorphism_9 (by decide) (fun c0 => ?_) (fun c0 => ?_)
  · have h := h.1 c0
    refine x_iconst (v := 0) d_B_isAutomorphism_24 (by decide) ?_
    exact x_retZ (z := false) d_B_isAutomorphism_25 rfl rfl ⟨rfl, rfl⟩ h
  · have h := h.2 c0
    refine x_aload_n 0 d_B_isAutomorphism_12 rfl ?_
    refine x_aload_n 0 d_B_isAutomorphism_13 rfl ?_
    refine x_getI 11 1 d_B_isAutomorphism_14 fg_11_13 rfl rfl (Nf_58 (by decide)) ?_
    refine x_iload_n 2 d_B_isAutomorphism_17 rfl ?_
    refine x_callVI (st := []) M_B_times [.int (w1.1 39 1), .int x2] d_B_isAutomorphism_18 ml_11_87 cv_B_times rfl rfl (Nf_58 (by decide)) rfl (Nat.le_of_ble_eq_true rfl) ⟨Nat.le_of_ble_eq_true rfl, Nat.le_of_ble_eq_true rfl⟩ ⟨rfl, rfl⟩ h (fun r4 w3 h => ?_)
    refine x_if_eq 26 d_B_isAutomorphism_21 (by decide) (fun c0 => ?_) (fun c0 => ?_)
    · have h := h.1 c0
      refine x_lconst (v := 0) d_B_isAutomorphism_26 (by decide) ?_
      refine x_lstore_n (L' := [(0, .ref 39), (1, .int x1), (2, .int x2), (3, .long 0)]) [1, 2, 3, 0] d_B_isAutomorphism_27 (by decide) rfl ?_
      refine x_iconst (v := 0) d_B_isAutomorphism_28 (by decide) ?_
      refine x_istore (L' := [(0, .ref 39), (1, .int x1), (2, .int x2), (3, .long 0), (5, .int 0)]) [1, 2, 3, 4, 0] d_B_isAutomorphism_29 (by decide) rfl ?_
      exact h
    · have h := h.2 c0
      refine x_iconst (v := 0) d_B_isAutomorphism_24 (by decide) ?_
      exact x_retZ (z := false) d_B_isAutomorphism_25 rfl rfl ⟨rfl, rfl⟩ h
set_option maxHeartbeats 1000000 in
theorem w_B_isAutomorphism_31 {x1 x2 x5 : Int32} {y3 : Int64} {w : Wd} {K : Bool → Wd → Prop} (h : ((w.1 39 2) ≤ x5 → (¬ y3 = ((1 <<< ((w.1 39 2).toInt64 &&& 63)) - 1) → K false w) ∧ (y3 = ((1 <<< ((w.1 39 2).toInt64 &&& 63)) - 1) → K true w)) ∧ (¬ (w.1 39 2) ≤ x5 → RunI 1 M_B_maps [.ref 39, .int x1, .int x2, .int x5] w (fun r2 w1 => ∀ b3 : Int64, b3 = y3 ||| (1 <<< (r2.toInt64 &&& 63)) → ∀ a4 : Int32, a4 = x5 + 1 → E 1 M_B_isAutomorphism 31 [(0, .ref 39), (1, .int x1), (2, .int x2), (3, .long b3), (5, .int a4)] [] w1 (qZ 1 K)))) : E 1 M_B_isAutomorphism 31 [(0, .ref 39), (1, .int x1), (2, .int x2), (3, .long y3), (5, .int x5)] [] w (qZ 1 K) := by
  refine x_iload 4 d_B_isAutomorphism_31 rfl ?_
  refine x_aload_n 0 d_B_isAutomorphism_33 rfl ?_
  refine x_getI 11 2 d_B_isAutomorphism_34 fg_11_16 rfl rfl (Nf_58 (by decide)) ?_
  refine x_icmp_ge 59 d_B_isAutomorphism_37 (by decide) (fun c0 => ?_) (fun c0 => ?_)
  · have h := h.1 c0
    refine x_lload_n 3 d_B_isAutomorphism_59 rfl ?_
    refine x_lconst (v := 1) d_B_isAutomorphism_60 (by decide) ?_
    refine x_aload_n 0 d_B_isAutomorphism_61 rfl ?_
    refine x_getI 11 2 d_B_isAutomorphism_62 fg_11_16 rfl rfl (Nf_58 (by decide)) ?_
    refine x_lshl d_B_isAutomorphism_65 ?_
    refine x_lconst (v := 1) d_B_isAutomorphism_66 (by decide) ?_
    refine x_lsub d_B_isAutomorphism_67 ?_
    refine x_lif_ne 76 d_B_isAutomorphism_68 d_B_isAutomorphism_69 (by decide) (fun c0 => ?_) (fun c0 => ?_)
    · have h := h.1 c0
      refine x_iconst (v := 0) d_B_isAutomorphism_76 (by decide) ?_
      exact x_retZ (z := false) d_B_isAutomorphism_77 rfl rfl ⟨rfl, rfl⟩ h
    · have h := h.2 c0
      refine x_iconst (v := 1) d_B_isAutomorphism_72 (by decide) ?_
      refine x_goto 77 d_B_isAutomorphism_73 (by decide) ?_
      exact x_retZ (z := true) d_B_isAutomorphism_77 rfl rfl ⟨rfl, rfl⟩ h
  · have h := h.2 c0
    refine x_lload_n 3 d_B_isAutomorphism_40 rfl ?_
    refine x_lconst (v := 1) d_B_isAutomorphism_41 (by decide) ?_
    refine x_aload_n 0 d_B_isAutomorphism_42 rfl ?_
    refine x_iload_n 1 d_B_isAutomorphism_43 rfl ?_
    refine x_iload_n 2 d_B_isAutomorphism_44 rfl ?_
    refine x_iload 4 d_B_isAutomorphism_45 rfl ?_
    refine x_callVI (st := [.long 1, .long y3]) M_B_maps [.int x1, .int x2, .int x5] d_B_isAutomorphism_47 ml_11_94 cv_B_maps rfl rfl (Nf_58 (by decide)) rfl (Nat.le_of_ble_eq_true rfl) ⟨Nat.le_of_ble_eq_true rfl, Nat.le_of_ble_eq_true rfl⟩ ⟨rfl, rfl⟩ h (fun r2 w1 h => ?_)
    refine x_lshl d_B_isAutomorphism_50 ?_
    refine x_lor d_B_isAutomorphism_51 ?_
    obtain ⟨b3, eb3⟩ : ∃ z : Int64, z = y3 ||| (1 <<< (r2.toInt64 &&& 63)) := ⟨_, rfl⟩
    have h := h b3 eb3
    refine x_lstore_nE (L' := [(0, .ref 39), (1, .int x1), (2, .int x2), (3, .long b3), (5, .int x5)]) [1, 2, 3, 0, 4] d_B_isAutomorphism_52 (by decide) eb3 rfl ?_
    obtain ⟨a4, ea4⟩ : ∃ z : Int32, z = x5 + 1 := ⟨_, rfl⟩
    have h := h a4 ea4
    refine x_iincE (L' := [(0, .ref 39), (1, .int x1), (2, .int x2), (3, .long b3), (5, .int a4)]) 4 [1, 2, 3, 4, 0] d_B_isAutomorphism_53 rfl ea4 (by decide) rfl ?_
    refine x_goto 31 d_B_isAutomorphism_56 (by decide) ?_
    exact h
set_option maxHeartbeats 1000000 in
theorem r_B_findAutomorphisms {w : Wd} {K : Wd → Prop} (h : ∀ w1 : Wd, w1 = upI w 39 11 0 → E 1 M_B_findAutomorphisms 7 [(0, .ref 39), (1, .int 0)] [] w1 (qV 1 K)) : RunV 1 M_B_findAutomorphisms [.ref 39] w K := by
  refine runs_of (L := [(0, .ref 39)]) rfl (Nat.le_of_ble_eq_true rfl) rfl ?_
  refine x_aload_n 0 d_B_findAutomorphisms_0 rfl ?_
  refine x_iconst (v := 0) d_B_findAutomorphisms_1 (by decide) ?_
  refine x_putIE 11 11 d_B_findAutomorphisms_2 fp_11_98 rfl rfl (Nf_58 (by decide)) (fun w1 ew1 => ?_)
  have h := h w1 ew1
  refine x_iconst (v := 0) d_B_findAutomorphisms_5 (by decide) ?_
  refine x_istore_n (L' := [(0, .ref 39), (1, .int 0)]) [1, 0] d_B_findAutomorphisms_6 (by decide) rfl ?_
  exact h
set_option maxHeartbeats 1000000 in
theorem w_B_findAutomorphisms_7 {x1 : Int32} {w : Wd} {K : Wd → Prop} (h : (¬ (w.1 39 1) = 1 → ((w.1 39 2) ≤ x1 → K w) ∧ (¬ (w.1 39 2) ≤ x1 → E 1 M_B_findAutomorphisms 29 [(0, .ref 39), (1, .int x1), (2, .int 0)] [] w (qV 1 K))) ∧ ((w.1 39 1) = 1 → (1 ≤ x1 → K w) ∧ (¬ 1 ≤ x1 → E 1 M_B_findAutomorphisms 29 [(0, .ref 39), (1, .int x1), (2, .int 0)] [] w (qV 1 K)))) : E 1 M_B_findAutomorphisms 7 [(0, .ref 39), (1, .int x1)] [] w (qV 1 K) := by
  refine x_iload_n 1 d_B_findAutomorphisms_7 rfl ?_
  refine x_aload_n 0 d_B_findAutomorphisms_8 rfl ?_
  refine x_getI 11 1 d_B_findAutomorphisms_9 fg_11_13 rfl rfl (Nf_58 (by decide)) ?_
  refine x_iconst (v := 1) d_B_findAutomorphisms_12 (by decide) ?_
  refine x_icmp_ne 20 d_B_findAutomorphisms_13 (by decide) (fun c0 => ?_) (fun c0 => ?_)
  · have h := h.1 c0
    refine x_aload_n 0 d_B_findAutomorphisms_20 rfl ?_
    refine x_getI 11 2 d_B_findAutomorphisms_21 fg_11_16 rfl rfl (Nf_58 (by decide)) ?_
    refine x_icmp_ge 88 d_B_findAutomorphisms_24 (by decide) (fun c0 => ?_) (fun c0 => ?_)
    · have h := h.1 c0
      exact x_retV d_B_findAutomorphisms_88 rfl ⟨rfl, rfl⟩ h
    · have h := h.2 c0
      refine x_iconst (v := 0) d_B_findAutomorphisms_27 (by decide) ?_
      refine x_istore_n (L' := [(0, .ref 39), (1, .int x1), (2, .int 0)]) [1, 2, 0] d_B_findAutomorphisms_28 (by decide) rfl ?_
      exact h
  · have h := h.2 c0
    refine x_iconst (v := 1) d_B_findAutomorphisms_16 (by decide) ?_
    refine x_goto 24 d_B_findAutomorphisms_17 (by decide) ?_
    refine x_icmp_ge 88 d_B_findAutomorphisms_24 (by decide) (fun c0 => ?_) (fun c0 => ?_)
    · have h := h.1 c0
      exact x_retV d_B_findAutomorphisms_88 rfl ⟨rfl, rfl⟩ h
    · have h := h.2 c0
      refine x_iconst (v := 0) d_B_findAutomorphisms_27 (by decide) ?_
      refine x_istore_n (L' := [(0, .ref 39), (1, .int x1), (2, .int 0)]) [1, 2, 0] d_B_findAutomorphisms_28 (by decide) rfl ?_
      exact h
set_option maxHeartbeats 1000000 in
theorem w_B_findAutomorphisms_29 {x1 x2 : Int32} {w : Wd} {K : Wd → Prop} (h : ((w.1 39 2) ≤ x2 → ∀ a1 : Int32, a1 = x1 + 1 → E 1 M_B_findAutomorphisms 7 [(0, .ref 39), (1, .int a1)] [] w (qV 1 K)) ∧ (¬ (w.1 39 2) ≤ x2 → RunZ 1 M_B_isAutomorphism [.ref 39, .int x2, .int x1] w (fun z3 w2 => (z3 = false → ∀ a4 : Int32, a4 = x2 + 1 → E 1 M_B_findAutomorphisms 29 [(0, .ref 39), (1, .int x1), (2, .int a4)] [] w2 (qV 1 K)) ∧ (z3 = true → vp_in (w2.1 39 11) 500 ∧ ∀ w5 : Wd, w5 = upI w2 45 (w2.1 39 11).toNatClampNeg x2 → vp_in (w5.1 39 11) 500 ∧ ∀ w6 : Wd, w6 = upI w5 46 (w5.1 39 11).toNatClampNeg x1 → ∀ w7 : Wd, w7 = upI w6 39 11 ((w6.1 39 11) + 1) → ∀ a8 : Int32, a8 = x2 + 1 → E 1 M_B_findAutomorphisms 29 [(0, .ref 39), (1, .int x1), (2, .int a8)] [] w7 (qV 1 K))))) : E 1 M_B_findAutomorphisms 29 [(0, .ref 39), (1, .int x1), (2, .int x2)] [] w (qV 1 K) := by
  refine x_iload_n 2 d_B_findAutomorphisms_29 rfl ?_
  refine x_aload_n 0 d_B_findAutomorphisms_30 rfl ?_
  refine x_getI 11 2 d_B_findAutomorphisms_31 fg_11_16 rfl rfl (Nf_58 (by decide)) ?_
  refine x_icmp_ge 82 d_B_findAutomorphisms_34 (by decide) (fun c0 => ?_) (fun c0 => ?_)
  · have h := h.1 c0
    obtain ⟨a1, ea1⟩ : ∃ z : Int32, z = x1 + 1 := ⟨_, rfl⟩
    have h := h a1 ea1
    refine x_iincE (L' := [(0, .ref 39), (1, .int a1), (2, .int x2)]) 1 [1, 0, 2] d_B_findAutomorphisms_82 rfl ea1 (by decide) rfl ?_
    refine x_goto 7 d_B_findAutomorphisms_85 (by decide) ?_
    exact x_perm [0, 1] rfl h
  · have h := h.2 c0
    refine x_aload_n 0 d_B_findAutomorphisms_37 rfl ?_
    refine x_iload_n 2 d_B_findAutomorphisms_38 rfl ?_
    refine x_iload_n 1 d_B_findAutomorphisms_39 rfl ?_
    refine x_callVZ (st := []) M_B_isAutomorphism [.int x2, .int x1] d_B_findAutomorphisms_40 ml_11_101 cv_B_isAutomorphism rfl rfl (Nf_58 (by decide)) rfl (Nat.le_of_ble_eq_true rfl) ⟨Nat.le_of_ble_eq_true rfl, Nat.le_of_ble_eq_true rfl⟩ ⟨rfl, rfl⟩ h (fun z3 w2 h => ?_)
    refine x_zif_eq 76 d_B_findAutomorphisms_43 (by decide) (fun c0 => ?_) (fun c0 => ?_)
    · have h := h.1 c0
      obtain ⟨a4, ea4⟩ : ∃ z : Int32, z = x2 + 1 := ⟨_, rfl⟩
      have h := h a4 ea4
      refine x_iincE (L' := [(0, .ref 39), (1, .int x1), (2, .int a4)]) 2 [1, 2, 0] d_B_findAutomorphisms_76 rfl ea4 (by decide) rfl ?_
      refine x_goto 29 d_B_findAutomorphisms_79 (by decide) ?_
      exact h
    · have h := h.2 c0
      refine x_aload_n 0 d_B_findAutomorphisms_46 rfl ?_
      refine x_getR 11 12 45 d_B_findAutomorphisms_47 fg_11_41 rfl rfl rfl (Nf_58 (by decide)) ?_
      refine x_aload_n 0 d_B_findAutomorphisms_50 rfl ?_
      refine x_getI 11 11 d_B_findAutomorphisms_51 fg_11_98 rfl rfl (Nf_58 (by decide)) ?_
      refine x_iload_n 2 d_B_findAutomorphisms_54 rfl ?_
      obtain ⟨h0, h⟩ := h
      refine x_iastE d_B_findAutomorphisms_55 rfl (Nf_58 (by decide)) h0 (fun w5 ew5 => ?_)
      have h := h w5 ew5
      refine x_aload_n 0 d_B_findAutomorphisms_56 rfl ?_
      refine x_getR 11 13 46 d_B_findAutomorphisms_57 fg_11_44 rfl rfl rfl (Nf_58 (by decide)) ?_
      refine x_aload_n 0 d_B_findAutomorphisms_60 rfl ?_
      refine x_getI 11 11 d_B_findAutomorphisms_61 fg_11_98 rfl rfl (Nf_58 (by decide)) ?_
      refine x_iload_n 1 d_B_findAutomorphisms_64 rfl ?_
      obtain ⟨h0, h⟩ := h
      refine x_iastE d_B_findAutomorphisms_65 rfl (Nf_58 (by decide)) h0 (fun w6 ew6 => ?_)
      have h := h w6 ew6
      refine x_aload_n 0 d_B_findAutomorphisms_66 rfl ?_
      refine x_dup d_B_findAutomorphisms_67 rfl ?_
      refine x_getI 11 11 d_B_findAutomorphisms_68 fg_11_98 rfl rfl (Nf_58 (by decide)) ?_
      refine x_iconst (v := 1) d_B_findAutomorphisms_71 (by decide) ?_
      refine x_iadd d_B_findAutomorphisms_72 ?_
      refine x_putIE 11 11 d_B_findAutomorphisms_73 fp_11_98 rfl rfl (Nf_58 (by decide)) (fun w7 ew7 => ?_)
      have h := h w7 ew7
      obtain ⟨a8, ea8⟩ : ∃ z : Int32, z = x2 + 1 := ⟨_, rfl⟩
      have h := h a8 ea8
      refine x_iincE (L' := [(0, .ref 39), (1, .int x1), (2, .int a8)]) 2 [1, 2, 0] d_B_findAutomorphisms_76 rfl ea8 (by decide) rfl ?_
      refine x_goto 29 d_B_findAutomorphisms_79 (by decide) ?_
      exact h
set_option maxHeartbeats 1000000 in
theorem r_B_timesOf {x3 : Int32} {y1 : Int64} {w : Wd} {K : Int64 → Wd → Prop} (h : E 1 M_B_timesOf 6 [(0, .ref 39), (1, .long y1), (3, .int x3), (4, .long 0), (6, .int 0)] [] w (qL 1 K)) : RunL 1 M_B_timesOf [.ref 39, .long y1, .int x3] w K := by
  refine runs_of (L := [(0, .ref 39), (1, .long y1), (3, .int x3)]) rfl (Nat.le_of_ble_eq_true rfl) rfl ?_
  refine x_lconst (v := 0) d_B_timesOf_0 (by decide) ?_
  refine x_lstore (L' := [(0, .ref 39), (1, .long y1), (3, .int x3), (4, .long 0)]) [1, 2, 3, 0] d_B_timesOf_1 (by decide) rfl ?_
  refine x_iconst (v := 0) d_B_timesOf_3 (by decide) ?_
  refine x_istore (L' := [(0, .ref 39), (1, .long y1), (3, .int x3), (4, .long 0), (6, .int 0)]) [1, 2, 3, 4, 0] d_B_timesOf_4 (by decide) rfl ?_
  exact h
set_option maxHeartbeats 1000000 in
theorem w_B_timesOf_6 {x3 x6 : Int32} {y1 y4 : Int64} {w : Wd} {K : Int64 → Wd → Prop} (h : ((w.1 39 2) ≤ x6 → K y4 w) ∧ (¬ (w.1 39 2) ≤ x6 → RunZ 1 M_B_has [.long y1, .int x6] w (fun z2 w1 => (z2 = false → ∀ b3 : Int64, b3 = y4 ||| 0 → ∀ a4 : Int32, a4 = x6 + 1 → E 1 M_B_timesOf 6 [(0, .ref 39), (1, .long y1), (3, .int x3), (4, .long b3), (6, .int a4)] [] w1 (qL 1 K)) ∧ (z2 = true → RunI 1 M_B_times [.ref 39, .int x3, .int x6] w1 (fun r6 w5 => ∀ b7 : Int64, b7 = y4 ||| (1 <<< (r6.toInt64 &&& 63)) → ∀ a8 : Int32, a8 = x6 + 1 → E 1 M_B_timesOf 6 [(0, .ref 39), (1, .long y1), (3, .int x3), (4, .long b7), (6, .int a8)] [] w5 (qL 1 K)))))) : E 1 M_B_timesOf 6 [(0, .ref 39), (1, .long y1), (3, .int x3), (4, .long y4), (6, .int x6)] [] w (qL 1 K) := by
  refine x_iload 4 d_B_timesOf_6 rfl ?_
  refine x_aload_n 0 d_B_timesOf_8 rfl ?_
  refine x_getI 11 2 d_B_timesOf_9 fg_11_16 rfl rfl (Nf_58 (by decide)) ?_
  refine x_icmp_ge 48 d_B_timesOf_12 (by decide) (fun c0 => ?_) (fun c0 => ?_)
  · have h := h.1 c0
    refine x_lload 3 d_B_timesOf_48 rfl ?_
    exact x_retL d_B_timesOf_50 rfl ⟨rfl, rfl⟩ h
  · have h := h.2 c0
    refine x_lload 3 d_B_timesOf_15 rfl ?_
    refine x_lload_n 1 d_B_timesOf_17 rfl ?_
    refine x_iload 4 d_B_timesOf_18 rfl ?_
    refine x_callSZ (st := [.long y4]) M_B_has [.long y1, .int x6] d_B_timesOf_20 ml_11_134 cv_B_has rfl (Nat.le_of_ble_eq_true rfl) ⟨Nat.le_of_ble_eq_true rfl, Nat.le_of_ble_eq_true rfl⟩ ⟨rfl, rfl⟩ h (fun z2 w1 h => ?_)
    refine x_zif_eq 38 d_B_timesOf_23 (by decide) (fun c0 => ?_) (fun c0 => ?_)
    · have h := h.1 c0
      refine x_lconst (v := 0) d_B_timesOf_38 (by decide) ?_
      refine x_lor d_B_timesOf_39 ?_
      obtain ⟨b3, eb3⟩ : ∃ z : Int64, z = y4 ||| 0 := ⟨_, rfl⟩
      have h := h b3 eb3
      refine x_lstoreE (L' := [(0, .ref 39), (1, .long y1), (3, .int x3), (4, .long b3), (6, .int x6)]) [1, 2, 3, 0, 4] d_B_timesOf_40 (by decide) eb3 rfl ?_
      obtain ⟨a4, ea4⟩ : ∃ z : Int32, z = x6 + 1 := ⟨_, rfl⟩
      have h := h a4 ea4
      refine x_iincE (L' := [(0, .ref 39), (1, .long y1), (3, .int x3), (4, .long b3), (6, .int a4)]) 4 [1, 2, 3, 4, 0] d_B_timesOf_42 rfl ea4 (by decide) rfl ?_
      refine x_goto 6 d_B_timesOf_45 (by decide) ?_
      exact h
    · have h := h.2 c0
      refine x_lconst (v := 1) d_B_timesOf_26 (by decide) ?_
      refine x_aload_n 0 d_B_timesOf_27 rfl ?_
      refine x_iload_n 2 d_B_timesOf_28 rfl ?_
      refine x_iload 4 d_B_timesOf_29 rfl ?_
      refine x_callVI (st := [.long 1, .long y4]) M_B_times [.int x3, .int x6] d_B_timesOf_31 ml_11_87 cv_B_times rfl rfl (Nf_58 (by decide)) rfl (Nat.le_of_ble_eq_true rfl) ⟨Nat.le_of_ble_eq_true rfl, Nat.le_of_ble_eq_true rfl⟩ ⟨rfl, rfl⟩ h (fun r6 w5 h => ?_)
      refine x_lshl d_B_timesOf_34 ?_
      refine x_goto 39 d_B_timesOf_35 (by decide) ?_
      refine x_lor d_B_timesOf_39 ?_
      obtain ⟨b7, eb7⟩ : ∃ z : Int64, z = y4 ||| (1 <<< (r6.toInt64 &&& 63)) := ⟨_, rfl⟩
      have h := h b7 eb7
      refine x_lstoreE (L' := [(0, .ref 39), (1, .long y1), (3, .int x3), (4, .long b7), (6, .int x6)]) [1, 2, 3, 0, 4] d_B_timesOf_40 (by decide) eb7 rfl ?_
      obtain ⟨a8, ea8⟩ : ∃ z : Int32, z = x6 + 1 := ⟨_, rfl⟩
      have h := h a8 ea8
      refine x_iincE (L' := [(0, .ref 39), (1, .long y1), (3, .int x3), (4, .long b7), (6, .int a8)]) 4 [1, 2, 3, 4, 0] d_B_timesOf_42 rfl ea8 (by decide) rfl ?_
      refine x_goto 6 d_B_timesOf_45 (by decide) ?_
      exact h
set_option maxHeartbeats 1000000 in
theorem r_B_findCandidates {x1 x2 : Int32} {w : Wd} {K : Wd → Prop} (h : ∀ w1 : Wd, w1 = upI w 39 15 0 → ∀ b2 : Int64, b2 = 1 <<< ((w1.1 39 2).toInt64 &&& 63) → ∀ b3 : Int64, b3 = (1 <<< (x1.toInt64 &&& 63)) - 1 → E 1 M_B_findCandidates 19 [(0, .ref 39), (2, .int x2), (3, .long b2), (5, .long b3)] [] w1 (qV 1 K)) : RunV 1 M_B_findCandidates [.ref 39, .int x1, .int x2] w K := by
  refine runs_of (L := [(0, .ref 39), (1, .int x1), (2, .int x2)]) rfl (Nat.le_of_ble_eq_true rfl) rfl ?_
  refine x_aload_n 0 d_B_findCandidates_0 rfl ?_
  refine x_iconst (v := 0) d_B_findCandidates_1 (by decide) ?_
  refine x_putIE 11 15 d_B_findCandidates_2 fp_11_115 rfl rfl (Nf_58 (by decide)) (fun w1 ew1 => ?_)
  have h := h w1 ew1
  refine x_lconst (v := 1) d_B_findCandidates_5 (by decide) ?_
  refine x_aload_n 0 d_B_findCandidates_6 rfl ?_
  refine x_getI 11 2 d_B_findCandidates_7 fg_11_16 rfl rfl (Nf_58 (by decide)) ?_
  refine x_lshl d_B_findCandidates_10 ?_
  obtain ⟨b2, eb2⟩ : ∃ z : Int64, z = 1 <<< ((w1.1 39 2).toInt64 &&& 63) := ⟨_, rfl⟩
  have h := h b2 eb2
  refine x_lstore_nE (L' := [(0, .ref 39), (1, .int x1), (2, .int x2), (3, .long b2)]) [1, 2, 3, 0] d_B_findCandidates_11 (by decide) eb2 rfl ?_
  refine x_lconst (v := 1) d_B_findCandidates_12 (by decide) ?_
  refine x_iload_n 1 d_B_findCandidates_13 rfl ?_
  refine x_lshl d_B_findCandidates_14 ?_
  refine x_lconst (v := 1) d_B_findCandidates_15 (by decide) ?_
  refine x_lsub d_B_findCandidates_16 ?_
  obtain ⟨b3, eb3⟩ : ∃ z : Int64, z = (1 <<< (x1.toInt64 &&& 63)) - 1 := ⟨_, rfl⟩
  have h := h b3 eb3
  refine x_lstoreE (L' := [(0, .ref 39), (1, .int x1), (2, .int x2), (3, .long b2), (5, .long b3)]) [1, 2, 3, 4, 0] d_B_findCandidates_17 (by decide) eb3 rfl ?_
  exact x_perm [0, 2, 3, 4] rfl h
set_option maxHeartbeats 1000000 in
theorem w_B_findCandidates_19 {x2 : Int32} {y3 y5 : Int64} {w : Wd} {K : Wd → Prop} (h : (y3 ≤ y5 → K w) ∧ (¬ y3 ≤ y5 → RunL 1 M_B_normalOf [.ref 39, .long y5] w (fun r2 w1 => (¬ r2 = y5 → ∀ b3 : Int64, b3 = y5 &&& (-y5) → ∀ b4 : Int64, b4 = y5 + b3 → (¬ b3 = 0) ∧ ∀ b5 : Int64, b5 = b4 ||| (((y5 ^^^ b4) / b3) >>> ((2 : Int32).toInt64 &&& 63)) → E 1 M_B_findCandidates 19 [(0, .ref 39), (2, .int x2), (3, .long y3), (5, .long b5)] [] w1 (qV 1 K)) ∧ (r2 = y5 → RunL 1 M_B_timesOf [.ref 39, .long y5, .int x2] w1 (fun r7 w6 => RunL 1 M_B_normalOf [.ref 39, .long r7] w6 (fun r9 w8 => (¬ r9 = y5 → ∀ b10 : Int64, b10 = y5 &&& (-y5) → ∀ b11 : Int64, b11 = y5 + b10 → (¬ b10 = 0) ∧ ∀ b12 : Int64, b12 = b11 ||| (((y5 ^^^ b11) / b10) >>> ((2 : Int32).toInt64 &&& 63)) → E 1 M_B_findCandidates 19 [(0, .ref 39), (2, .int x2), (3, .long y3), (5, .long b12)] [] w8 (qV 1 K)) ∧ (r9 = y5 → vp_in (w8.1 39 15) 3000 ∧ ∀ w13 : Wd, w13 = upL w8 54 (w8.1 39 15).toNatClampNeg y5 → ∀ w14 : Wd, w14 = upI w13 39 15 ((w13.1 39 15) + 1) → ∀ b15 : Int64, b15 = y5 &&& (-y5) → ∀ b16 : Int64, b16 = y5 + b15 → (¬ b15 = 0) ∧ ∀ b17 : Int64, b17 = b16 ||| (((y5 ^^^ b16) / b15) >>> ((2 : Int32).toInt64 &&& 63)) → E 1 M_B_findCandidates 19 [(0, .ref 39), (2, .int x2), (3, .long y3), (5, .long b17)] [] w14 (qV 1 K)))))))) : E 1 M_B_findCandidates 19 [(0, .ref 39), (2, .int x2), (3, .long y3), (5, .long y5)] [] w (qV 1 K) := by
  refine x_lload 3 d_B_findCandidates_19 rfl ?_
  refine x_lload_n 2 d_B_findCandidates_21 rfl ?_
  refine x_lif_ge 109 d_B_findCandidates_22 d_B_findCandidates_23 (by decide) (fun c0 => ?_) (fun c0 => ?_)
  · have h := h.1 c0
    exact x_retV d_B_findCandidates_109 rfl ⟨rfl, rfl⟩ h
  · have h := h.2 c0
    refine x_aload_n 0 d_B_findCandidates_26 rfl ?_
    refine x_lload 3 d_B_findCandidates_27 rfl ?_
    refine x_callVL (st := []) M_B_normalOf [.long y5] d_B_findCandidates_29 ml_11_174 cv_B_normalOf rfl rfl (Nf_58 (by decide)) rfl (Nat.le_of_ble_eq_true rfl) ⟨Nat.le_of_ble_eq_true rfl, Nat.le_of_ble_eq_true rfl⟩ ⟨rfl, rfl⟩ h (fun r2 w1 h => ?_)
    refine x_lload 3 d_B_findCandidates_32 rfl ?_
    refine x_lif_ne 76 d_B_findCandidates_34 d_B_findCandidates_35 (by decide) (fun c0 => ?_) (fun c0 => ?_)
    · have h := h.1 c0
      refine x_lload 3 d_B_findCandidates_76 rfl ?_
      refine x_lload 3 d_B_findCandidates_78 rfl ?_
      refine x_lneg d_B_findCandidates_80 ?_
      refine x_land d_B_findCandidates_81 ?_
      obtain ⟨b3, eb3⟩ : ∃ z : Int64, z = y5 &&& (-y5) := ⟨_, rfl⟩
      have h := h b3 eb3
      refine x_lstoreE (L' := [(0, .ref 39), (2, .int x2), (3, .long y3), (5, .long y5), (7, .long b3)]) [1, 2, 3, 4, 0] d_B_findCandidates_82 (by decide) eb3 rfl ?_
      refine x_lload 3 d_B_findCandidates_84 rfl ?_
      refine x_lload 4 d_B_findCandidates_86 rfl ?_
      refine x_ladd d_B_findCandidates_88 ?_
      obtain ⟨b4, eb4⟩ : ∃ z : Int64, z = y5 + b3 := ⟨_, rfl⟩
      have h := h b4 eb4
      refine x_lstoreE (L' := [(0, .ref 39), (2, .int x2), (3, .long y3), (5, .long y5), (7, .long b3), (9, .long b4)]) [1, 2, 3, 4, 5, 0] d_B_findCandidates_89 (by decide) eb4 rfl ?_
      refine x_lload 5 d_B_findCandidates_91 rfl ?_
      refine x_lload 3 d_B_findCandidates_93 rfl ?_
      refine x_lload 5 d_B_findCandidates_95 rfl ?_
      refine x_lxor d_B_findCandidates_97 ?_
      refine x_lload 4 d_B_findCandidates_98 rfl ?_
      obtain ⟨h0, h⟩ := h
      refine x_ldiv d_B_findCandidates_100 h0 ?_
      refine x_iconst (v := 2) d_B_findCandidates_101 (by decide) ?_
      refine x_lshr d_B_findCandidates_102 ?_
      refine x_lor d_B_findCandidates_103 ?_
      obtain ⟨b5, eb5⟩ : ∃ z : Int64, z = b4 ||| (((y5 ^^^ b4) / b3) >>> ((2 : Int32).toInt64 &&& 63)) := ⟨_, rfl⟩
      have h := h b5 eb5
      refine x_lstoreE (L' := [(0, .ref 39), (2, .int x2), (3, .long y3), (5, .long b5), (7, .long b3), (9, .long b4)]) [1, 2, 3, 0, 4, 5] d_B_findCandidates_104 (by decide) eb5 rfl ?_
      refine x_goto 19 d_B_findCandidates_106 (by decide) ?_
      exact x_perm [0, 1, 2, 3] rfl h
    · have h := h.2 c0
      refine x_aload_n 0 d_B_findCandidates_38 rfl ?_
      refine x_aload_n 0 d_B_findCandidates_39 rfl ?_
      refine x_lload 3 d_B_findCandidates_40 rfl ?_
      refine x_iload_n 1 d_B_findCandidates_42 rfl ?_
      refine x_callVL (st := [.ref 39]) M_B_timesOf [.long y5, .int x2] d_B_findCandidates_43 ml_11_161 cv_B_timesOf rfl rfl (Nf_58 (by decide)) rfl (Nat.le_of_ble_eq_true rfl) ⟨Nat.le_of_ble_eq_true rfl, Nat.le_of_ble_eq_true rfl⟩ ⟨rfl, rfl⟩ h (fun r7 w6 h => ?_)
      refine x_callVL (st := []) M_B_normalOf [.long r7] d_B_findCandidates_46 ml_11_174 cv_B_normalOf rfl rfl (Nf_58 (by decide)) rfl (Nat.le_of_ble_eq_true rfl) ⟨Nat.le_of_ble_eq_true rfl, Nat.le_of_ble_eq_true rfl⟩ ⟨rfl, rfl⟩ h (fun r9 w8 h => ?_)
      refine x_lload 3 d_B_findCandidates_49 rfl ?_
      refine x_lif_ne 76 d_B_findCandidates_51 d_B_findCandidates_52 (by decide) (fun c0 => ?_) (fun c0 => ?_)
      · have h := h.1 c0
        refine x_lload 3 d_B_findCandidates_76 rfl ?_
        refine x_lload 3 d_B_findCandidates_78 rfl ?_
        refine x_lneg d_B_findCandidates_80 ?_
        refine x_land d_B_findCandidates_81 ?_
        obtain ⟨b10, eb10⟩ : ∃ z : Int64, z = y5 &&& (-y5) := ⟨_, rfl⟩
        have h := h b10 eb10
        refine x_lstoreE (L' := [(0, .ref 39), (2, .int x2), (3, .long y3), (5, .long y5), (7, .long b10)]) [1, 2, 3, 4, 0] d_B_findCandidates_82 (by decide) eb10 rfl ?_
        refine x_lload 3 d_B_findCandidates_84 rfl ?_
        refine x_lload 4 d_B_findCandidates_86 rfl ?_
        refine x_ladd d_B_findCandidates_88 ?_
        obtain ⟨b11, eb11⟩ : ∃ z : Int64, z = y5 + b10 := ⟨_, rfl⟩
        have h := h b11 eb11
        refine x_lstoreE (L' := [(0, .ref 39), (2, .int x2), (3, .long y3), (5, .long y5), (7, .long b10), (9, .long b11)]) [1, 2, 3, 4, 5, 0] d_B_findCandidates_89 (by decide) eb11 rfl ?_
        refine x_lload 5 d_B_findCandidates_91 rfl ?_
        refine x_lload 3 d_B_findCandidates_93 rfl ?_
        refine x_lload 5 d_B_findCandidates_95 rfl ?_
        refine x_lxor d_B_findCandidates_97 ?_
        refine x_lload 4 d_B_findCandidates_98 rfl ?_
        obtain ⟨h0, h⟩ := h
        refine x_ldiv d_B_findCandidates_100 h0 ?_
        refine x_iconst (v := 2) d_B_findCandidates_101 (by decide) ?_
        refine x_lshr d_B_findCandidates_102 ?_
        refine x_lor d_B_findCandidates_103 ?_
        obtain ⟨b12, eb12⟩ : ∃ z : Int64, z = b11 ||| (((y5 ^^^ b11) / b10) >>> ((2 : Int32).toInt64 &&& 63)) := ⟨_, rfl⟩
        have h := h b12 eb12
        refine x_lstoreE (L' := [(0, .ref 39), (2, .int x2), (3, .long y3), (5, .long b12), (7, .long b10), (9, .long b11)]) [1, 2, 3, 0, 4, 5] d_B_findCandidates_104 (by decide) eb12 rfl ?_
        refine x_goto 19 d_B_findCandidates_106 (by decide) ?_
        exact x_perm [0, 1, 2, 3] rfl h
      · have h := h.2 c0
        refine x_aload_n 0 d_B_findCandidates_55 rfl ?_
        refine x_getR 11 26 54 d_B_findCandidates_56 fg_11_68 rfl rfl rfl (Nf_58 (by decide)) ?_
        refine x_aload_n 0 d_B_findCandidates_59 rfl ?_
        refine x_getI 11 15 d_B_findCandidates_60 fg_11_115 rfl rfl (Nf_58 (by decide)) ?_
        refine x_lload 3 d_B_findCandidates_63 rfl ?_
        obtain ⟨h0, h⟩ := h
        refine x_lastE d_B_findCandidates_65 rfl (Nf_58 (by decide)) h0 (fun w13 ew13 => ?_)
        have h := h w13 ew13
        refine x_aload_n 0 d_B_findCandidates_66 rfl ?_
        refine x_dup d_B_findCandidates_67 rfl ?_
        refine x_getI 11 15 d_B_findCandidates_68 fg_11_115 rfl rfl (Nf_58 (by decide)) ?_
        refine x_iconst (v := 1) d_B_findCandidates_71 (by decide) ?_
        refine x_iadd d_B_findCandidates_72 ?_
        refine x_putIE 11 15 d_B_findCandidates_73 fp_11_115 rfl rfl (Nf_58 (by decide)) (fun w14 ew14 => ?_)
        have h := h w14 ew14
        refine x_lload 3 d_B_findCandidates_76 rfl ?_
        refine x_lload 3 d_B_findCandidates_78 rfl ?_
        refine x_lneg d_B_findCandidates_80 ?_
        refine x_land d_B_findCandidates_81 ?_
        obtain ⟨b15, eb15⟩ : ∃ z : Int64, z = y5 &&& (-y5) := ⟨_, rfl⟩
        have h := h b15 eb15
        refine x_lstoreE (L' := [(0, .ref 39), (2, .int x2), (3, .long y3), (5, .long y5), (7, .long b15)]) [1, 2, 3, 4, 0] d_B_findCandidates_82 (by decide) eb15 rfl ?_
        refine x_lload 3 d_B_findCandidates_84 rfl ?_
        refine x_lload 4 d_B_findCandidates_86 rfl ?_
        refine x_ladd d_B_findCandidates_88 ?_
        obtain ⟨b16, eb16⟩ : ∃ z : Int64, z = y5 + b15 := ⟨_, rfl⟩
        have h := h b16 eb16
        refine x_lstoreE (L' := [(0, .ref 39), (2, .int x2), (3, .long y3), (5, .long y5), (7, .long b15), (9, .long b16)]) [1, 2, 3, 4, 5, 0] d_B_findCandidates_89 (by decide) eb16 rfl ?_
        refine x_lload 5 d_B_findCandidates_91 rfl ?_
        refine x_lload 3 d_B_findCandidates_93 rfl ?_
        refine x_lload 5 d_B_findCandidates_95 rfl ?_
        refine x_lxor d_B_findCandidates_97 ?_
        refine x_lload 4 d_B_findCandidates_98 rfl ?_
        obtain ⟨h0, h⟩ := h
        refine x_ldiv d_B_findCandidates_100 h0 ?_
        refine x_iconst (v := 2) d_B_findCandidates_101 (by decide) ?_
        refine x_lshr d_B_findCandidates_102 ?_
        refine x_lor d_B_findCandidates_103 ?_
        obtain ⟨b17, eb17⟩ : ∃ z : Int64, z = b16 ||| (((y5 ^^^ b16) / b15) >>> ((2 : Int32).toInt64 &&& 63)) := ⟨_, rfl⟩
        have h := h b17 eb17
        refine x_lstoreE (L' := [(0, .ref 39), (2, .int x2), (3, .long y3), (5, .long b17), (7, .long b15), (9, .long b16)]) [1, 2, 3, 0, 4, 5] d_B_findCandidates_104 (by decide) eb17 rfl ?_
        refine x_goto 19 d_B_findCandidates_106 (by decide) ?_
        exact x_perm [0, 1, 2, 3] rfl h
