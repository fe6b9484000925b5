set_option maxHeartbeats 1000000 in
theorem r_B_greatestCount {w : Wd} {K : Int32 → Wd → Prop} (h : RunV 1 M_B_counts [.ref 39, .ref 40, .int 6] w (fun w1 => E 1 M_B_greatestCount 14 [(0, .ref 39), (1, .int 0), (2, .int 1)] [] w1 (qI 1 K))) : RunI 1 M_B_greatestCount [.ref 39] w K := by
  refine runs_of (L := [(0, .ref 39)]) rfl (Nat.le_of_ble_eq_true rfl) rfl ?_
  refine x_aload_n 0 d_B_greatestCount_0 rfl ?_
  refine x_aload_n 0 d_B_greatestCount_1 rfl ?_
  refine x_getR 11 4 40 d_B_greatestCount_2 fg_11_23 rfl rfl rfl (Nf_58 (by decide)) ?_
  refine x_bipush (v := 6) d_B_greatestCount_5 (by decide) ?_
  refine x_callVV (st := []) M_B_counts [.ref 40, .int 6] d_B_greatestCount_7 ml_11_181 cv_B_counts rfl rfl (Nf_58 (by decide)) rfl (Nat.le_of_ble_eq_true rfl) ⟨Nat.le_of_ble_eq_true rfl, Nat.le_of_ble_eq_true rfl⟩ ⟨rfl, rfl⟩ h (fun w1 h => ?_)
  refine x_iconst (v := 0) d_B_greatestCount_10 (by decide) ?_
  refine x_istore_n (L' := [(0, .ref 39), (1, .int 0)]) [1, 0] d_B_greatestCount_11 (by decide) rfl ?_
  refine x_iconst (v := 1) d_B_greatestCount_12 (by decide) ?_
  refine x_istore_n (L' := [(0, .ref 39), (1, .int 0), (2, .int 1)]) [1, 2, 0] d_B_greatestCount_13 (by decide) rfl ?_
  exact h
set_option maxHeartbeats 1000000 in
theorem w_B_greatestCount_14 {x1 x2 : Int32} {w : Wd} {K : Int32 → Wd → Prop} (h : ((w.1 39 2) ≤ x2 → K x1 w) ∧ (¬ (w.1 39 2) ≤ x2 → vp_in x2 40 ∧ ((w.1 48 x2.toNatClampNeg) ≤ x1 → ∀ a1 : Int32, a1 = x2 + 1 → E 1 M_B_greatestCount 14 [(0, .ref 39), (1, .int x1), (2, .int a1)] [] w (qI 1 K)) ∧ (¬ (w.1 48 x2.toNatClampNeg) ≤ x1 → vp_in x2 40 ∧ ∀ a2 : Int32, a2 = w.1 48 x2.toNatClampNeg → ∀ a3 : Int32, a3 = x2 + 1 → E 1 M_B_greatestCount 14 [(0, .ref 39), (1, .int a2), (2, .int a3)] [] w (qI 1 K)))) : E 1 M_B_greatestCount 14 [(0, .ref 39), (1, .int x1), (2, .int x2)] [] w (qI 1 K) := by
  refine x_iload_n 2 d_B_greatestCount_14 rfl ?_
  refine x_aload_n 0 d_B_greatestCount_15 rfl ?_
  refine x_getI 11 2 d_B_greatestCount_16 fg_11_16 rfl rfl (Nf_58 (by decide)) ?_
  refine x_icmp_ge 49 d_B_greatestCount_19 (by decide) (fun c0 => ?_) (fun c0 => ?_)
  · have h := h.1 c0
    refine x_iload_n 1 d_B_greatestCount_49 rfl ?_
    exact x_retI d_B_greatestCount_50 rfl ⟨rfl, rfl⟩ h
  · have h := h.2 c0
    refine x_aload_n 0 d_B_greatestCount_22 rfl ?_
    refine x_getR 11 18 48 d_B_greatestCount_23 fg_11_50 rfl rfl rfl (Nf_58 (by decide)) ?_
    refine x_iload_n 2 d_B_greatestCount_26 rfl ?_
    obtain ⟨h0, h⟩ := h
    refine x_iald d_B_greatestCount_27 rfl (Nf_58 (by decide)) h0 ?_
    refine x_iload_n 1 d_B_greatestCount_28 rfl ?_
    refine x_icmp_le 41 d_B_greatestCount_29 (by decide) (fun c0 => ?_) (fun c0 => ?_)
    · have h := h.1 c0
      refine x_iload_n 1 d_B_greatestCount_41 rfl ?_
      refine x_istore_n (L' := [(0, .ref 39), (1, .int x1), (2, .int x2)]) [1, 0, 2] d_B_greatestCount_42 (by decide) rfl ?_
      obtain ⟨a1, ea1⟩ : ∃ z : Int32, z = x2 + 1 := ⟨_, rfl⟩
      have h := h a1 ea1
      refine x_iincE (L' := [(0, .ref 39), (1, .int x1), (2, .int a1)]) 2 [1, 2, 0] d_B_greatestCount_43 rfl ea1 (by decide) rfl ?_
      refine x_goto 14 d_B_greatestCount_46 (by decide) ?_
      exact h
    · have h := h.2 c0
      refine x_aload_n 0 d_B_greatestCount_32 rfl ?_
      refine x_getR 11 18 48 d_B_greatestCount_33 fg_11_50 rfl rfl rfl (Nf_58 (by decide)) ?_
      refine x_iload_n 2 d_B_greatestCount_36 rfl ?_
      obtain ⟨h0, h⟩ := h
      refine x_iald d_B_greatestCount_37 rfl (Nf_58 (by decide)) h0 ?_
      refine x_goto 42 d_B_greatestCount_38 (by decide) ?_
      obtain ⟨a2, ea2⟩ : ∃ z : Int32, z = w.1 48 x2.toNatClampNeg := ⟨_, rfl⟩
      have h := h a2 ea2
      refine x_istore_nE (L' := [(0, .ref 39), (1, .int a2), (2, .int x2)]) [1, 0, 2] d_B_greatestCount_42 (by decide) ea2 rfl ?_
      obtain ⟨a3, ea3⟩ : ∃ z : Int32, z = x2 + 1 := ⟨_, rfl⟩
      have h := h a3 ea3
      refine x_iincE (L' := [(0, .ref 39), (1, .int a2), (2, .int a3)]) 2 [1, 2, 0] d_B_greatestCount_43 rfl ea3 (by decide) rfl ?_
      refine x_goto 14 d_B_greatestCount_46 (by decide) ?_
      exact h
set_option maxHeartbeats 1000000 in
theorem r_B_hole {w : Wd} {K : Int64 → Wd → Prop} (h : K (w.2 39 3) w) : RunL 1 M_B_hole [.ref 39] w K := by
  refine runs_of (L := [(0, .ref 39)]) rfl (Nat.le_of_ble_eq_true rfl) rfl ?_
  refine x_aload_n 0 d_B_hole_0 rfl ?_
  refine x_getL 11 3 d_B_hole_1 fg_11_19 rfl rfl (Nf_58 (by decide)) ?_
  exact x_retL d_B_hole_4 rfl ⟨rfl, rfl⟩ h
set_option maxHeartbeats 1000000 in
theorem r_B_image {x1 x2 : Int32} {w : Wd} {K : Int32 → Wd → Prop} (h : RunZ 1 M_B_isNumber [.ref 39, .int x1] w (fun z2 w1 => (z2 = false → K ((-1)) w1) ∧ (z2 = true → RunZ 1 M_B_isElement [.ref 39, .int x2] w1 (fun z4 w3 => (z4 = false → K ((-1)) w3) ∧ (z4 = true → vp_in x1 500 ∧ vp_in x1 500 ∧ RunI 1 M_B_maps [.ref 39, .int (w3.1 45 x1.toNatClampNeg), .int (w3.1 46 x1.toNatClampNeg), .int x2] w3 (fun r6 w5 => K r6 w5)))))) : RunI 1 M_B_image [.ref 39, .int x1, .int x2] w K := by
  refine runs_of (L := [(0, .ref 39), (1, .int x1), (2, .int x2)]) rfl (Nat.le_of_ble_eq_true rfl) rfl ?_
  refine x_aload_n 0 d_B_image_0 rfl ?_
  refine x_iload_n 1 d_B_image_1 rfl ?_
  refine x_callVZ (st := []) M_B_isNumber [.int x1] d_B_image_2 ml_11_127 cv_B_isNumber rfl rfl (Nf_58 (by decide)) rfl (Nat.le_of_ble_eq_true rfl) ⟨Nat.le_of_ble_eq_true rfl, Nat.le_of_ble_eq_true rfl⟩ ⟨rfl, rfl⟩ h (fun z2 w1 h => ?_)
  refine x_zif_eq 36 d_B_image_5 (by decide) (fun c0 => ?_) (fun c0 => ?_)
  · have h := h.1 c0
    refine x_iconst (v := (-1)) d_B_image_36 (by decide) ?_
    exact x_retI d_B_image_37 rfl ⟨rfl, rfl⟩ h
  · have h := h.2 c0
    refine x_aload_n 0 d_B_image_8 rfl ?_
    refine x_iload_n 2 d_B_image_9 rfl ?_
    refine x_callVZ (st := []) M_B_isElement [.int x2] d_B_image_10 ml_11_121 cv_B_isElement rfl rfl (Nf_58 (by decide)) rfl (Nat.le_of_ble_eq_true rfl) ⟨Nat.le_of_ble_eq_true rfl, Nat.le_of_ble_eq_true rfl⟩ ⟨rfl, rfl⟩ h (fun z4 w3 h => ?_)
    refine x_zif_eq 36 d_B_image_13 (by decide) (fun c0 => ?_) (fun c0 => ?_)
    · have h := h.1 c0
      refine x_iconst (v := (-1)) d_B_image_36 (by decide) ?_
      exact x_retI d_B_image_37 rfl ⟨rfl, rfl⟩ h
    · have h := h.2 c0
      refine x_aload_n 0 d_B_image_16 rfl ?_
      refine x_aload_n 0 d_B_image_17 rfl ?_
      refine x_getR 11 12 45 d_B_image_18 fg_11_41 rfl rfl rfl (Nf_58 (by decide)) ?_
      refine x_iload_n 1 d_B_image_21 rfl ?_
      obtain ⟨h0, h⟩ := h
      refine x_iald d_B_image_22 rfl (Nf_58 (by decide)) h0 ?_
      refine x_aload_n 0 d_B_image_23 rfl ?_
      refine x_getR 11 13 46 d_B_image_24 fg_11_44 rfl rfl rfl (Nf_58 (by decide)) ?_
      refine x_iload_n 1 d_B_image_27 rfl ?_
      obtain ⟨h0, h⟩ := h
      refine x_iald d_B_image_28 rfl (Nf_58 (by decide)) h0 ?_
      refine x_iload_n 2 d_B_image_29 rfl ?_
      refine x_callVI (st := []) M_B_maps [.int (w3.1 45 x1.toNatClampNeg), .int (w3.1 46 x1.toNatClampNeg), .int x2] d_B_image_30 ml_11_94 cv_B_maps rfl rfl (Nf_58 (by decide)) rfl (Nat.le_of_ble_eq_true rfl) ⟨Nat.le_of_ble_eq_true rfl, Nat.le_of_ble_eq_true rfl⟩ ⟨rfl, rfl⟩ h (fun r6 w5 h => ?_)
      refine x_goto 37 d_B_image_33 (by decide) ?_
      exact x_retI d_B_image_37 rfl ⟨rfl, rfl⟩ h
set_option maxHeartbeats 1000000 in
theorem r_B_improve {x1 : Int32} {w : Wd} {K : Int32 → Wd → Prop} (h : RunZ 1 M_B_in [.long x1.toInt64, .long 1, .long 20] w (fun z2 w1 => (z2 = true → RunI 1 M_B_lack [.ref 39, .int x1] w1 (fun r4 w3 => ∀ a5 : Int32, a5 = (-1) → E 1 M_B_improve 28 [(0, .ref 39), (1, .int x1), (2, .int r4), (3, .int a5), (4, .long 0), (6, .int 0)] [] w3 (qI 1 K))) ∧ (z2 = false → K ((-1)) w1))) : RunI 1 M_B_improve [.ref 39, .int x1] w K := by
  refine runs_of (L := [(0, .ref 39), (1, .int x1)]) rfl (Nat.le_of_ble_eq_true rfl) rfl ?_
  refine x_iload_n 1 d_B_improve_0 rfl ?_
  refine x_i2l d_B_improve_1 ?_
  refine x_lconst (v := 1) d_B_improve_2 (by decide) ?_
  refine x_ldc2 (v := 20) d_B_improve_3 mw_1175 ?_
  refine x_callSZ (st := []) M_B_in [.long x1.toInt64, .long 1, .long 20] d_B_improve_6 ml_11_83 cv_B_in rfl (Nat.le_of_ble_eq_true rfl) ⟨Nat.le_of_ble_eq_true rfl, Nat.le_of_ble_eq_true rfl⟩ ⟨rfl, rfl⟩ h (fun z2 w1 h => ?_)
  refine x_zif_ne 14 d_B_improve_9 (by decide) (fun c0 => ?_) (fun c0 => ?_)
  · have h := h.1 c0
    refine x_aload_n 0 d_B_improve_14 rfl ?_
    refine x_iload_n 1 d_B_improve_15 rfl ?_
    refine x_callVI (st := []) M_B_lack [.int x1] d_B_improve_16 ml_11_164 cv_B_lack rfl rfl (Nf_58 (by decide)) rfl (Nat.le_of_ble_eq_true rfl) ⟨Nat.le_of_ble_eq_true rfl, Nat.le_of_ble_eq_true rfl⟩ ⟨rfl, rfl⟩ h (fun r4 w3 h => ?_)
    refine x_istore_n (L' := [(0, .ref 39), (1, .int x1), (2, .int r4)]) [1, 2, 0] d_B_improve_19 (by decide) rfl ?_
    refine x_iconst (v := (-1)) d_B_improve_20 (by decide) ?_
    obtain ⟨a5, ea5⟩ : ∃ z : Int32, z = (-1) := ⟨_, rfl⟩
    have h := h a5 ea5
    refine x_istore_nE (L' := [(0, .ref 39), (1, .int x1), (2, .int r4), (3, .int a5)]) [1, 2, 3, 0] d_B_improve_21 (by decide) ea5 rfl ?_
    refine x_lconst (v := 0) d_B_improve_22 (by decide) ?_
    refine x_lstore (L' := [(0, .ref 39), (1, .int x1), (2, .int r4), (3, .int a5), (4, .long 0)]) [1, 2, 3, 4, 0] d_B_improve_23 (by decide) rfl ?_
    refine x_iconst (v := 0) d_B_improve_25 (by decide) ?_
    refine x_istore (L' := [(0, .ref 39), (1, .int x1), (2, .int r4), (3, .int a5), (4, .long 0), (6, .int 0)]) [1, 2, 3, 4, 5, 0] d_B_improve_26 (by decide) rfl ?_
    exact h
  · have h := h.2 c0
    refine x_iconst (v := (-1)) d_B_improve_12 (by decide) ?_
    exact x_retI d_B_improve_13 rfl ⟨rfl, rfl⟩ h
set_option maxHeartbeats 1000000 in
theorem w_B_improve_28 {x1 x2 x3 x6 : Int32} {y4 : Int64} {w : Wd} {K : Int32 → Wd → Prop} (h : (6 ≤ x6 → (0 ≤ x3 → RunI 1 M_B_becomes [.ref 39, .int x3, .long y4] w (fun r2 w1 => K x2 w1)) ∧ (¬ 0 ≤ x3 → K ((-4)) w)) ∧ (¬ 6 ≤ x6 → vp_in x6 6 ∧ ∀ b3 : Int64, b3 = w.2 40 x6.toNatClampNeg → E 1 M_B_improve 47 [(0, .ref 39), (1, .int x1), (2, .int x2), (3, .int x3), (4, .long y4), (6, .int x6), (7, .long b3), (9, .int 0)] [] w (qI 1 K))) : E 1 M_B_improve 28 [(0, .ref 39), (1, .int x1), (2, .int x2), (3, .int x3), (4, .long y4), (6, .int x6)] [] w (qI 1 K) := by
  refine x_iload 5 d_B_improve_28 rfl ?_
  refine x_bipush (v := 6) d_B_improve_30 (by decide) ?_
  refine x_icmp_ge 162 d_B_improve_32 (by decide) (fun c0 => ?_) (fun c0 => ?_)
  · have h := h.1 c0
    refine x_iload_n 3 d_B_improve_162 rfl ?_
    refine x_if_ge 169 d_B_improve_163 (by decide) (fun c0 => ?_) (fun c0 => ?_)
    · have h := h.1 c0
      refine x_aload_n 0 d_B_improve_169 rfl ?_
      refine x_iload_n 3 d_B_improve_170 rfl ?_
      refine x_lload 4 d_B_improve_171 rfl ?_
      refine x_callVI (st := []) M_B_becomes [.int x3, .long y4] d_B_improve_173 ml_11_150 cv_B_becomes rfl rfl (Nf_58 (by decide)) rfl (Nat.le_of_ble_eq_true rfl) ⟨Nat.le_of_ble_eq_true rfl, Nat.le_of_ble_eq_true rfl⟩ ⟨rfl, rfl⟩ h (fun r2 w1 h => ?_)
      refine x_istore (L' := [(0, .ref 39), (1, .int x1), (2, .int x2), (3, .int x3), (4, .long y4), (6, .int r2)]) [1, 2, 3, 4, 5, 0] d_B_improve_176 (by decide) rfl ?_
      refine x_iload_n 2 d_B_improve_178 rfl ?_
      exact x_retI d_B_improve_179 rfl ⟨rfl, rfl⟩ h
    · have h := h.2 c0
      refine x_bipush (v := (-4)) d_B_improve_166 (by decide) ?_
      exact x_retI d_B_improve_168 rfl ⟨rfl, rfl⟩ h
  · have h := h.2 c0
    refine x_aload_n 0 d_B_improve_35 rfl ?_
    refine x_getR 11 4 40 d_B_improve_36 fg_11_23 rfl rfl rfl (Nf_58 (by decide)) ?_
    refine x_iload 5 d_B_improve_39 rfl ?_
    obtain ⟨h0, h⟩ := h
    refine x_lald d_B_improve_41 rfl (Nf_58 (by decide)) h0 ?_
    obtain ⟨b3, eb3⟩ : ∃ z : Int64, z = w.2 40 x6.toNatClampNeg := ⟨_, rfl⟩
    have h := h b3 eb3
    refine x_lstoreE (L' := [(0, .ref 39), (1, .int x1), (2, .int x2), (3, .int x3), (4, .long y4), (6, .int x6), (7, .long b3)]) [1, 2, 3, 4, 5, 6, 0] d_B_improve_42 (by decide) eb3 rfl ?_
    refine x_iconst (v := 0) d_B_improve_44 (by decide) ?_
    refine x_istore (L' := [(0, .ref 39), (1, .int x1), (2, .int x2), (3, .int x3), (4, .long y4), (6, .int x6), (7, .long b3), (9, .int 0)]) [1, 2, 3, 4, 5, 6, 7, 0] d_B_improve_45 (by decide) rfl ?_
    exact h
set_option maxHeartbeats 1000000 in
theorem w_B_improve_47 {x1 x2 x3 x6 x9 : Int32} {y4 y7 : Int64} {w : Wd} {K : Int32 → Wd → Prop} (h : ((w.1 39 2) ≤ x9 → vp_in x6 6 ∧ ∀ w1 : Wd, w1 = upL w 40 x6.toNatClampNeg y7 → ∀ a2 : Int32, a2 = x6 + 1 → E 1 M_B_improve 28 [(0, .ref 39), (1, .int x1), (2, .int x2), (3, .int x3), (4, .long y4), (6, .int a2)] [] w1 (qI 1 K)) ∧ (¬ (w.1 39 2) ≤ x9 → E 1 M_B_improve 59 [(0, .ref 39), (1, .int x1), (2, .int x2), (3, .int x3), (4, .long y4), (6, .int x6), (7, .long y7), (9, .int x9), (10, .int 0)] [] w (qI 1 K))) : E 1 M_B_improve 47 [(0, .ref 39), (1, .int x1), (2, .int x2), (3, .int x3), (4, .long y4), (6, .int x6), (7, .long y7), (9, .int x9)] [] w (qI 1 K) := by
  refine x_iload 7 d_B_improve_47 rfl ?_
  refine x_aload_n 0 d_B_improve_49 rfl ?_
  refine x_getI 11 2 d_B_improve_50 fg_11_16 rfl rfl (Nf_58 (by decide)) ?_
  refine x_icmp_ge 147 d_B_improve_53 (by decide) (fun c0 => ?_) (fun c0 => ?_)
  · have h := h.1 c0
    refine x_aload_n 0 d_B_improve_147 rfl ?_
    refine x_getR 11 4 40 d_B_improve_148 fg_11_23 rfl rfl rfl (Nf_58 (by decide)) ?_
    refine x_iload 5 d_B_improve_151 rfl ?_
    refine x_lload 6 d_B_improve_153 rfl ?_
    obtain ⟨h0, h⟩ := h
    refine x_lastE d_B_improve_155 rfl (Nf_58 (by decide)) h0 (fun w1 ew1 => ?_)
    have h := h w1 ew1
    obtain ⟨a2, ea2⟩ : ∃ z : Int32, z = x6 + 1 := ⟨_, rfl⟩
    have h := h a2 ea2
    refine x_iincE (L' := [(0, .ref 39), (1, .int x1), (2, .int x2), (3, .int x3), (4, .long y4), (6, .int a2), (7, .long y7), (9, .int x9)]) 5 [1, 2, 3, 4, 5, 0, 6, 7] d_B_improve_156 rfl ea2 (by decide) rfl ?_
    refine x_goto 28 d_B_improve_159 (by decide) ?_
    exact x_perm [0, 1, 2, 3, 4, 5] rfl h
  · have h := h.2 c0
    refine x_iconst (v := 0) d_B_improve_56 (by decide) ?_
    refine x_istore (L' := [(0, .ref 39), (1, .int x1), (2, .int x2), (3, .int x3), (4, .long y4), (6, .int x6), (7, .long y7), (9, .int x9), (10, .int 0)]) [1, 2, 3, 4, 5, 6, 7, 8, 0] d_B_improve_57 (by decide) rfl ?_
    exact h
set_option maxHeartbeats 1000000 in
theorem w_B_improve_59 {x1 x2 x3 x6 x9 x10 : Int32} {y4 y7 : Int64} {w : Wd} {K : Int32 → Wd → Prop} (h : ((w.1 39 2) ≤ x10 → ∀ a1 : Int32, a1 = x9 + 1 → E 1 M_B_improve 47 [(0, .ref 39), (1, .int x1), (2, .int x2), (3, .int x3), (4, .long y4), (6, .int x6), (7, .long y7), (9, .int a1)] [] w (qI 1 K)) ∧ (¬ (w.1 39 2) ≤ x10 → RunZ 1 M_B_has [.long y7, .int x9] w (fun z3 w2 => (z3 = false → ∀ a4 : Int32, a4 = x9 + 1 → E 1 M_B_improve 47 [(0, .ref 39), (1, .int x1), (2, .int x2), (3, .int x3), (4, .long y4), (6, .int x6), (7, .long y7), (9, .int a4)] [] w2 (qI 1 K)) ∧ (z3 = true → RunZ 1 M_B_has [.long y7, .int x10] w2 (fun z6 w5 => (z6 = true → ∀ a7 : Int32, a7 = x10 + 1 → E 1 M_B_improve 59 [(0, .ref 39), (1, .int x1), (2, .int x2), (3, .int x3), (4, .long y4), (6, .int x6), (7, .long y7), (9, .int x9), (10, .int a7)] [] w5 (qI 1 K)) ∧ (z6 = false → vp_in x6 6 ∧ ∀ w8 : Wd, w8 = upL w5 40 x6.toNatClampNeg ((y7 ^^^ (1 <<< (x9.toInt64 &&& 63))) ^^^ (1 <<< (x10.toInt64 &&& 63))) → RunI 1 M_B_lack [.ref 39, .int x1] w8 (fun r10 w9 => (x2 ≤ r10 → ∀ a11 : Int32, a11 = x10 + 1 → E 1 M_B_improve 59 [(0, .ref 39), (1, .int x1), (2, .int x2), (3, .int x3), (4, .long y4), (6, .int x6), (7, .long y7), (9, .int x9), (10, .int a11)] [] w9 (qI 1 K)) ∧ (¬ x2 ≤ r10 → vp_in x6 6 ∧ ∀ b12 : Int64, b12 = w9.2 40 x6.toNatClampNeg → ∀ a13 : Int32, a13 = x10 + 1 → E 1 M_B_improve 59 [(0, .ref 39), (1, .int x1), (2, .int r10), (3, .int x6), (4, .long b12), (6, .int x6), (7, .long y7), (9, .int x9), (10, .int a13)] [] w9 (qI 1 K))))))))) : E 1 M_B_improve 59 [(0, .ref 39), (1, .int x1), (2, .int x2), (3, .int x3), (4, .long y4), (6, .int x6), (7, .long y7), (9, .int x9), (10, .int x10)] [] w (qI 1 K) := by
  refine x_iload 8 d_B_improve_59 rfl ?_
  refine x_aload_n 0 d_B_improve_61 rfl ?_
  refine x_getI 11 2 d_B_improve_62 fg_11_16 rfl rfl (Nf_58 (by decide)) ?_
  refine x_icmp_ge 141 d_B_improve_65 (by decide) (fun c0 => ?_) (fun c0 => ?_)
  · have h := h.1 c0
    obtain ⟨a1, ea1⟩ : ∃ z : Int32, z = x9 + 1 := ⟨_, rfl⟩
    have h := h a1 ea1
    refine x_iincE (L' := [(0, .ref 39), (1, .int x1), (2, .int x2), (3, .int x3), (4, .long y4), (6, .int x6), (7, .long y7), (9, .int a1), (10, .int x10)]) 7 [1, 2, 3, 4, 5, 6, 7, 0, 8] d_B_improve_141 rfl ea1 (by decide) rfl ?_
    refine x_goto 47 d_B_improve_144 (by decide) ?_
    exact x_perm [0, 1, 2, 3, 4, 5, 6, 7] rfl h
  · have h := h.2 c0
    refine x_lload 6 d_B_improve_68 rfl ?_
    refine x_iload 7 d_B_improve_70 rfl ?_
    refine x_callSZ (st := []) M_B_has [.long y7, .int x9] d_B_improve_72 ml_11_134 cv_B_has rfl (Nat.le_of_ble_eq_true rfl) ⟨Nat.le_of_ble_eq_true rfl, Nat.le_of_ble_eq_true rfl⟩ ⟨rfl, rfl⟩ h (fun z3 w2 h => ?_)
    refine x_zif_eq 141 d_B_improve_75 (by decide) (fun c0 => ?_) (fun c0 => ?_)
    · have h := h.1 c0
      obtain ⟨a4, ea4⟩ : ∃ z : Int32, z = x9 + 1 := ⟨_, rfl⟩
      have h := h a4 ea4
      refine x_iincE (L' := [(0, .ref 39), (1, .int x1), (2, .int x2), (3, .int x3), (4, .long y4), (6, .int x6), (7, .long y7), (9, .int a4), (10, .int x10)]) 7 [1, 2, 3, 4, 5, 6, 7, 0, 8] d_B_improve_141 rfl ea4 (by decide) rfl ?_
      refine x_goto 47 d_B_improve_144 (by decide) ?_
      exact x_perm [0, 1, 2, 3, 4, 5, 6, 7] rfl h
    · have h := h.2 c0
      refine x_lload 6 d_B_improve_78 rfl ?_
      refine x_iload 8 d_B_improve_80 rfl ?_
      refine x_callSZ (st := []) M_B_has [.long y7, .int x10] d_B_improve_82 ml_11_134 cv_B_has rfl (Nat.le_of_ble_eq_true rfl) ⟨Nat.le_of_ble_eq_true rfl, Nat.le_of_ble_eq_true rfl⟩ ⟨rfl, rfl⟩ h (fun z6 w5 h => ?_)
      refine x_zif_ne 135 d_B_improve_85 (by decide) (fun c0 => ?_) (fun c0 => ?_)
      · have h := h.1 c0
        obtain ⟨a7, ea7⟩ : ∃ z : Int32, z = x10 + 1 := ⟨_, rfl⟩
        have h := h a7 ea7
        refine x_iincE (L' := [(0, .ref 39), (1, .int x1), (2, .int x2), (3, .int x3), (4, .long y4), (6, .int x6), (7, .long y7), (9, .int x9), (10, .int a7)]) 8 [1, 2, 3, 4, 5, 6, 7, 8, 0] d_B_improve_135 rfl ea7 (by decide) rfl ?_
        refine x_goto 59 d_B_improve_138 (by decide) ?_
        exact h
      · have h := h.2 c0
        refine x_aload_n 0 d_B_improve_88 rfl ?_
        refine x_getR 11 4 40 d_B_improve_89 fg_11_23 rfl rfl rfl (Nf_58 (by decide)) ?_
        refine x_iload 5 d_B_improve_92 rfl ?_
        refine x_lload 6 d_B_improve_94 rfl ?_
        refine x_lconst (v := 1) d_B_improve_96 (by decide) ?_
        refine x_iload 7 d_B_improve_97 rfl ?_
        refine x_lshl d_B_improve_99 ?_
        refine x_lxor d_B_improve_100 ?_
        refine x_lconst (v := 1) d_B_improve_101 (by decide) ?_
        refine x_iload 8 d_B_improve_102 rfl ?_
        refine x_lshl d_B_improve_104 ?_
        refine x_lxor d_B_improve_105 ?_
        obtain ⟨h0, h⟩ := h
        refine x_lastE d_B_improve_106 rfl (Nf_58 (by decide)) h0 (fun w8 ew8 => ?_)
        have h := h w8 ew8
        refine x_aload_n 0 d_B_improve_107 rfl ?_
        refine x_iload_n 1 d_B_improve_108 rfl ?_
        refine x_callVI (st := []) M_B_lack [.int x1] d_B_improve_109 ml_11_164 cv_B_lack rfl rfl (Nf_58 (by decide)) rfl (Nat.le_of_ble_eq_true rfl) ⟨Nat.le_of_ble_eq_true rfl, Nat.le_of_ble_eq_true rfl⟩ ⟨rfl, rfl⟩ h (fun r10 w9 h => ?_)
        refine x_istore (L' := [(0, .ref 39), (1, .int x1), (2, .int x2), (3, .int x3), (4, .long y4), (6, .int x6), (7, .long y7), (9, .int x9), (10, .int x10), (11, .int r10)]) [1, 2, 3, 4, 5, 6, 7, 8, 9, 0] d_B_improve_112 (by decide) rfl ?_
        refine x_iload 9 d_B_improve_114 rfl ?_
        refine x_iload_n 2 d_B_improve_116 rfl ?_
        refine x_icmp_ge 135 d_B_improve_117 (by decide) (fun c0 => ?_) (fun c0 => ?_)
        · have h := h.1 c0
          obtain ⟨a11, ea11⟩ : ∃ z : Int32, z = x10 + 1 := ⟨_, rfl⟩
          have h := h a11 ea11
          refine x_iincE (L' := [(0, .ref 39), (1, .int x1), (2, .int x2), (3, .int x3), (4, .long y4), (6, .int x6), (7, .long y7), (9, .int x9), (10, .int a11), (11, .int r10)]) 8 [1, 2, 3, 4, 5, 6, 7, 8, 0, 9] d_B_improve_135 rfl ea11 (by decide) rfl ?_
          refine x_goto 59 d_B_improve_138 (by decide) ?_
          exact x_perm [0, 1, 2, 3, 4, 5, 6, 7, 8] rfl h
        · have h := h.2 c0
          refine x_iload 9 d_B_improve_120 rfl ?_
          refine x_istore_n (L' := [(0, .ref 39), (1, .int x1), (2, .int r10), (3, .int x3), (4, .long y4), (6, .int x6), (7, .long y7), (9, .int x9), (10, .int x10), (11, .int r10)]) [1, 2, 0, 3, 4, 5, 6, 7, 8, 9] d_B_improve_122 (by decide) rfl ?_
          refine x_iload 5 d_B_improve_123 rfl ?_
          refine x_istore_n (L' := [(0, .ref 39), (1, .int x1), (2, .int r10), (3, .int x6), (4, .long y4), (6, .int x6), (7, .long y7), (9, .int x9), (10, .int x10), (11, .int r10)]) [1, 2, 3, 0, 4, 5, 6, 7, 8, 9] d_B_improve_125 (by decide) rfl ?_
          refine x_aload_n 0 d_B_improve_126 rfl ?_
          refine x_getR 11 4 40 d_B_improve_127 fg_11_23 rfl rfl rfl (Nf_58 (by decide)) ?_
          refine x_iload 5 d_B_improve_130 rfl ?_
          obtain ⟨h0, h⟩ := h
          refine x_lald d_B_improve_132 rfl (Nf_58 (by decide)) h0 ?_
          obtain ⟨b12, eb12⟩ : ∃ z : Int64, z = w9.2 40 x6.toNatClampNeg := ⟨_, rfl⟩
          have h := h b12 eb12
          refine x_lstoreE (L' := [(0, .ref 39), (1, .int x1), (2, .int r10), (3, .int x6), (4, .long b12), (6, .int x6), (7, .long y7), (9, .int x9), (10, .int x10), (11, .int r10)]) [1, 2, 3, 4, 0, 5, 6, 7, 8, 9] d_B_improve_133 (by decide) eb12 rfl ?_
          obtain ⟨a13, ea13⟩ : ∃ z : Int32, z = x10 + 1 := ⟨_, rfl⟩
          have h := h a13 ea13
          refine x_iincE (L' := [(0, .ref 39), (1, .int x1), (2, .int r10), (3, .int x6), (4, .long b12), (6, .int x6), (7, .long y7), (9, .int x9), (10, .int a13), (11, .int r10)]) 8 [1, 2, 3, 4, 5, 6, 7, 8, 0, 9] d_B_improve_135 rfl ea13 (by decide) rfl ?_
          refine x_goto 59 d_B_improve_138 (by decide) ?_
          exact x_perm [0, 1, 2, 3, 4, 5, 6, 7, 8] rfl h
set_option maxHeartbeats 1000000 in
theorem r_B_indexOfCounts {w : Wd} {K : Int32 → Wd → Prop} (h : E 1 M_B_indexOfCounts 6 [(0, .ref 39), (1, .int 0), (2, .int 1), (3, .int 1)] [] w (qI 1 K)) : RunI 1 M_B_indexOfCounts [.ref 39] w K := by
  refine runs_of (L := [(0, .ref 39)]) rfl (Nat.le_of_ble_eq_true rfl) rfl ?_
  refine x_iconst (v := 0) d_B_indexOfCounts_0 (by decide) ?_
  refine x_istore_n (L' := [(0, .ref 39), (1, .int 0)]) [1, 0] d_B_indexOfCounts_1 (by decide) rfl ?_
  refine x_iconst (v := 1) d_B_indexOfCounts_2 (by decide) ?_
  refine x_istore_n (L' := [(0, .ref 39), (1, .int 0), (2, .int 1)]) [1, 2, 0] d_B_indexOfCounts_3 (by decide) rfl ?_
  refine x_iconst (v := 1) d_B_indexOfCounts_4 (by decide) ?_
  refine x_istore_n (L' := [(0, .ref 39), (1, .int 0), (2, .int 1), (3, .int 1)]) [1, 2, 3, 0] d_B_indexOfCounts_5 (by decide) rfl ?_
  exact h
set_option maxHeartbeats 1000000 in
theorem w_B_indexOfCounts_6 {x1 x2 x3 : Int32} {w : Wd} {K : Int32 → Wd → Prop} (h : ((w.1 39 2) ≤ x3 → (x2 = 0 → K 0 w) ∧ (¬ x2 = 0 → K x1 w)) ∧ (¬ (w.1 39 2) ≤ x3 → RunZ 1 M_B_has [.long (w.2 39 3), .int x3] w (fun z2 w1 => (z2 = false → (x2 = 0 → vp_in x3 40 ∧ ∀ a3 : Int32, a3 = w1.1 48 x3.toNatClampNeg → ∀ a4 : Int32, a4 = x3 + 1 → E 1 M_B_indexOfCounts 6 [(0, .ref 39), (1, .int a3), (2, .int 0), (3, .int a4)] [] w1 (qI 1 K)) ∧ (¬ x2 = 0 → vp_in x3 40 ∧ ((w1.1 48 x3.toNatClampNeg) ≤ 0 → vp_in x3 40 ∧ ∀ a5 : Int32, a5 = w1.1 48 x3.toNatClampNeg → ∀ a6 : Int32, a6 = x3 + 1 → E 1 M_B_indexOfCounts 6 [(0, .ref 39), (1, .int a5), (2, .int 0), (3, .int a6)] [] w1 (qI 1 K)) ∧ (¬ (w1.1 48 x3.toNatClampNeg) ≤ 0 → (x1 = 0 → vp_in x3 40 ∧ ∀ a7 : Int32, a7 = w1.1 48 x3.toNatClampNeg → ∀ a8 : Int32, a8 = x3 + 1 → E 1 M_B_indexOfCounts 6 [(0, .ref 39), (1, .int a7), (2, .int 1), (3, .int a8)] [] w1 (qI 1 K)) ∧ (¬ x1 = 0 → vp_in x3 40 ∧ (¬ (w1.1 48 x3.toNatClampNeg) = x1 → vp_in x3 40 ∧ ∀ a9 : Int32, a9 = w1.1 48 x3.toNatClampNeg → ∀ a10 : Int32, a10 = x3 + 1 → E 1 M_B_indexOfCounts 6 [(0, .ref 39), (1, .int a9), (2, .int 0), (3, .int a10)] [] w1 (qI 1 K)) ∧ ((w1.1 48 x3.toNatClampNeg) = x1 → vp_in x3 40 ∧ ∀ a11 : Int32, a11 = w1.1 48 x3.toNatClampNeg → ∀ a12 : Int32, a12 = x3 + 1 → E 1 M_B_indexOfCounts 6 [(0, .ref 39), (1, .int a11), (2, .int 1), (3, .int a12)] [] w1 (qI 1 K)))))) ∧ (z2 = true → (x2 = 0 → ∀ a13 : Int32, a13 = x3 + 1 → E 1 M_B_indexOfCounts 6 [(0, .ref 39), (1, .int x1), (2, .int 0), (3, .int a13)] [] w1 (qI 1 K)) ∧ (¬ x2 = 0 → vp_in x3 40 ∧ (¬ (w1.1 48 x3.toNatClampNeg) = 0 → ∀ a14 : Int32, a14 = x3 + 1 → E 1 M_B_indexOfCounts 6 [(0, .ref 39), (1, .int x1), (2, .int 0), (3, .int a14)] [] w1 (qI 1 K)) ∧ ((w1.1 48 x3.toNatClampNeg) = 0 → ∀ a15 : Int32, a15 = x3 + 1 → E 1 M_B_indexOfCounts 6 [(0, .ref 39), (1, .int x1), (2, .int 1), (3, .int a15)] [] w1 (qI 1 K))))))) : E 1 M_B_indexOfCounts 6 [(0, .ref 39), (1, .int x1), (2, .int x2), (3, .int x3)] [] w (qI 1 K) := by
  refine x_iload_n 3 d_B_indexOfCounts_6 rfl ?_
  refine x_aload_n 0 d_B_indexOfCounts_7 rfl ?_
  refine x_getI 11 2 d_B_indexOfCounts_8 fg_11_16 rfl rfl (Nf_58 (by decide)) ?_
  refine x_icmp_ge 93 d_B_indexOfCounts_11 (by decide) (fun c0 => ?_) (fun c0 => ?_)
  · have h := h.1 c0
    refine x_iload_n 2 d_B_indexOfCounts_93 rfl ?_
    refine x_if_eq 101 d_B_indexOfCounts_94 (by decide) (fun c0 => ?_) (fun c0 => ?_)
    · have h := h.1 c0
      refine x_iconst (v := 0) d_B_indexOfCounts_101 (by decide) ?_
      exact x_retI d_B_indexOfCounts_102 rfl ⟨rfl, rfl⟩ h
    · have h := h.2 c0
      refine x_iload_n 1 d_B_indexOfCounts_97 rfl ?_
      refine x_goto 102 d_B_indexOfCounts_98 (by decide) ?_
      exact x_retI d_B_indexOfCounts_102 rfl ⟨rfl, rfl⟩ h
  · have h := h.2 c0
    refine x_aload_n 0 d_B_indexOfCounts_14 rfl ?_
    refine x_getL 11 3 d_B_indexOfCounts_15 fg_11_19 rfl rfl (Nf_58 (by decide)) ?_
    refine x_iload_n 3 d_B_indexOfCounts_18 rfl ?_
    refine x_callSZ (st := []) M_B_has [.long (w.2 39 3), .int x3] d_B_indexOfCounts_19 ml_11_134 cv_B_has rfl (Nat.le_of_ble_eq_true rfl) ⟨Nat.le_of_ble_eq_true rfl, Nat.le_of_ble_eq_true rfl⟩ ⟨rfl, rfl⟩ h (fun z2 w1 h => ?_)
    refine x_zif_eq 47 d_B_indexOfCounts_22 (by decide) (fun c0 => ?_) (fun c0 => ?_)
    · have h := h.1 c0
      refine x_iload_n 2 d_B_indexOfCounts_47 rfl ?_
      refine x_if_eq 78 d_B_indexOfCounts_48 (by decide) (fun c0 => ?_) (fun c0 => ?_)
      · have h := h.1 c0
        refine x_iconst (v := 0) d_B_indexOfCounts_78 (by decide) ?_
        refine x_istore_n (L' := [(0, .ref 39), (1, .int x1), (2, .int 0), (3, .int x3)]) [1, 2, 0, 3] d_B_indexOfCounts_79 (by decide) rfl ?_
        refine x_aload_n 0 d_B_indexOfCounts_80 rfl ?_
        refine x_getR 11 18 48 d_B_indexOfCounts_81 fg_11_50 rfl rfl rfl (Nf_58 (by decide)) ?_
        refine x_iload_n 3 d_B_indexOfCounts_84 rfl ?_
        obtain ⟨h0, h⟩ := h
        refine x_iald d_B_indexOfCounts_85 rfl (Nf_58 (by decide)) h0 ?_
        obtain ⟨a3, ea3⟩ : ∃ z : Int32, z = w1.1 48 x3.toNatClampNeg := ⟨_, rfl⟩
        have h := h a3 ea3
        refine x_istore_nE (L' := [(0, .ref 39), (1, .int a3), (2, .int 0), (3, .int x3)]) [1, 0, 2, 3] d_B_indexOfCounts_86 (by decide) ea3 rfl ?_
        obtain ⟨a4, ea4⟩ : ∃ z : Int32, z = x3 + 1 := ⟨_, rfl⟩
        have h := h a4 ea4
        refine x_iincE (L' := [(0, .ref 39), (1, .int a3), (2, .int 0), (3, .int a4)]) 3 [1, 2, 3, 0] d_B_indexOfCounts_87 rfl ea4 (by decide) rfl ?_
        refine x_goto 6 d_B_indexOfCounts_90 (by decide) ?_
        exact h
      · have h := h.2 c0
        refine x_aload_n 0 d_B_indexOfCounts_51 rfl ?_
        refine x_getR 11 18 48 d_B_indexOfCounts_52 fg_11_50 rfl rfl rfl (Nf_58 (by decide)) ?_
        refine x_iload_n 3 d_B_indexOfCounts_55 rfl ?_
        obtain ⟨h0, h⟩ := h
        refine x_iald d_B_indexOfCounts_56 rfl (Nf_58 (by decide)) h0 ?_
        refine x_if_le 78 d_B_indexOfCounts_57 (by decide) (fun c0 => ?_) (fun c0 => ?_)
        · have h := h.1 c0
          refine x_iconst (v := 0) d_B_indexOfCounts_78 (by decide) ?_
          refine x_istore_n (L' := [(0, .ref 39), (1, .int x1), (2, .int 0), (3, .int x3)]) [1, 2, 0, 3] d_B_indexOfCounts_79 (by decide) rfl ?_
          refine x_aload_n 0 d_B_indexOfCounts_80 rfl ?_
          refine x_getR 11 18 48 d_B_indexOfCounts_81 fg_11_50 rfl rfl rfl (Nf_58 (by decide)) ?_
          refine x_iload_n 3 d_B_indexOfCounts_84 rfl ?_
          obtain ⟨h0, h⟩ := h
          refine x_iald d_B_indexOfCounts_85 rfl (Nf_58 (by decide)) h0 ?_
          obtain ⟨a5, ea5⟩ : ∃ z : Int32, z = w1.1 48 x3.toNatClampNeg := ⟨_, rfl⟩
          have h := h a5 ea5
          refine x_istore_nE (L' := [(0, .ref 39), (1, .int a5), (2, .int 0), (3, .int x3)]) [1, 0, 2, 3] d_B_indexOfCounts_86 (by decide) ea5 rfl ?_
          obtain ⟨a6, ea6⟩ : ∃ z : Int32, z = x3 + 1 := ⟨_, rfl⟩
          have h := h a6 ea6
          refine x_iincE (L' := [(0, .ref 39), (1, .int a5), (2, .int 0), (3, .int a6)]) 3 [1, 2, 3, 0] d_B_indexOfCounts_87 rfl ea6 (by decide) rfl ?_
          refine x_goto 6 d_B_indexOfCounts_90 (by decide) ?_
          exact h
        · have h := h.2 c0
          refine x_iload_n 1 d_B_indexOfCounts_60 rfl ?_
          refine x_if_eq 74 d_B_indexOfCounts_61 (by decide) (fun c0 => ?_) (fun c0 => ?_)
          · have h := h.1 c0
            refine x_iconst (v := 1) d_B_indexOfCounts_74 (by decide) ?_
            refine x_goto 79 d_B_indexOfCounts_75 (by decide) ?_
            refine x_istore_n (L' := [(0, .ref 39), (1, .int x1), (2, .int 1), (3, .int x3)]) [1, 2, 0, 3] d_B_indexOfCounts_79 (by decide) rfl ?_
            refine x_aload_n 0 d_B_indexOfCounts_80 rfl ?_
            refine x_getR 11 18 48 d_B_indexOfCounts_81 fg_11_50 rfl rfl rfl (Nf_58 (by decide)) ?_
            refine x_iload_n 3 d_B_indexOfCounts_84 rfl ?_
            obtain ⟨h0, h⟩ := h
            refine x_iald d_B_indexOfCounts_85 rfl (Nf_58 (by decide)) h0 ?_
            obtain ⟨a7, ea7⟩ : ∃ z : Int32, z = w1.1 48 x3.toNatClampNeg := ⟨_, rfl⟩
            have h := h a7 ea7
            refine x_istore_nE (L' := [(0, .ref 39), (1, .int a7), (2, .int 1), (3, .int x3)]) [1, 0, 2, 3] d_B_indexOfCounts_86 (by decide) ea7 rfl ?_
            obtain ⟨a8, ea8⟩ : ∃ z : Int32, z = x3 + 1 := ⟨_, rfl⟩
            have h := h a8 ea8
            refine x_iincE (L' := [(0, .ref 39), (1, .int a7), (2, .int 1), (3, .int a8)]) 3 [1, 2, 3, 0] d_B_indexOfCounts_87 rfl ea8 (by decide) rfl ?_
            refine x_goto 6 d_B_indexOfCounts_90 (by decide) ?_
            exact h
          · have h := h.2 c0
            refine x_aload_n 0 d_B_indexOfCounts_64 rfl ?_
            refine x_getR 11 18 48 d_B_indexOfCounts_65 fg_11_50 rfl rfl rfl (Nf_58 (by decide)) ?_
            refine x_iload_n 3 d_B_indexOfCounts_68 rfl ?_
            obtain ⟨h0, h⟩ := h
            refine x_iald d_B_indexOfCounts_69 rfl (Nf_58 (by decide)) h0 ?_
            refine x_iload_n 1 d_B_indexOfCounts_70 rfl ?_
            refine x_icmp_ne 78 d_B_indexOfCounts_71 (by decide) (fun c0 => ?_) (fun c0 => ?_)
            · have h := h.1 c0
              refine x_iconst (v := 0) d_B_indexOfCounts_78 (by decide) ?_
              refine x_istore_n (L' := [(0, .ref 39), (1, .int x1), (2, .int 0), (3, .int x3)]) [1, 2, 0, 3] d_B_indexOfCounts_79 (by decide) rfl ?_
              refine x_aload_n 0 d_B_indexOfCounts_80 rfl ?_
              refine x_getR 11 18 48 d_B_indexOfCounts_81 fg_11_50 rfl rfl rfl (Nf_58 (by decide)) ?_
              refine x_iload_n 3 d_B_indexOfCounts_84 rfl ?_
              obtain ⟨h0, h⟩ := h
              refine x_iald d_B_indexOfCounts_85 rfl (Nf_58 (by decide)) h0 ?_
              obtain ⟨a9, ea9⟩ : ∃ z : Int32, z = w1.1 48 x3.toNatClampNeg := ⟨_, rfl⟩
              have h := h a9 ea9
              refine x_istore_nE (L' := [(0, .ref 39), (1, .int a9), (2, .int 0), (3, .int x3)]) [1, 0, 2, 3] d_B_indexOfCounts_86 (by decide) ea9 rfl ?_
              obtain ⟨a10, ea10⟩ : ∃ z : Int32, z = x3 + 1 := ⟨_, rfl⟩
              have h := h a10 ea10
              refine x_iincE (L' := [(0, .ref 39), (1, .int a9), (2, .int 0), (3, .int a10)]) 3 [1, 2, 3, 0] d_B_indexOfCounts_87 rfl ea10 (by decide) rfl ?_
              refine x_goto 6 d_B_indexOfCounts_90 (by decide) ?_
              exact h
            · have h := h.2 c0
              refine x_iconst (v := 1) d_B_indexOfCounts_74 (by decide) ?_
              refine x_goto 79 d_B_indexOfCounts_75 (by decide) ?_
              refine x_istore_n (L' := [(0, .ref 39), (1, .int x1), (2, .int 1), (3, .int x3)]) [1, 2, 0, 3] d_B_indexOfCounts_79 (by decide) rfl ?_
              refine x_aload_n 0 d_B_indexOfCounts_80 rfl ?_
              refine x_getR 11 18 48 d_B_indexOfCounts_81 fg_11_50 rfl rfl rfl (Nf_58 (by decide)) ?_
              refine x_iload_n 3 d_B_indexOfCounts_84 rfl ?_
              obtain ⟨h0, h⟩ := h
              refine x_iald d_B_indexOfCounts_85 rfl (Nf_58 (by decide)) h0 ?_
              obtain ⟨a11, ea11⟩ : ∃ z : Int32, z = w1.1 48 x3.toNatClampNeg := ⟨_, rfl⟩
              have h := h a11 ea11
              refine x_istore_nE (L' := [(0, .ref 39), (1, .int a11), (2, .int 1), (3, .int x3)]) [1, 0, 2, 3] d_B_indexOfCounts_86 (by decide) ea11 rfl ?_
              obtain ⟨a12, ea12⟩ : ∃ z : Int32, z = x3 + 1 := ⟨_, rfl⟩
              have h := h a12 ea12
              refine x_iincE (L' := [(0, .ref 39), (1, .int a11), (2, .int 1), (3, .int a12)]) 3 [1, 2, 3, 0] d_B_indexOfCounts_87 rfl ea12 (by decide) rfl ?_
              refine x_goto 6 d_B_indexOfCounts_90 (by decide) ?_
              exact h
    · have h := h.2 c0
      refine x_iload_n 2 d_B_indexOfCounts_25 rfl ?_
      refine x_if_eq 42 d_B_indexOfCounts_26 (by decide) (fun c0 => ?_) (fun c0 => ?_)
      · have h := h.1 c0
        refine x_iconst (v := 0) d_B_indexOfCounts_42 (by decide) ?_
        refine x_istore_n (L' := [(0, .ref 39), (1, .int x1), (2, .int 0), (3, .int x3)]) [1, 2, 0, 3] d_B_indexOfCounts_43 (by decide) rfl ?_
        refine x_goto 87 d_B_indexOfCounts_44 (by decide) ?_
        obtain ⟨a13, ea13⟩ : ∃ z : Int32, z = x3 + 1 := ⟨_, rfl⟩
        have h := h a13 ea13
        refine x_iincE (L' := [(0, .ref 39), (1, .int x1), (2, .int 0), (3, .int a13)]) 3 [1, 2, 3, 0] d_B_indexOfCounts_87 rfl ea13 (by decide) rfl ?_
        refine x_goto 6 d_B_indexOfCounts_90 (by decide) ?_
        exact h
      · have h := h.2 c0
        refine x_aload_n 0 d_B_indexOfCounts_29 rfl ?_
        refine x_getR 11 18 48 d_B_indexOfCounts_30 fg_11_50 rfl rfl rfl (Nf_58 (by decide)) ?_
        refine x_iload_n 3 d_B_indexOfCounts_33 rfl ?_
        obtain ⟨h0, h⟩ := h
        refine x_iald d_B_indexOfCounts_34 rfl (Nf_58 (by decide)) h0 ?_
        refine x_if_ne 42 d_B_indexOfCounts_35 (by decide) (fun c0 => ?_) (fun c0 => ?_)
        · have h := h.1 c0
          refine x_iconst (v := 0) d_B_indexOfCounts_42 (by decide) ?_
          refine x_istore_n (L' := [(0, .ref 39), (1, .int x1), (2, .int 0), (3, .int x3)]) [1, 2, 0, 3] d_B_indexOfCounts_43 (by decide) rfl ?_
          refine x_goto 87 d_B_indexOfCounts_44 (by decide) ?_
          obtain ⟨a14, ea14⟩ : ∃ z : Int32, z = x3 + 1 := ⟨_, rfl⟩
          have h := h a14 ea14
          refine x_iincE (L' := [(0, .ref 39), (1, .int x1), (2, .int 0), (3, .int a14)]) 3 [1, 2, 3, 0] d_B_indexOfCounts_87 rfl ea14 (by decide) rfl ?_
          refine x_goto 6 d_B_indexOfCounts_90 (by decide) ?_
          exact h
        · have h := h.2 c0
          refine x_iconst (v := 1) d_B_indexOfCounts_38 (by decide) ?_
          refine x_goto 43 d_B_indexOfCounts_39 (by decide) ?_
          refine x_istore_n (L' := [(0, .ref 39), (1, .int x1), (2, .int 1), (3, .int x3)]) [1, 2, 0, 3] d_B_indexOfCounts_43 (by decide) rfl ?_
          refine x_goto 87 d_B_indexOfCounts_44 (by decide) ?_
          obtain ⟨a15, ea15⟩ : ∃ z : Int32, z = x3 + 1 := ⟨_, rfl⟩
          have h := h a15 ea15
          refine x_iincE (L' := [(0, .ref 39), (1, .int x1), (2, .int 1), (3, .int a15)]) 3 [1, 2, 3, 0] d_B_indexOfCounts_87 rfl ea15 (by decide) rfl ?_
          refine x_goto 6 d_B_indexOfCounts_90 (by decide) ?_
          exact h
set_option maxHeartbeats 1000000 in
theorem r_B_index {w : Wd} {K : Int32 → Wd → Prop} (h : RunV 1 M_B_counts [.ref 39, .ref 40, .int 6] w (fun w1 => RunI 1 M_B_indexOfCounts [.ref 39] w1 (fun r3 w2 => (¬ r3 = 0 → K r3 w2) ∧ (r3 = 0 → K ((-4)) w2)))) : RunI 1 M_B_index [.ref 39] w K := by
  refine runs_of (L := [(0, .ref 39)]) rfl (Nat.le_of_ble_eq_true rfl) rfl ?_
  refine x_aload_n 0 d_B_index_0 rfl ?_
  refine x_aload_n 0 d_B_index_1 rfl ?_
  refine x_getR 11 4 40 d_B_index_2 fg_11_23 rfl rfl rfl (Nf_58 (by decide)) ?_
  refine x_bipush (v := 6) d_B_index_5 (by decide) ?_
  refine x_callVV (st := []) M_B_counts [.ref 40, .int 6] d_B_index_7 ml_11_181 cv_B_counts rfl rfl (Nf_58 (by decide)) rfl (Nat.le_of_ble_eq_true rfl) ⟨Nat.le_of_ble_eq_true rfl, Nat.le_of_ble_eq_true rfl⟩ ⟨rfl, rfl⟩ h (fun w1 h => ?_)
  refine x_aload_n 0 d_B_index_10 rfl ?_
  refine x_callVI (st := []) M_B_indexOfCounts [] d_B_index_11 ml_11_184 cv_B_indexOfCounts rfl rfl (Nf_58 (by decide)) rfl (Nat.le_of_ble_eq_true rfl) ⟨Nat.le_of_ble_eq_true rfl, Nat.le_of_ble_eq_true rfl⟩ ⟨rfl, rfl⟩ h (fun r3 w2 h => ?_)
  refine x_istore_n (L' := [(0, .ref 39), (1, .int r3)]) [1, 0] d_B_index_14 (by decide) rfl ?_
  refine x_iload_n 1 d_B_index_15 rfl ?_
  refine x_if_ne 24 d_B_index_16 (by decide) (fun c0 => ?_) (fun c0 => ?_)
  · have h := h.1 c0
    refine x_iload_n 1 d_B_index_24 rfl ?_
    exact x_retI d_B_index_25 rfl ⟨rfl, rfl⟩ h
  · have h := h.2 c0
    refine x_bipush (v := (-4)) d_B_index_19 (by decide) ?_
    refine x_goto 25 d_B_index_21 (by decide) ?_
    exact x_retI d_B_index_25 rfl ⟨rfl, rfl⟩ h
set_option maxHeartbeats 1000000 in
theorem r_B_intersections {x1 : Int32} {w : Wd} {K : Int32 → Wd → Prop} (h : RunZ 1 M_B_in [.long x1.toInt64, .long 0, .long 40] w (fun z2 w1 => (z2 = true → RunV 1 M_B_develops [.ref 39] w1 (fun w3 => E 1 M_B_intersections 22 [(0, .ref 39), (1, .int x1), (2, .int 0), (3, .int 1)] [] w3 (qI 1 K))) ∧ (z2 = false → K ((-1)) w1))) : RunI 1 M_B_intersections [.ref 39, .int x1] w K := by
  refine runs_of (L := [(0, .ref 39), (1, .int x1)]) rfl (Nat.le_of_ble_eq_true rfl) rfl ?_
  refine x_iload_n 1 d_B_intersections_0 rfl ?_
  refine x_i2l d_B_intersections_1 ?_
  refine x_lconst (v := 0) d_B_intersections_2 (by decide) ?_
  refine x_ldc2 (v := 40) d_B_intersections_3 mw_1057 ?_
  refine x_callSZ (st := []) M_B_in [.long x1.toInt64, .long 0, .long 40] d_B_intersections_6 ml_11_83 cv_B_in rfl (Nat.le_of_ble_eq_true rfl) ⟨Nat.le_of_ble_eq_true rfl, Nat.le_of_ble_eq_true rfl⟩ ⟨rfl, rfl⟩ h (fun z2 w1 h => ?_)
  refine x_zif_ne 14 d_B_intersections_9 (by decide) (fun c0 => ?_) (fun c0 => ?_)
  · have h := h.1 c0
    refine x_aload_n 0 d_B_intersections_14 rfl ?_
    refine x_callVV (st := []) M_B_develops [] d_B_intersections_15 ml_11_212 cv_B_develops rfl rfl (Nf_58 (by decide)) rfl (Nat.le_of_ble_eq_true rfl) ⟨Nat.le_of_ble_eq_true rfl, Nat.le_of_ble_eq_true rfl⟩ ⟨rfl, rfl⟩ h (fun w3 h => ?_)
    refine x_iconst (v := 0) d_B_intersections_18 (by decide) ?_
    refine x_istore_n (L' := [(0, .ref 39), (1, .int x1), (2, .int 0)]) [1, 2, 0] d_B_intersections_19 (by decide) rfl ?_
    refine x_iconst (v := 1) d_B_intersections_20 (by decide) ?_
    refine x_istore_n (L' := [(0, .ref 39), (1, .int x1), (2, .int 0), (3, .int 1)]) [1, 2, 3, 0] d_B_intersections_21 (by decide) rfl ?_
    exact h
  · have h := h.2 c0
    refine x_iconst (v := (-1)) d_B_intersections_12 (by decide) ?_
    exact x_retI d_B_intersections_13 rfl ⟨rfl, rfl⟩ h
set_option maxHeartbeats 1000000 in
theorem w_B_intersections_22 {x1 x2 x3 : Int32} {w : Wd} {K : Int32 → Wd → Prop} (h : ((w.1 39 23) ≤ x3 → K x2 w) ∧ (¬ (w.1 39 23) ≤ x3 → E 1 M_B_intersections 33 [(0, .ref 39), (1, .int x1), (2, .int x2), (3, .int x3), (4, .int 0)] [] w (qI 1 K))) : E 1 M_B_intersections 22 [(0, .ref 39), (1, .int x1), (2, .int x2), (3, .int x3)] [] w (qI 1 K) := by
  refine x_iload_n 3 d_B_intersections_22 rfl ?_
  refine x_aload_n 0 d_B_intersections_23 rfl ?_
  refine x_getI 11 23 d_B_intersections_24 fg_11_209 rfl rfl (Nf_58 (by decide)) ?_
  refine x_icmp_ge 80 d_B_intersections_27 (by decide) (fun c0 => ?_) (fun c0 => ?_)
  · have h := h.1 c0
    refine x_iload_n 2 d_B_intersections_80 rfl ?_
    exact x_retI d_B_intersections_81 rfl ⟨rfl, rfl⟩ h
  · have h := h.2 c0
    refine x_iconst (v := 0) d_B_intersections_30 (by decide) ?_
    refine x_istore (L' := [(0, .ref 39), (1, .int x1), (2, .int x2), (3, .int x3), (4, .int 0)]) [1, 2, 3, 4, 0] d_B_intersections_31 (by decide) rfl ?_
    exact h
set_option maxHeartbeats 1000000 in
theorem w_B_intersections_33 {x1 x2 x3 x4 : Int32} {w : Wd} {K : Int32 → Wd → Prop} (h : (x3 ≤ x4 → ∀ a1 : Int32, a1 = x3 + 1 → E 1 M_B_intersections 22 [(0, .ref 39), (1, .int x1), (2, .int x2), (3, .int a1)] [] w (qI 1 K)) ∧ (¬ x3 ≤ x4 → vp_in x3 240 ∧ vp_in x4 240 ∧ RunI 1 M_B_size [.long ((w.2 52 x3.toNatClampNeg) &&& (w.2 52 x4.toNatClampNeg))] w (fun r3 w2 => (¬ r3 = x1 → ∀ a4 : Int32, a4 = x2 + 0 → ∀ a5 : Int32, a5 = x4 + 1 → E 1 M_B_intersections 33 [(0, .ref 39), (1, .int x1), (2, .int a4), (3, .int x3), (4, .int a5)] [] w2 (qI 1 K)) ∧ (r3 = x1 → ∀ a6 : Int32, a6 = x2 + 1 → ∀ a7 : Int32, a7 = x4 + 1 → E 1 M_B_intersections 33 [(0, .ref 39), (1, .int x1), (2, .int a6), (3, .int x3), (4, .int a7)] [] w2 (qI 1 K))))) : E 1 M_B_intersections 33 [(0, .ref 39), (1, .int x1), (2, .int x2), (3, .int x3), (4, .int x4)] [] w (qI 1 K) := by
  refine x_iload 4 d_B_intersections_33 rfl ?_
  refine x_iload_n 3 d_B_intersections_35 rfl ?_
  refine x_icmp_ge 74 d_B_intersections_36 (by decide) (fun c0 => ?_) (fun c0 => ?_)
  · have h := h.1 c0
    obtain ⟨a1, ea1⟩ : ∃ z : Int32, z = x3 + 1 := ⟨_, rfl⟩
    have h := h a1 ea1
    refine x_iincE (L' := [(0, .ref 39), (1, .int x1), (2, .int x2), (3, .int a1), (4, .int x4)]) 3 [1, 2, 3, 0, 4] d_B_intersections_74 rfl ea1 (by decide) rfl ?_
    refine x_goto 22 d_B_intersections_77 (by decide) ?_
    exact x_perm [0, 1, 2, 3] rfl h
  · have h := h.2 c0
    refine x_iload_n 2 d_B_intersections_39 rfl ?_
    refine x_aload_n 0 d_B_intersections_40 rfl ?_
    refine x_getR 11 24 52 d_B_intersections_41 fg_11_62 rfl rfl rfl (Nf_58 (by decide)) ?_
    refine x_iload_n 3 d_B_intersections_44 rfl ?_
    obtain ⟨h0, h⟩ := h
    refine x_lald d_B_intersections_45 rfl (Nf_58 (by decide)) h0 ?_
    refine x_aload_n 0 d_B_intersections_46 rfl ?_
    refine x_getR 11 24 52 d_B_intersections_47 fg_11_62 rfl rfl rfl (Nf_58 (by decide)) ?_
    refine x_iload 4 d_B_intersections_50 rfl ?_
    obtain ⟨h0, h⟩ := h
    refine x_lald d_B_intersections_52 rfl (Nf_58 (by decide)) h0 ?_
    refine x_land d_B_intersections_53 ?_
    refine x_callSI (st := [.int x2]) M_B_size [.long ((w.2 52 x3.toNatClampNeg) &&& (w.2 52 x4.toNatClampNeg))] d_B_intersections_54 ml_11_130 cv_B_size rfl (Nat.le_of_ble_eq_true rfl) ⟨Nat.le_of_ble_eq_true rfl, Nat.le_of_ble_eq_true rfl⟩ ⟨rfl, rfl⟩ h (fun r3 w2 h => ?_)
    refine x_iload_n 1 d_B_intersections_57 rfl ?_
    refine x_icmp_ne 65 d_B_intersections_58 (by decide) (fun c0 => ?_) (fun c0 => ?_)
    · have h := h.1 c0
      refine x_iconst (v := 0) d_B_intersections_65 (by decide) ?_
      refine x_iadd d_B_intersections_66 ?_
      obtain ⟨a4, ea4⟩ : ∃ z : Int32, z = x2 + 0 := ⟨_, rfl⟩
      have h := h a4 ea4
      refine x_istore_nE (L' := [(0, .ref 39), (1, .int x1), (2, .int a4), (3, .int x3), (4, .int x4)]) [1, 2, 0, 3, 4] d_B_intersections_67 (by decide) ea4 rfl ?_
      obtain ⟨a5, ea5⟩ : ∃ z : Int32, z = x4 + 1 := ⟨_, rfl⟩
      have h := h a5 ea5
      refine x_iincE (L' := [(0, .ref 39), (1, .int x1), (2, .int a4), (3, .int x3), (4, .int a5)]) 4 [1, 2, 3, 4, 0] d_B_intersections_68 rfl ea5 (by decide) rfl ?_
      refine x_goto 33 d_B_intersections_71 (by decide) ?_
      exact h
    · have h := h.2 c0
      refine x_iconst (v := 1) d_B_intersections_61 (by decide) ?_
      refine x_goto 66 d_B_intersections_62 (by decide) ?_
      refine x_iadd d_B_intersections_66 ?_
      obtain ⟨a6, ea6⟩ : ∃ z : Int32, z = x2 + 1 := ⟨_, rfl⟩
      have h := h a6 ea6
      refine x_istore_nE (L' := [(0, .ref 39), (1, .int x1), (2, .int a6), (3, .int x3), (4, .int x4)]) [1, 2, 0, 3, 4] d_B_intersections_67 (by decide) ea6 rfl ?_
      obtain ⟨a7, ea7⟩ : ∃ z : Int32, z = x4 + 1 := ⟨_, rfl⟩
      have h := h a7 ea7
      refine x_iincE (L' := [(0, .ref 39), (1, .int x1), (2, .int a6), (3, .int x3), (4, .int a7)]) 4 [1, 2, 3, 4, 0] d_B_intersections_68 rfl ea7 (by decide) rfl ?_
      refine x_goto 33 d_B_intersections_71 (by decide) ?_
      exact h
set_option maxHeartbeats 1000000 in
theorem r_B_isEquivalent {x1 : Int32} {w : Wd} {K : Int32 → Wd → Prop} (h : RunZ 1 M_B_in [.long x1.toInt64, .long 0, .long 1] w (fun z2 w1 => (z2 = true → vp_in x1 2 ∧ (¬ (w1.1 43 x1.toNatClampNeg) = 0 → RunV 1 M_B_canonicalOf [.ref 39, .ref 40, .int 0, .ref 51] w1 (fun w3 => ∀ a4 : Int32, a4 = w3.1 39 19 → RunV 1 M_B_canonicalOf [.ref 39, .ref 42, .int (7 * x1), .ref 50] w3 (fun w5 => (¬ a4 = (w5.1 39 19) → K 0 w5) ∧ (a4 = (w5.1 39 19) → RunI 1 M_B_compared [.ref 39, .ref 51, .ref 50] w5 (fun r7 w6 => (¬ r7 = 0 → K 0 w6) ∧ (r7 = 0 → K 1 w6)))))) ∧ ((w1.1 43 x1.toNatClampNeg) = 0 → K ((-3)) w1)) ∧ (z2 = false → K ((-1)) w1))) : RunI 1 M_B_isEquivalent [.ref 39, .int x1] w K := by
  refine runs_of (L := [(0, .ref 39), (1, .int x1)]) rfl (Nat.le_of_ble_eq_true rfl) rfl ?_
  refine x_iload_n 1 d_B_isEquivalent_0 rfl ?_
  refine x_i2l d_B_isEquivalent_1 ?_
  refine x_lconst (v := 0) d_B_isEquivalent_2 (by decide) ?_
  refine x_lconst (v := 1) d_B_isEquivalent_3 (by decide) ?_
  refine x_callSZ (st := []) M_B_in [.long x1.toInt64, .long 0, .long 1] d_B_isEquivalent_4 ml_11_83 cv_B_in rfl (Nat.le_of_ble_eq_true rfl) ⟨Nat.le_of_ble_eq_true rfl, Nat.le_of_ble_eq_true rfl⟩ ⟨rfl, rfl⟩ h (fun z2 w1 h => ?_)
  refine x_zif_ne 12 d_B_isEquivalent_7 (by decide) (fun c0 => ?_) (fun c0 => ?_)
  · have h := h.1 c0
    refine x_aload_n 0 d_B_isEquivalent_12 rfl ?_
    refine x_getR 11 8 43 d_B_isEquivalent_13 fg_11_33 rfl rfl rfl (Nf_58 (by decide)) ?_
    refine x_iload_n 1 d_B_isEquivalent_16 rfl ?_
    obtain ⟨h0, h⟩ := h
    refine x_zald d_B_isEquivalent_17 rfl (Nf_58 (by decide)) h0 ?_
    refine x_if_ne 24 d_B_isEquivalent_18 (by decide) (fun c0 => ?_) (fun c0 => ?_)
    · have h := h.1 c0
      refine x_aload_n 0 d_B_isEquivalent_24 rfl ?_
      refine x_aload_n 0 d_B_isEquivalent_25 rfl ?_
      refine x_getR 11 4 40 d_B_isEquivalent_26 fg_11_23 rfl rfl rfl (Nf_58 (by decide)) ?_
      refine x_iconst (v := 0) d_B_isEquivalent_29 (by decide) ?_
      refine x_aload_n 0 d_B_isEquivalent_30 rfl ?_
      refine x_getR 11 22 51 d_B_isEquivalent_31 fg_11_59 rfl rfl rfl (Nf_58 (by decide)) ?_
      refine x_callVV (st := []) M_B_canonicalOf [.ref 40, .int 0, .ref 51] d_B_isEquivalent_34 ml_11_205 cv_B_canonicalOf rfl rfl (Nf_58 (by decide)) rfl (Nat.le_of_ble_eq_true rfl) ⟨Nat.le_of_ble_eq_true rfl, Nat.le_of_ble_eq_true rfl⟩ ⟨rfl, rfl⟩ h (fun w3 h => ?_)
      refine x_aload_n 0 d_B_isEquivalent_37 rfl ?_
      refine x_getI 11 19 d_B_isEquivalent_38 fg_11_188 rfl rfl (Nf_58 (by decide)) ?_
      obtain ⟨a4, ea4⟩ : ∃ z : Int32, z = w3.1 39 19 := ⟨_, rfl⟩
      have h := h a4 ea4
      refine x_istore_nE (L' := [(0, .ref 39), (1, .int x1), (2, .int a4)]) [1, 2, 0] d_B_isEquivalent_41 (by decide) ea4 rfl ?_
      refine x_aload_n 0 d_B_isEquivalent_42 rfl ?_
      refine x_aload_n 0 d_B_isEquivalent_43 rfl ?_
      refine x_getR 11 7 42 d_B_isEquivalent_44 fg_11_30 rfl rfl rfl (Nf_58 (by decide)) ?_
      refine x_bipush (v := 7) d_B_isEquivalent_47 (by decide) ?_
      refine x_iload_n 1 d_B_isEquivalent_49 rfl ?_
      refine x_imul d_B_isEquivalent_50 ?_
      refine x_aload_n 0 d_B_isEquivalent_51 rfl ?_
      refine x_getR 11 21 50 d_B_isEquivalent_52 fg_11_56 rfl rfl rfl (Nf_58 (by decide)) ?_
      refine x_callVV (st := []) M_B_canonicalOf [.ref 42, .int (7 * x1), .ref 50] d_B_isEquivalent_55 ml_11_205 cv_B_canonicalOf rfl rfl (Nf_58 (by decide)) rfl (Nat.le_of_ble_eq_true rfl) ⟨Nat.le_of_ble_eq_true rfl, Nat.le_of_ble_eq_true rfl⟩ ⟨rfl, rfl⟩ h (fun w5 h => ?_)
      refine x_iload_n 2 d_B_isEquivalent_58 rfl ?_
      refine x_aload_n 0 d_B_isEquivalent_59 rfl ?_
      refine x_getI 11 19 d_B_isEquivalent_60 fg_11_188 rfl rfl (Nf_58 (by decide)) ?_
      refine x_icmp_ne 85 d_B_isEquivalent_63 (by decide) (fun c0 => ?_) (fun c0 => ?_)
      · have h := h.1 c0
        refine x_iconst (v := 0) d_B_isEquivalent_85 (by decide) ?_
        exact x_retI d_B_isEquivalent_86 rfl ⟨rfl, rfl⟩ h
      · have h := h.2 c0
        refine x_aload_n 0 d_B_isEquivalent_66 rfl ?_
        refine x_aload_n 0 d_B_isEquivalent_67 rfl ?_
        refine x_getR 11 22 51 d_B_isEquivalent_68 fg_11_59 rfl rfl rfl (Nf_58 (by decide)) ?_
        refine x_aload_n 0 d_B_isEquivalent_71 rfl ?_
        refine x_getR 11 21 50 d_B_isEquivalent_72 fg_11_56 rfl rfl rfl (Nf_58 (by decide)) ?_
        refine x_callVI (st := []) M_B_compared [.ref 51, .ref 50] d_B_isEquivalent_75 ml_11_195 cv_B_compared rfl rfl (Nf_58 (by decide)) rfl (Nat.le_of_ble_eq_true rfl) ⟨Nat.le_of_ble_eq_true rfl, Nat.le_of_ble_eq_true rfl⟩ ⟨rfl, rfl⟩ h (fun r7 w6 h => ?_)
        refine x_if_ne 85 d_B_isEquivalent_78 (by decide) (fun c0 => ?_) (fun c0 => ?_)
        · have h := h.1 c0
          refine x_iconst (v := 0) d_B_isEquivalent_85 (by decide) ?_
          exact x_retI d_B_isEquivalent_86 rfl ⟨rfl, rfl⟩ h
        · have h := h.2 c0
          refine x_iconst (v := 1) d_B_isEquivalent_81 (by decide) ?_
          refine x_goto 86 d_B_isEquivalent_82 (by decide) ?_
          exact x_retI d_B_isEquivalent_86 rfl ⟨rfl, rfl⟩ h
    · have h := h.2 c0
      refine x_bipush (v := (-3)) d_B_isEquivalent_21 (by decide) ?_
      exact x_retI d_B_isEquivalent_23 rfl ⟨rfl, rfl⟩ h
  · have h := h.2 c0
    refine x_iconst (v := (-1)) d_B_isEquivalent_10 (by decide) ?_
    exact x_retI d_B_isEquivalent_11 rfl ⟨rfl, rfl⟩ h
set_option maxHeartbeats 1000000 in
theorem r_B_isMultiplier {x1 : Int32} {w : Wd} {K : Int32 → Wd → Prop} (h : RunZ 1 M_B_in [.long x1.toInt64, .long 1, .long (((w.1 39 2) - 1).toInt64)] w (fun z2 w1 => (z2 = true → RunZ 1 M_B_isMultiplierNow [.ref 39, .int x1] w1 (fun z4 w3 => (z4 = false → K 0 w3) ∧ (z4 = true → K 1 w3))) ∧ (z2 = false → K ((-1)) w1))) : RunI 1 M_B_isMultiplier [.ref 39, .int x1] w K := by
  refine runs_of (L := [(0, .ref 39), (1, .int x1)]) rfl (Nat.le_of_ble_eq_true rfl) rfl ?_
  refine x_iload_n 1 d_B_isMultiplier_0 rfl ?_
  refine x_i2l d_B_isMultiplier_1 ?_
  refine x_lconst (v := 1) d_B_isMultiplier_2 (by decide) ?_
  refine x_aload_n 0 d_B_isMultiplier_3 rfl ?_
  refine x_getI 11 2 d_B_isMultiplier_4 fg_11_16 rfl rfl (Nf_58 (by decide)) ?_
  refine x_iconst (v := 1) d_B_isMultiplier_7 (by decide) ?_
  refine x_isub d_B_isMultiplier_8 ?_
  refine x_i2l d_B_isMultiplier_9 ?_
  refine x_callSZ (st := []) M_B_in [.long x1.toInt64, .long 1, .long (((w.1 39 2) - 1).toInt64)] d_B_isMultiplier_10 ml_11_83 cv_B_in rfl (Nat.le_of_ble_eq_true rfl) ⟨Nat.le_of_ble_eq_true rfl, Nat.le_of_ble_eq_true rfl⟩ ⟨rfl, rfl⟩ h (fun z2 w1 h => ?_)
  refine x_zif_ne 20 d_B_isMultiplier_13 (by decide) (fun c0 => ?_) (fun c0 => ?_)
  · have h := h.1 c0
    refine x_aload_n 0 d_B_isMultiplier_20 rfl ?_
    refine x_iload_n 1 d_B_isMultiplier_21 rfl ?_
    refine x_callVZ (st := []) M_B_isMultiplierNow [.int x1] d_B_isMultiplier_22 ml_11_202 cv_B_isMultiplierNow rfl rfl (Nf_58 (by decide)) rfl (Nat.le_of_ble_eq_true rfl) ⟨Nat.le_of_ble_eq_true rfl, Nat.le_of_ble_eq_true rfl⟩ ⟨rfl, rfl⟩ h (fun z4 w3 h => ?_)
    refine x_zif_eq 32 d_B_isMultiplier_25 (by decide) (fun c0 => ?_) (fun c0 => ?_)
    · have h := h.1 c0
      refine x_iconst (v := 0) d_B_isMultiplier_32 (by decide) ?_
      exact x_retI d_B_isMultiplier_33 rfl ⟨rfl, rfl⟩ h
    · have h := h.2 c0
      refine x_iconst (v := 1) d_B_isMultiplier_28 (by decide) ?_
      refine x_goto 33 d_B_isMultiplier_29 (by decide) ?_
      exact x_retI d_B_isMultiplier_33 rfl ⟨rfl, rfl⟩ h
  · have h := h.2 c0
    refine x_iconst (v := (-1)) d_B_isMultiplier_16 (by decide) ?_
    refine x_goto 33 d_B_isMultiplier_17 (by decide) ?_
    exact x_retI d_B_isMultiplier_33 rfl ⟨rfl, rfl⟩ h
set_option maxHeartbeats 1000000 in
theorem r_B_isPartial {x1 x2 : Int32} {w : Wd} {K : Bool → Wd → Prop} (h : RunV 1 M_B_counts [.ref 39, .ref 55, .int x1] w (fun w1 => E 1 M_B_isPartial 14 [(0, .ref 39), (2, .int x2), (3, .int 1), (4, .int 1)] [] w1 (qZ 1 K))) : RunZ 1 M_B_isPartial [.ref 39, .int x1, .int x2] w K := by
  refine runs_of (L := [(0, .ref 39), (1, .int x1), (2, .int x2)]) rfl (Nat.le_of_ble_eq_true rfl) rfl ?_
  refine x_aload_n 0 d_B_isPartial_0 rfl ?_
  refine x_aload_n 0 d_B_isPartial_1 rfl ?_
  refine x_getR 11 27 55 d_B_isPartial_2 fg_11_71 rfl rfl rfl (Nf_58 (by decide)) ?_
  refine x_iload_n 1 d_B_isPartial_5 rfl ?_
  refine x_callVV (st := []) M_B_counts [.ref 55, .int x1] d_B_isPartial_6 ml_11_181 cv_B_counts rfl rfl (Nf_58 (by decide)) rfl (Nat.le_of_ble_eq_true rfl) ⟨Nat.le_of_ble_eq_true rfl, Nat.le_of_ble_eq_true rfl⟩ ⟨rfl, rfl⟩ h (fun w1 h => ?_)
  refine x_iconst (v := 1) d_B_isPartial_9 (by decide) ?_
  refine x_istore_n (L' := [(0, .ref 39), (1, .int x1), (2, .int x2), (3, .int 1)]) [1, 2, 3, 0] d_B_isPartial_10 (by decide) rfl ?_
  refine x_iconst (v := 1) d_B_isPartial_11 (by decide) ?_
  refine x_istore (L' := [(0, .ref 39), (1, .int x1), (2, .int x2), (3, .int 1), (4, .int 1)]) [1, 2, 3, 4, 0] d_B_isPartial_12 (by decide) rfl ?_
  exact x_perm [0, 2, 3, 4] rfl h
set_option maxHeartbeats 1000000 in
theorem w_B_isPartial_14 {x2 x3 x4 : Int32} {w : Wd} {K : Bool → Wd → Prop} (h : ((w.1 39 2) ≤ x4 → (∃ b0 : Bool, x3 = bI b0 ∧ K b0 w)) ∧ (¬ (w.1 39 2) ≤ x4 → (x3 = 0 → ∀ a1 : Int32, a1 = x4 + 1 → E 1 M_B_isPartial 14 [(0, .ref 39), (2, .int x2), (3, .int 0), (4, .int a1)] [] w (qZ 1 K)) ∧ (¬ x3 = 0 → vp_in x4 40 ∧ RunZ 1 M_B_has [.long (w.2 39 3), .int x4] w (fun z3 w2 => (z3 = false → (x2 < (w.1 48 x4.toNatClampNeg) → ∀ a4 : Int32, a4 = x4 + 1 → E 1 M_B_isPartial 14 [(0, .ref 39), (2, .int x2), (3, .int 0), (4, .int a4)] [] w2 (qZ 1 K)) ∧ (¬ x2 < (w.1 48 x4.toNatClampNeg) → ∀ a5 : Int32, a5 = x4 + 1 → E 1 M_B_isPartial 14 [(0, .ref 39), (2, .int x2), (3, .int 1), (4, .int a5)] [] w2 (qZ 1 K))) ∧ (z3 = true → (0 < (w.1 48 x4.toNatClampNeg) → ∀ a6 : Int32, a6 = x4 + 1 → E 1 M_B_isPartial 14 [(0, .ref 39), (2, .int x2), (3, .int 0), (4, .int a6)] [] w2 (qZ 1 K)) ∧ (¬ 0 < (w.1 48 x4.toNatClampNeg) → ∀ a7 : Int32, a7 = x4 + 1 → E 1 M_B_isPartial 14 [(0, .ref 39), (2, .int x2), (3, .int 1), (4, .int a7)] [] w2 (qZ 1 K))))))) : E 1 M_B_isPartial 14 [(0, .ref 39), (2, .int x2), (3, .int x3), (4, .int x4)] [] w (qZ 1 K) := by
  refine x_iload 3 d_B_isPartial_14 rfl ?_
  refine x_aload_n 0 d_B_isPartial_16 rfl ?_
  refine x_getI 11 2 d_B_isPartial_17 fg_11_16 rfl rfl (Nf_58 (by decide)) ?_
  refine x_icmp_ge 66 d_B_isPartial_20 (by decide) (fun c0 => ?_) (fun c0 => ?_)
  · have h := h.1 c0
    refine x_iload_n 2 d_B_isPartial_66 rfl ?_
    obtain ⟨b0, e0, h⟩ := h
    exact x_retZ (z := b0) d_B_isPartial_67 rfl e0 ⟨rfl, rfl⟩ h
  · have h := h.2 c0
    refine x_iload_n 2 d_B_isPartial_23 rfl ?_
    refine x_if_eq 58 d_B_isPartial_24 (by decide) (fun c0 => ?_) (fun c0 => ?_)
    · have h := h.1 c0
      refine x_iconst (v := 0) d_B_isPartial_58 (by decide) ?_
      refine x_istore_n (L' := [(0, .ref 39), (2, .int x2), (3, .int 0), (4, .int x4)]) [1, 2, 0, 3] d_B_isPartial_59 (by decide) rfl ?_
      obtain ⟨a1, ea1⟩ : ∃ z : Int32, z = x4 + 1 := ⟨_, rfl⟩
      have h := h a1 ea1
      refine x_iincE (L' := [(0, .ref 39), (2, .int x2), (3, .int 0), (4, .int a1)]) 3 [1, 2, 3, 0] d_B_isPartial_60 rfl ea1 (by decide) rfl ?_
      refine x_goto 14 d_B_isPartial_63 (by decide) ?_
      exact h
    · have h := h.2 c0
      refine x_aload_n 0 d_B_isPartial_27 rfl ?_
      refine x_getR 11 18 48 d_B_isPartial_28 fg_11_50 rfl rfl rfl (Nf_58 (by decide)) ?_
      refine x_iload 3 d_B_isPartial_31 rfl ?_
      obtain ⟨h0, h⟩ := h
      refine x_iald d_B_isPartial_33 rfl (Nf_58 (by decide)) h0 ?_
      refine x_aload_n 0 d_B_isPartial_34 rfl ?_
      refine x_getL 11 3 d_B_isPartial_35 fg_11_19 rfl rfl (Nf_58 (by decide)) ?_
      refine x_iload 3 d_B_isPartial_38 rfl ?_
      refine x_callSZ (st := [.int (w.1 48 x4.toNatClampNeg)]) M_B_has [.long (w.2 39 3), .int x4] d_B_isPartial_40 ml_11_134 cv_B_has rfl (Nat.le_of_ble_eq_true rfl) ⟨Nat.le_of_ble_eq_true rfl, Nat.le_of_ble_eq_true rfl⟩ ⟨rfl, rfl⟩ h (fun z3 w2 h => ?_)
      refine x_zif_eq 50 d_B_isPartial_43 (by decide) (fun c0 => ?_) (fun c0 => ?_)
      · have h := h.1 c0
        refine x_iload_n 1 d_B_isPartial_50 rfl ?_
        refine x_icmp_gt 58 d_B_isPartial_51 (by decide) (fun c0 => ?_) (fun c0 => ?_)
        · have h := h.1 c0
          refine x_iconst (v := 0) d_B_isPartial_58 (by decide) ?_
          refine x_istore_n (L' := [(0, .ref 39), (2, .int x2), (3, .int 0), (4, .int x4)]) [1, 2, 0, 3] d_B_isPartial_59 (by decide) rfl ?_
          obtain ⟨a4, ea4⟩ : ∃ z : Int32, z = x4 + 1 := ⟨_, rfl⟩
          have h := h a4 ea4
          refine x_iincE (L' := [(0, .ref 39), (2, .int x2), (3, .int 0), (4, .int a4)]) 3 [1, 2, 3, 0] d_B_isPartial_60 rfl ea4 (by decide) rfl ?_
          refine x_goto 14 d_B_isPartial_63 (by decide) ?_
          exact h
        · have h := h.2 c0
          refine x_iconst (v := 1) d_B_isPartial_54 (by decide) ?_
          refine x_goto 59 d_B_isPartial_55 (by decide) ?_
          refine x_istore_n (L' := [(0, .ref 39), (2, .int x2), (3, .int 1), (4, .int x4)]) [1, 2, 0, 3] d_B_isPartial_59 (by decide) rfl ?_
          obtain ⟨a5, ea5⟩ : ∃ z : Int32, z = x4 + 1 := ⟨_, rfl⟩
          have h := h a5 ea5
          refine x_iincE (L' := [(0, .ref 39), (2, .int x2), (3, .int 1), (4, .int a5)]) 3 [1, 2, 3, 0] d_B_isPartial_60 rfl ea5 (by decide) rfl ?_
          refine x_goto 14 d_B_isPartial_63 (by decide) ?_
          exact h
      · have h := h.2 c0
        refine x_iconst (v := 0) d_B_isPartial_46 (by decide) ?_
        refine x_goto 51 d_B_isPartial_47 (by decide) ?_
        refine x_icmp_gt 58 d_B_isPartial_51 (by decide) (fun c0 => ?_) (fun c0 => ?_)
        · have h := h.1 c0
          refine x_iconst (v := 0) d_B_isPartial_58 (by decide) ?_
          refine x_istore_n (L' := [(0, .ref 39), (2, .int x2), (3, .int 0), (4, .int x4)]) [1, 2, 0, 3] d_B_isPartial_59 (by decide) rfl ?_
          obtain ⟨a6, ea6⟩ : ∃ z : Int32, z = x4 + 1 := ⟨_, rfl⟩
          have h := h a6 ea6
          refine x_iincE (L' := [(0, .ref 39), (2, .int x2), (3, .int 0), (4, .int a6)]) 3 [1, 2, 3, 0] d_B_isPartial_60 rfl ea6 (by decide) rfl ?_
          refine x_goto 14 d_B_isPartial_63 (by decide) ?_
          exact h
        · have h := h.2 c0
          refine x_iconst (v := 1) d_B_isPartial_54 (by decide) ?_
          refine x_goto 59 d_B_isPartial_55 (by decide) ?_
          refine x_istore_n (L' := [(0, .ref 39), (2, .int x2), (3, .int 1), (4, .int x4)]) [1, 2, 0, 3] d_B_isPartial_59 (by decide) rfl ?_
          obtain ⟨a7, ea7⟩ : ∃ z : Int32, z = x4 + 1 := ⟨_, rfl⟩
          have h := h a7 ea7
          refine x_iincE (L' := [(0, .ref 39), (2, .int x2), (3, .int 1), (4, .int a7)]) 3 [1, 2, 3, 0] d_B_isPartial_60 rfl ea7 (by decide) rfl ?_
          refine x_goto 14 d_B_isPartial_63 (by decide) ?_
          exact h
set_option maxHeartbeats 1000000 in
theorem r_B_used {w : Wd} {K : Int32 → Wd → Prop} (h : E 1 M_B_used 4 [(0, .ref 39), (1, .int 0), (2, .int 0)] [] w (qI 1 K)) : RunI 1 M_B_used [.ref 39] w K := by
  refine runs_of (L := [(0, .ref 39)]) rfl (Nat.le_of_ble_eq_true rfl) rfl ?_
  refine x_iconst (v := 0) d_B_used_0 (by decide) ?_
  refine x_istore_n (L' := [(0, .ref 39), (1, .int 0)]) [1, 0] d_B_used_1 (by decide) rfl ?_
  refine x_iconst (v := 0) d_B_used_2 (by decide) ?_
  refine x_istore_n (L' := [(0, .ref 39), (1, .int 0), (2, .int 0)]) [1, 2, 0] d_B_used_3 (by decide) rfl ?_
  exact h
set_option maxHeartbeats 1000000 in
theorem w_B_used_4 {x1 x2 : Int32} {w : Wd} {K : Int32 → Wd → Prop} (h : (6 ≤ x2 → K x1 w) ∧ (¬ 6 ≤ x2 → vp_in x2 6 ∧ (¬ (w.2 40 x2.toNatClampNeg) = 0 → ∀ a1 : Int32, a1 = x1 + 1 → ∀ a2 : Int32, a2 = x2 + 1 → E 1 M_B_used 4 [(0, .ref 39), (1, .int a1), (2, .int a2)] [] w (qI 1 K)) ∧ ((w.2 40 x2.toNatClampNeg) = 0 → ∀ a3 : Int32, a3 = x1 + 0 → ∀ a4 : Int32, a4 = x2 + 1 → E 1 M_B_used 4 [(0, .ref 39), (1, .int a3), (2, .int a4)] [] w (qI 1 K)))) : E 1 M_B_used 4 [(0, .ref 39), (1, .int x1), (2, .int x2)] [] w (qI 1 K) := by
  refine x_iload_n 2 d_B_used_4 rfl ?_
  refine x_bipush (v := 6) d_B_used_5 (by decide) ?_
  refine x_icmp_ge 35 d_B_used_7 (by decide) (fun c0 => ?_) (fun c0 => ?_)
  · have h := h.1 c0
    refine x_iload_n 1 d_B_used_35 rfl ?_
    exact x_retI d_B_used_36 rfl ⟨rfl, rfl⟩ h
  · have h := h.2 c0
    refine x_iload_n 1 d_B_used_10 rfl ?_
    refine x_aload_n 0 d_B_used_11 rfl ?_
    refine x_getR 11 4 40 d_B_used_12 fg_11_23 rfl rfl rfl (Nf_58 (by decide)) ?_
    refine x_iload_n 2 d_B_used_15 rfl ?_
    obtain ⟨h0, h⟩ := h
    refine x_lald d_B_used_16 rfl (Nf_58 (by decide)) h0 ?_
    refine x_lconst (v := 0) d_B_used_17 (by decide) ?_
    refine x_lif_ne 26 d_B_used_18 d_B_used_19 (by decide) (fun c0 => ?_) (fun c0 => ?_)
    · have h := h.1 c0
      refine x_iconst (v := 1) d_B_used_26 (by decide) ?_
      refine x_iadd d_B_used_27 ?_
      obtain ⟨a1, ea1⟩ : ∃ z : Int32, z = x1 + 1 := ⟨_, rfl⟩
      have h := h a1 ea1
      refine x_istore_nE (L' := [(0, .ref 39), (1, .int a1), (2, .int x2)]) [1, 0, 2] d_B_used_28 (by decide) ea1 rfl ?_
      obtain ⟨a2, ea2⟩ : ∃ z : Int32, z = x2 + 1 := ⟨_, rfl⟩
      have h := h a2 ea2
      refine x_iincE (L' := [(0, .ref 39), (1, .int a1), (2, .int a2)]) 2 [1, 2, 0] d_B_used_29 rfl ea2 (by decide) rfl ?_
      refine x_goto 4 d_B_used_32 (by decide) ?_
      exact h
    · have h := h.2 c0
      refine x_iconst (v := 0) d_B_used_22 (by decide) ?_
      refine x_goto 27 d_B_used_23 (by decide) ?_
      refine x_iadd d_B_used_27 ?_
      obtain ⟨a3, ea3⟩ : ∃ z : Int32, z = x1 + 0 := ⟨_, rfl⟩
      have h := h a3 ea3
      refine x_istore_nE (L' := [(0, .ref 39), (1, .int a3), (2, .int x2)]) [1, 0, 2] d_B_used_28 (by decide) ea3 rfl ?_
      obtain ⟨a4, ea4⟩ : ∃ z : Int32, z = x2 + 1 := ⟨_, rfl⟩
      have h := h a4 ea4
      refine x_iincE (L' := [(0, .ref 39), (1, .int a3), (2, .int a4)]) 2 [1, 2, 0] d_B_used_29 rfl ea4 (by decide) rfl ?_
      refine x_goto 4 d_B_used_32 (by decide) ?_
      exact h
set_option maxHeartbeats 1000000 in
theorem r_B_keep {x1 : Int32} {w : Wd} {K : Int32 → Wd → Prop} (h : RunZ 1 M_B_in [.long x1.toInt64, .long 0, .long 1] w (fun z2 w1 => (z2 = true → E 1 M_B_keep 14 [(0, .ref 39), (1, .int x1), (2, .int 0)] [] w1 (qI 1 K)) ∧ (z2 = false → K ((-1)) w1))) : RunI 1 M_B_keep [.ref 39, .int x1] w K := by
  refine runs_of (L := [(0, .ref 39), (1, .int x1)]) rfl (Nat.le_of_ble_eq_true rfl) rfl ?_
  refine x_iload_n 1 d_B_keep_0 rfl ?_
  refine x_i2l d_B_keep_1 ?_
  refine x_lconst (v := 0) d_B_keep_2 (by decide) ?_
  refine x_lconst (v := 1) d_B_keep_3 (by decide) ?_
  refine x_callSZ (st := []) M_B_in [.long x1.toInt64, .long 0, .long 1] d_B_keep_4 ml_11_83 cv_B_in rfl (Nat.le_of_ble_eq_true rfl) ⟨Nat.le_of_ble_eq_true rfl, Nat.le_of_ble_eq_true rfl⟩ ⟨rfl, rfl⟩ h (fun z2 w1 h => ?_)
  refine x_zif_ne 12 d_B_keep_7 (by decide) (fun c0 => ?_) (fun c0 => ?_)
  · have h := h.1 c0
    refine x_iconst (v := 0) d_B_keep_12 (by decide) ?_
    refine x_istore_n (L' := [(0, .ref 39), (1, .int x1), (2, .int 0)]) [1, 2, 0] d_B_keep_13 (by decide) rfl ?_
    exact h
  · have h := h.2 c0
    refine x_iconst (v := (-1)) d_B_keep_10 (by decide) ?_
    exact x_retI d_B_keep_11 rfl ⟨rfl, rfl⟩ h
set_option maxHeartbeats 1000000 in
theorem w_B_keep_14 {x1 x2 : Int32} {w : Wd} {K : Int32 → Wd → Prop} (h : (6 ≤ x2 → vp_in ((7 * x1) + 6) 14 ∧ ∀ w1 : Wd, w1 = upL w 42 ((7 * x1) + 6).toNatClampNeg (w.2 39 3) → vp_in x1 2 ∧ ∀ w2 : Wd, w2 = upI w1 43 x1.toNatClampNeg (vp_nar .boolean 1) → RunI 1 M_B_used [.ref 39] w2 (fun r4 w3 => K r4 w3)) ∧ (¬ 6 ≤ x2 → vp_in x2 6 ∧ vp_in ((7 * x1) + x2) 14 ∧ ∀ w5 : Wd, w5 = upL w 42 ((7 * x1) + x2).toNatClampNeg (w.2 40 x2.toNatClampNeg) → ∀ a6 : Int32, a6 = x2 + 1 → E 1 M_B_keep 14 [(0, .ref 39), (1, .int x1), (2, .int a6)] [] w5 (qI 1 K))) : E 1 M_B_keep 14 [(0, .ref 39), (1, .int x1), (2, .int x2)] [] w (qI 1 K) := by
  refine x_iload_n 2 d_B_keep_14 rfl ?_
  refine x_bipush (v := 6) d_B_keep_15 (by decide) ?_
  refine x_icmp_ge 43 d_B_keep_17 (by decide) (fun c0 => ?_) (fun c0 => ?_)
  · have h := h.1 c0
    refine x_aload_n 0 d_B_keep_43 rfl ?_
    refine x_getR 11 7 42 d_B_keep_44 fg_11_30 rfl rfl rfl (Nf_58 (by decide)) ?_
    refine x_bipush (v := 7) d_B_keep_47 (by decide) ?_
    refine x_iload_n 1 d_B_keep_49 rfl ?_
    refine x_imul d_B_keep_50 ?_
    refine x_bipush (v := 6) d_B_keep_51 (by decide) ?_
    refine x_iadd d_B_keep_53 ?_
    refine x_aload_n 0 d_B_keep_54 rfl ?_
    refine x_getL 11 3 d_B_keep_55 fg_11_19 rfl rfl (Nf_58 (by decide)) ?_
    obtain ⟨h0, h⟩ := h
    refine x_lastE d_B_keep_58 rfl (Nf_58 (by decide)) h0 (fun w1 ew1 => ?_)
    have h := h w1 ew1
    refine x_aload_n 0 d_B_keep_59 rfl ?_
    refine x_getR 11 8 43 d_B_keep_60 fg_11_33 rfl rfl rfl (Nf_58 (by decide)) ?_
    refine x_iload_n 1 d_B_keep_63 rfl ?_
    refine x_iconst (v := 1) d_B_keep_64 (by decide) ?_
    obtain ⟨h0, h⟩ := h
    refine x_zastE d_B_keep_65 rfl (Nf_58 (by decide)) h0 (fun w2 ew2 => ?_)
    have h := h w2 ew2
    refine x_aload_n 0 d_B_keep_66 rfl ?_
    refine x_callVI (st := []) M_B_used [] d_B_keep_67 ml_11_277 cv_B_used rfl rfl (Nf_58 (by decide)) rfl (Nat.le_of_ble_eq_true rfl) ⟨Nat.le_of_ble_eq_true rfl, Nat.le_of_ble_eq_true rfl⟩ ⟨rfl, rfl⟩ h (fun r4 w3 h => ?_)
    exact x_retI d_B_keep_70 rfl ⟨rfl, rfl⟩ h
  · have h := h.2 c0
    refine x_aload_n 0 d_B_keep_20 rfl ?_
    refine x_getR 11 7 42 d_B_keep_21 fg_11_30 rfl rfl rfl (Nf_58 (by decide)) ?_
    refine x_bipush (v := 7) d_B_keep_24 (by decide) ?_
    refine x_iload_n 1 d_B_keep_26 rfl ?_
    refine x_imul d_B_keep_27 ?_
    refine x_iload_n 2 d_B_keep_28 rfl ?_
    refine x_iadd d_B_keep_29 ?_
    refine x_aload_n 0 d_B_keep_30 rfl ?_
    refine x_getR 11 4 40 d_B_keep_31 fg_11_23 rfl rfl rfl (Nf_58 (by decide)) ?_
    refine x_iload_n 2 d_B_keep_34 rfl ?_
    obtain ⟨h0, h⟩ := h
    refine x_lald d_B_keep_35 rfl (Nf_58 (by decide)) h0 ?_
    obtain ⟨h0, h⟩ := h
    refine x_lastE d_B_keep_36 rfl (Nf_58 (by decide)) h0 (fun w5 ew5 => ?_)
    have h := h w5 ew5
    obtain ⟨a6, ea6⟩ : ∃ z : Int32, z = x2 + 1 := ⟨_, rfl⟩
    have h := h a6 ea6
    refine x_iincE (L' := [(0, .ref 39), (1, .int x1), (2, .int a6)]) 2 [1, 2, 0] d_B_keep_37 rfl ea6 (by decide) rfl ?_
    refine x_goto 14 d_B_keep_40 (by decide) ?_
    exact h
set_option maxHeartbeats 1000000 in
theorem r_B_multiple {x1 x2 : Int32} {w : Wd} {K : Int32 → Wd → Prop} (h : RunZ 1 M_B_isElement [.ref 39, .int x1] w (fun z2 w1 => (z2 = false → K ((-1)) w1) ∧ (z2 = true → RunZ 1 M_B_in [.long x2.toInt64, .long 0, .long 1000] w1 (fun z4 w3 => (z4 = false → K ((-1)) w3) ∧ (z4 = true → RunI 1 M_B_times [.ref 39, .int x2, .int x1] w3 (fun r6 w5 => K r6 w5)))))) : RunI 1 M_B_multiple [.ref 39, .int x1, .int x2] w K := by
  refine runs_of (L := [(0, .ref 39), (1, .int x1), (2, .int x2)]) rfl (Nat.le_of_ble_eq_true rfl) rfl ?_
  refine x_aload_n 0 d_B_multiple_0 rfl ?_
  refine x_iload_n 1 d_B_multiple_1 rfl ?_
  refine x_callVZ (st := []) M_B_isElement [.int x1] d_B_multiple_2 ml_11_121 cv_B_isElement rfl rfl (Nf_58 (by decide)) rfl (Nat.le_of_ble_eq_true rfl) ⟨Nat.le_of_ble_eq_true rfl, Nat.le_of_ble_eq_true rfl⟩ ⟨rfl, rfl⟩ h (fun z2 w1 h => ?_)
  refine x_zif_eq 29 d_B_multiple_5 (by decide) (fun c0 => ?_) (fun c0 => ?_)
  · have h := h.1 c0
    refine x_iconst (v := (-1)) d_B_multiple_29 (by decide) ?_
    exact x_retI d_B_multiple_30 rfl ⟨rfl, rfl⟩ h
  · have h := h.2 c0
    refine x_iload_n 2 d_B_multiple_8 rfl ?_
    refine x_i2l d_B_multiple_9 ?_
    refine x_lconst (v := 0) d_B_multiple_10 (by decide) ?_
    refine x_ldc2 (v := 1000) d_B_multiple_11 mw_1077 ?_
    refine x_callSZ (st := []) M_B_in [.long x2.toInt64, .long 0, .long 1000] d_B_multiple_14 ml_11_83 cv_B_in rfl (Nat.le_of_ble_eq_true rfl) ⟨Nat.le_of_ble_eq_true rfl, Nat.le_of_ble_eq_true rfl⟩ ⟨rfl, rfl⟩ h (fun z4 w3 h => ?_)
    refine x_zif_eq 29 d_B_multiple_17 (by decide) (fun c0 => ?_) (fun c0 => ?_)
    · have h := h.1 c0
      refine x_iconst (v := (-1)) d_B_multiple_29 (by decide) ?_
      exact x_retI d_B_multiple_30 rfl ⟨rfl, rfl⟩ h
    · have h := h.2 c0
      refine x_aload_n 0 d_B_multiple_20 rfl ?_
      refine x_iload_n 2 d_B_multiple_21 rfl ?_
      refine x_iload_n 1 d_B_multiple_22 rfl ?_
      refine x_callVI (st := []) M_B_times [.int x2, .int x1] d_B_multiple_23 ml_11_87 cv_B_times rfl rfl (Nf_58 (by decide)) rfl (Nat.le_of_ble_eq_true rfl) ⟨Nat.le_of_ble_eq_true rfl, Nat.le_of_ble_eq_true rfl⟩ ⟨rfl, rfl⟩ h (fun r6 w5 h => ?_)
      refine x_goto 30 d_B_multiple_26 (by decide) ?_
      exact x_retI d_B_multiple_30 rfl ⟨rfl, rfl⟩ h
set_option maxHeartbeats 1000000 in
theorem r_B_multiply {x1 : Int32} {w : Wd} {K : Int32 → Wd → Prop} (h : RunZ 1 M_B_in [.long x1.toInt64, .long 1, .long 1000] w (fun z2 w1 => (z2 = false → K ((-1)) w1) ∧ (z2 = true → RunI 1 M_B_gcd [.int x1, .int (w1.1 39 2)] w1 (fun r4 w3 => (r4 ≤ 1 → RunV 1 M_B_notes [.ref 39] w3 (fun w5 => E 1 M_B_multiply 34 [(0, .ref 39), (1, .int x1), (2, .int 0), (3, .int 0)] [] w5 (qI 1 K))) ∧ (¬ r4 ≤ 1 → K ((-1)) w3))))) : RunI 1 M_B_multiply [.ref 39, .int x1] w K := by
  refine runs_of (L := [(0, .ref 39), (1, .int x1)]) rfl (Nat.le_of_ble_eq_true rfl) rfl ?_
  refine x_iload_n 1 d_B_multiply_0 rfl ?_
  refine x_i2l d_B_multiply_1 ?_
  refine x_lconst (v := 1) d_B_multiply_2 (by decide) ?_
  refine x_ldc2 (v := 1000) d_B_multiply_3 mw_1077 ?_
  refine x_callSZ (st := []) M_B_in [.long x1.toInt64, .long 1, .long 1000] d_B_multiply_6 ml_11_83 cv_B_in rfl (Nat.le_of_ble_eq_true rfl) ⟨Nat.le_of_ble_eq_true rfl, Nat.le_of_ble_eq_true rfl⟩ ⟨rfl, rfl⟩ h (fun z2 w1 h => ?_)
  refine x_zif_eq 24 d_B_multiply_9 (by decide) (fun c0 => ?_) (fun c0 => ?_)
  · have h := h.1 c0
    refine x_iconst (v := (-1)) d_B_multiply_24 (by decide) ?_
    exact x_retI d_B_multiply_25 rfl ⟨rfl, rfl⟩ h
  · have h := h.2 c0
    refine x_iload_n 1 d_B_multiply_12 rfl ?_
    refine x_aload_n 0 d_B_multiply_13 rfl ?_
    refine x_getI 11 2 d_B_multiply_14 fg_11_16 rfl rfl (Nf_58 (by decide)) ?_
    refine x_callSI (st := []) M_B_gcd [.int x1, .int (w1.1 39 2)] d_B_multiply_17 ml_11_158 cv_B_gcd rfl (Nat.le_of_ble_eq_true rfl) ⟨Nat.le_of_ble_eq_true rfl, Nat.le_of_ble_eq_true rfl⟩ ⟨rfl, rfl⟩ h (fun r4 w3 h => ?_)
    refine x_iconst (v := 1) d_B_multiply_20 (by decide) ?_
    refine x_icmp_le 26 d_B_multiply_21 (by decide) (fun c0 => ?_) (fun c0 => ?_)
    · have h := h.1 c0
      refine x_aload_n 0 d_B_multiply_26 rfl ?_
      refine x_callVV (st := []) M_B_notes [] d_B_multiply_27 ml_11_144 cv_B_notes rfl rfl (Nf_58 (by decide)) rfl (Nat.le_of_ble_eq_true rfl) ⟨Nat.le_of_ble_eq_true rfl, Nat.le_of_ble_eq_true rfl⟩ ⟨rfl, rfl⟩ h (fun w5 h => ?_)
      refine x_iconst (v := 0) d_B_multiply_30 (by decide) ?_
      refine x_istore_n (L' := [(0, .ref 39), (1, .int x1), (2, .int 0)]) [1, 2, 0] d_B_multiply_31 (by decide) rfl ?_
      refine x_iconst (v := 0) d_B_multiply_32 (by decide) ?_
      refine x_istore_n (L' := [(0, .ref 39), (1, .int x1), (2, .int 0), (3, .int 0)]) [1, 2, 3, 0] d_B_multiply_33 (by decide) rfl ?_
      exact h
    · have h := h.2 c0
      refine x_iconst (v := (-1)) d_B_multiply_24 (by decide) ?_
      exact x_retI d_B_multiply_25 rfl ⟨rfl, rfl⟩ h
set_option maxHeartbeats 1000000 in
theorem w_B_multiply_34 {x1 x2 x3 : Int32} {w : Wd} {K : Int32 → Wd → Prop} (h : (6 ≤ x3 → K x2 w) ∧ (¬ 6 ≤ x3 → vp_in x3 6 ∧ RunL 1 M_B_timesOf [.ref 39, .long (w.2 40 x3.toNatClampNeg), .int x1] w (fun r2 w1 => vp_in x3 6 ∧ (¬ r2 = (w1.2 40 x3.toNatClampNeg) → ∀ a3 : Int32, a3 = x2 + 1 → vp_in x3 6 ∧ ∀ w4 : Wd, w4 = upL w1 40 x3.toNatClampNeg r2 → ∀ a5 : Int32, a5 = x3 + 1 → E 1 M_B_multiply 34 [(0, .ref 39), (1, .int x1), (2, .int a3), (3, .int a5)] [] w4 (qI 1 K)) ∧ (r2 = (w1.2 40 x3.toNatClampNeg) → ∀ a6 : Int32, a6 = x2 + 0 → vp_in x3 6 ∧ ∀ w7 : Wd, w7 = upL w1 40 x3.toNatClampNeg r2 → ∀ a8 : Int32, a8 = x3 + 1 → E 1 M_B_multiply 34 [(0, .ref 39), (1, .int x1), (2, .int a6), (3, .int a8)] [] w7 (qI 1 K))))) : E 1 M_B_multiply 34 [(0, .ref 39), (1, .int x1), (2, .int x2), (3, .int x3)] [] w (qI 1 K) := by
  refine x_iload_n 3 d_B_multiply_34 rfl ?_
  refine x_bipush (v := 6) d_B_multiply_35 (by decide) ?_
  refine x_icmp_ge 87 d_B_multiply_37 (by decide) (fun c0 => ?_) (fun c0 => ?_)
  · have h := h.1 c0
    refine x_iload_n 2 d_B_multiply_87 rfl ?_
    exact x_retI d_B_multiply_88 rfl ⟨rfl, rfl⟩ h
  · have h := h.2 c0
    refine x_aload_n 0 d_B_multiply_40 rfl ?_
    refine x_aload_n 0 d_B_multiply_41 rfl ?_
    refine x_getR 11 4 40 d_B_multiply_42 fg_11_23 rfl rfl rfl (Nf_58 (by decide)) ?_
    refine x_iload_n 3 d_B_multiply_45 rfl ?_
    obtain ⟨h0, h⟩ := h
    refine x_lald d_B_multiply_46 rfl (Nf_58 (by decide)) h0 ?_
    refine x_iload_n 1 d_B_multiply_47 rfl ?_
    refine x_callVL (st := []) M_B_timesOf [.long (w.2 40 x3.toNatClampNeg), .int x1] d_B_multiply_48 ml_11_161 cv_B_timesOf rfl rfl (Nf_58 (by decide)) rfl (Nat.le_of_ble_eq_true rfl) ⟨Nat.le_of_ble_eq_true rfl, Nat.le_of_ble_eq_true rfl⟩ ⟨rfl, rfl⟩ h (fun r2 w1 h => ?_)
    refine x_lstore (L' := [(0, .ref 39), (1, .int x1), (2, .int x2), (3, .int x3), (4, .long r2)]) [1, 2, 3, 4, 0] d_B_multiply_51 (by decide) rfl ?_
    refine x_iload_n 2 d_B_multiply_53 rfl ?_
    refine x_lload 4 d_B_multiply_54 rfl ?_
    refine x_aload_n 0 d_B_multiply_56 rfl ?_
    refine x_getR 11 4 40 d_B_multiply_57 fg_11_23 rfl rfl rfl (Nf_58 (by decide)) ?_
    refine x_iload_n 3 d_B_multiply_60 rfl ?_
    obtain ⟨h0, h⟩ := h
    refine x_lald d_B_multiply_61 rfl (Nf_58 (by decide)) h0 ?_
    refine x_lif_ne 70 d_B_multiply_62 d_B_multiply_63 (by decide) (fun c0 => ?_) (fun c0 => ?_)
    · have h := h.1 c0
      refine x_iconst (v := 1) d_B_multiply_70 (by decide) ?_
      refine x_iadd d_B_multiply_71 ?_
      obtain ⟨a3, ea3⟩ : ∃ z : Int32, z = x2 + 1 := ⟨_, rfl⟩
      have h := h a3 ea3
      refine x_istore_nE (L' := [(0, .ref 39), (1, .int x1), (2, .int a3), (3, .int x3), (4, .long r2)]) [1, 2, 0, 3, 4] d_B_multiply_72 (by decide) ea3 rfl ?_
      refine x_aload_n 0 d_B_multiply_73 rfl ?_
      refine x_getR 11 4 40 d_B_multiply_74 fg_11_23 rfl rfl rfl (Nf_58 (by decide)) ?_
      refine x_iload_n 3 d_B_multiply_77 rfl ?_
      refine x_lload 4 d_B_multiply_78 rfl ?_
      obtain ⟨h0, h⟩ := h
      refine x_lastE d_B_multiply_80 rfl (Nf_58 (by decide)) h0 (fun w4 ew4 => ?_)
      have h := h w4 ew4
      obtain ⟨a5, ea5⟩ : ∃ z : Int32, z = x3 + 1 := ⟨_, rfl⟩
      have h := h a5 ea5
      refine x_iincE (L' := [(0, .ref 39), (1, .int x1), (2, .int a3), (3, .int a5), (4, .long r2)]) 3 [1, 2, 3, 0, 4] d_B_multiply_81 rfl ea5 (by decide) rfl ?_
      refine x_goto 34 d_B_multiply_84 (by decide) ?_
      exact x_perm [0, 1, 2, 3] rfl h
    · have h := h.2 c0
      refine x_iconst (v := 0) d_B_multiply_66 (by decide) ?_
      refine x_goto 71 d_B_multiply_67 (by decide) ?_
      refine x_iadd d_B_multiply_71 ?_
      obtain ⟨a6, ea6⟩ : ∃ z : Int32, z = x2 + 0 := ⟨_, rfl⟩
      have h := h a6 ea6
      refine x_istore_nE (L' := [(0, .ref 39), (1, .int x1), (2, .int a6), (3, .int x3), (4, .long r2)]) [1, 2, 0, 3, 4] d_B_multiply_72 (by decide) ea6 rfl ?_
      refine x_aload_n 0 d_B_multiply_73 rfl ?_
      refine x_getR 11 4 40 d_B_multiply_74 fg_11_23 rfl rfl rfl (Nf_58 (by decide)) ?_
      refine x_iload_n 3 d_B_multiply_77 rfl ?_
      refine x_lload 4 d_B_multiply_78 rfl ?_
      obtain ⟨h0, h⟩ := h
      refine x_lastE d_B_multiply_80 rfl (Nf_58 (by decide)) h0 (fun w7 ew7 => ?_)
      have h := h w7 ew7
      obtain ⟨a8, ea8⟩ : ∃ z : Int32, z = x3 + 1 := ⟨_, rfl⟩
      have h := h a8 ea8
      refine x_iincE (L' := [(0, .ref 39), (1, .int x1), (2, .int a6), (3, .int a8), (4, .long r2)]) 3 [1, 2, 3, 0, 4] d_B_multiply_81 rfl ea8 (by decide) rfl ?_
      refine x_goto 34 d_B_multiply_84 (by decide) ?_
      exact x_perm [0, 1, 2, 3] rfl h
set_option maxHeartbeats 1000000 in
theorem r_B_normal {x1 : Int32} {w : Wd} {K : Int64 → Wd → Prop} (h : RunZ 1 M_B_isBlock [.int x1] w (fun z2 w1 => (z2 = true → vp_in x1 6 ∧ (¬ (w1.2 40 x1.toNatClampNeg) = 0 → vp_in x1 6 ∧ RunL 1 M_B_normalOf [.ref 39, .long (w1.2 40 x1.toNatClampNeg)] w1 (fun r4 w3 => K r4 w3)) ∧ ((w1.2 40 x1.toNatClampNeg) = 0 → K ((-4)) w1)) ∧ (z2 = false → K ((-1)) w1))) : RunL 1 M_B_normal [.ref 39, .int x1] w K := by
  refine runs_of (L := [(0, .ref 39), (1, .int x1)]) rfl (Nat.le_of_ble_eq_true rfl) rfl ?_
  refine x_iload_n 1 d_B_normal_0 rfl ?_
  refine x_callSZ (st := []) M_B_isBlock [.int x1] d_B_normal_1 ml_11_147 cv_B_isBlock rfl (Nat.le_of_ble_eq_true rfl) ⟨Nat.le_of_ble_eq_true rfl, Nat.le_of_ble_eq_true rfl⟩ ⟨rfl, rfl⟩ h (fun z2 w1 h => ?_)
  refine x_zif_ne 11 d_B_normal_4 (by decide) (fun c0 => ?_) (fun c0 => ?_)
  · have h := h.1 c0
    refine x_aload_n 0 d_B_normal_11 rfl ?_
    refine x_getR 11 4 40 d_B_normal_12 fg_11_23 rfl rfl rfl (Nf_58 (by decide)) ?_
    refine x_iload_n 1 d_B_normal_15 rfl ?_
    obtain ⟨h0, h⟩ := h
    refine x_lald d_B_normal_16 rfl (Nf_58 (by decide)) h0 ?_
    refine x_lconst (v := 0) d_B_normal_17 (by decide) ?_
    refine x_lif_ne 28 d_B_normal_18 d_B_normal_19 (by decide) (fun c0 => ?_) (fun c0 => ?_)
    · have h := h.1 c0
      refine x_aload_n 0 d_B_normal_28 rfl ?_
      refine x_aload_n 0 d_B_normal_29 rfl ?_
      refine x_getR 11 4 40 d_B_normal_30 fg_11_23 rfl rfl rfl (Nf_58 (by decide)) ?_
      refine x_iload_n 1 d_B_normal_33 rfl ?_
      obtain ⟨h0, h⟩ := h
      refine x_lald d_B_normal_34 rfl (Nf_58 (by decide)) h0 ?_
      refine x_callVL (st := []) M_B_normalOf [.long (w1.2 40 x1.toNatClampNeg)] d_B_normal_35 ml_11_174 cv_B_normalOf rfl rfl (Nf_58 (by decide)) rfl (Nat.le_of_ble_eq_true rfl) ⟨Nat.le_of_ble_eq_true rfl, Nat.le_of_ble_eq_true rfl⟩ ⟨rfl, rfl⟩ h (fun r4 w3 h => ?_)
      exact x_retL d_B_normal_38 rfl ⟨rfl, rfl⟩ h
    · have h := h.2 c0
      refine x_ldc2 (v := (-4)) d_B_normal_22 mw_1189 ?_
      refine x_goto 38 d_B_normal_25 (by decide) ?_
      exact x_retL d_B_normal_38 rfl ⟨rfl, rfl⟩ h
  · have h := h.2 c0
    refine x_ldc2 (v := (-1)) d_B_normal_7 mw_1184 ?_
    exact x_retL d_B_normal_10 rfl ⟨rfl, rfl⟩ h
set_option maxHeartbeats 1000000 in
theorem r_B_order {w : Wd} {K : Int32 → Wd → Prop} (h : K (w.1 39 2) w) : RunI 1 M_B_order [.ref 39] w K := by
  refine runs_of (L := [(0, .ref 39)]) rfl (Nat.le_of_ble_eq_true rfl) rfl ?_
  refine x_aload_n 0 d_B_order_0 rfl ?_
  refine x_getI 11 2 d_B_order_1 fg_11_16 rfl rfl (Nf_58 (by decide)) ?_
  exact x_retI d_B_order_4 rfl ⟨rfl, rfl⟩ h
set_option maxHeartbeats 1000000 in
theorem r_B_orderOf {x1 : Int32} {w : Wd} {K : Int32 → Wd → Prop} (h : RunZ 1 M_B_isElement [.ref 39, .int x1] w (fun z2 w1 => (z2 = true → E 1 M_B_orderOf 12 [(0, .ref 39), (1, .int x1), (2, .int 1)] [] w1 (qI 1 K)) ∧ (z2 = false → K ((-1)) w1))) : RunI 1 M_B_orderOf [.ref 39, .int x1] w K := by
  refine runs_of (L := [(0, .ref 39), (1, .int x1)]) rfl (Nat.le_of_ble_eq_true rfl) rfl ?_
  refine x_aload_n 0 d_B_orderOf_0 rfl ?_
  refine x_iload_n 1 d_B_orderOf_1 rfl ?_
  refine x_callVZ (st := []) M_B_isElement [.int x1] d_B_orderOf_2 ml_11_121 cv_B_isElement rfl rfl (Nf_58 (by decide)) rfl (Nat.le_of_ble_eq_true rfl) ⟨Nat.le_of_ble_eq_true rfl, Nat.le_of_ble_eq_true rfl⟩ ⟨rfl, rfl⟩ h (fun z2 w1 h => ?_)
  refine x_zif_ne 10 d_B_orderOf_5 (by decide) (fun c0 => ?_) (fun c0 => ?_)
  · have h := h.1 c0
    refine x_iconst (v := 1) d_B_orderOf_10 (by decide) ?_
    refine x_istore_n (L' := [(0, .ref 39), (1, .int x1), (2, .int 1)]) [1, 2, 0] d_B_orderOf_11 (by decide) rfl ?_
    exact h
  · have h := h.2 c0
    refine x_iconst (v := (-1)) d_B_orderOf_8 (by decide) ?_
    exact x_retI d_B_orderOf_9 rfl ⟨rfl, rfl⟩ h
set_option maxHeartbeats 1000000 in
theorem w_B_orderOf_12 {x1 x2 : Int32} {w : Wd} {K : Int32 → Wd → Prop} (h : RunI 1 M_B_times [.ref 39, .int x2, .int x1] w (fun r2 w1 => (r2 = 0 → K x2 w1) ∧ (¬ r2 = 0 → ∀ a3 : Int32, a3 = x2 + 1 → E 1 M_B_orderOf 12 [(0, .ref 39), (1, .int x1), (2, .int a3)] [] w1 (qI 1 K)))) : E 1 M_B_orderOf 12 [(0, .ref 39), (1, .int x1), (2, .int x2)] [] w (qI 1 K) := by
  refine x_aload_n 0 d_B_orderOf_12 rfl ?_
  refine x_iload_n 2 d_B_orderOf_13 rfl ?_
  refine x_iload_n 1 d_B_orderOf_14 rfl ?_
  refine x_callVI (st := []) M_B_times [.int x2, .int x1] d_B_orderOf_15 ml_11_87 cv_B_times rfl rfl (Nf_58 (by decide)) rfl (Nat.le_of_ble_eq_true rfl) ⟨Nat.le_of_ble_eq_true rfl, Nat.le_of_ble_eq_true rfl⟩ ⟨rfl, rfl⟩ h (fun r2 w1 h => ?_)
  refine x_if_eq 27 d_B_orderOf_18 (by decide) (fun c0 => ?_) (fun c0 => ?_)
  · have h := h.1 c0
    refine x_iload_n 2 d_B_orderOf_27 rfl ?_
    exact x_retI d_B_orderOf_28 rfl ⟨rfl, rfl⟩ h
  · have h := h.2 c0
    obtain ⟨a3, ea3⟩ : ∃ z : Int32, z = x2 + 1 := ⟨_, rfl⟩
    have h := h a3 ea3
    refine x_iincE (L' := [(0, .ref 39), (1, .int x1), (2, .int a3)]) 2 [1, 2, 0] d_B_orderOf_21 rfl ea3 (by decide) rfl ?_
    refine x_goto 12 d_B_orderOf_24 (by decide) ?_
    exact h
set_option maxHeartbeats 1000000 in
theorem r_B_pairs {x1 x2 : Int32} {w : Wd} {K : Int32 → Wd → Prop} (h : RunZ 1 M_B_isElement [.ref 39, .int x1] w (fun z2 w1 => (z2 = false → K ((-1)) w1) ∧ (z2 = true → RunZ 1 M_B_isElement [.ref 39, .int x2] w1 (fun z4 w3 => (z4 = false → K ((-1)) w3) ∧ (z4 = true → (¬ x1 = x2 → RunV 1 M_B_develops [.ref 39] w3 (fun w5 => E 1 M_B_pairs 32 [(0, .ref 39), (1, .int x1), (2, .int x2), (3, .int 0), (4, .int 0)] [] w5 (qI 1 K))) ∧ (x1 = x2 → K ((-1)) w3)))))) : RunI 1 M_B_pairs [.ref 39, .int x1, .int x2] w K := by
  refine runs_of (L := [(0, .ref 39), (1, .int x1), (2, .int x2)]) rfl (Nat.le_of_ble_eq_true rfl) rfl ?_
  refine x_aload_n 0 d_B_pairs_0 rfl ?_
  refine x_iload_n 1 d_B_pairs_1 rfl ?_
  refine x_callVZ (st := []) M_B_isElement [.int x1] d_B_pairs_2 ml_11_121 cv_B_isElement rfl rfl (Nf_58 (by decide)) rfl (Nat.le_of_ble_eq_true rfl) ⟨Nat.le_of_ble_eq_true rfl, Nat.le_of_ble_eq_true rfl⟩ ⟨rfl, rfl⟩ h (fun z2 w1 h => ?_)
  refine x_zif_eq 21 d_B_pairs_5 (by decide) (fun c0 => ?_) (fun c0 => ?_)
  · have h := h.1 c0
    refine x_iconst (v := (-1)) d_B_pairs_21 (by decide) ?_
    exact x_retI d_B_pairs_22 rfl ⟨rfl, rfl⟩ h
  · have h := h.2 c0
    refine x_aload_n 0 d_B_pairs_8 rfl ?_
    refine x_iload_n 2 d_B_pairs_9 rfl ?_
    refine x_callVZ (st := []) M_B_isElement [.int x2] d_B_pairs_10 ml_11_121 cv_B_isElement rfl rfl (Nf_58 (by decide)) rfl (Nat.le_of_ble_eq_true rfl) ⟨Nat.le_of_ble_eq_true rfl, Nat.le_of_ble_eq_true rfl⟩ ⟨rfl, rfl⟩ h (fun z4 w3 h => ?_)
    refine x_zif_eq 21 d_B_pairs_13 (by decide) (fun c0 => ?_) (fun c0 => ?_)
    · have h := h.1 c0
      refine x_iconst (v := (-1)) d_B_pairs_21 (by decide) ?_
      exact x_retI d_B_pairs_22 rfl ⟨rfl, rfl⟩ h
    · have h := h.2 c0
      refine x_iload_n 1 d_B_pairs_16 rfl ?_
      refine x_iload_n 2 d_B_pairs_17 rfl ?_
      refine x_icmp_ne 23 d_B_pairs_18 (by decide) (fun c0 => ?_) (fun c0 => ?_)
      · have h := h.1 c0
        refine x_aload_n 0 d_B_pairs_23 rfl ?_
        refine x_callVV (st := []) M_B_develops [] d_B_pairs_24 ml_11_212 cv_B_develops rfl rfl (Nf_58 (by decide)) rfl (Nat.le_of_ble_eq_true rfl) ⟨Nat.le_of_ble_eq_true rfl, Nat.le_of_ble_eq_true rfl⟩ ⟨rfl, rfl⟩ h (fun w5 h => ?_)
        refine x_iconst (v := 0) d_B_pairs_27 (by decide) ?_
        refine x_istore_n (L' := [(0, .ref 39), (1, .int x1), (2, .int x2), (3, .int 0)]) [1, 2, 3, 0] d_B_pairs_28 (by decide) rfl ?_
        refine x_iconst (v := 0) d_B_pairs_29 (by decide) ?_
        refine x_istore (L' := [(0, .ref 39), (1, .int x1), (2, .int x2), (3, .int 0), (4, .int 0)]) [1, 2, 3, 4, 0] d_B_pairs_30 (by decide) rfl ?_
        exact h
      · have h := h.2 c0
        refine x_iconst (v := (-1)) d_B_pairs_21 (by decide) ?_
        exact x_retI d_B_pairs_22 rfl ⟨rfl, rfl⟩ h
set_option maxHeartbeats 1000000 in
theorem w_B_pairs_32 {x1 x2 x3 x4 : Int32} {w : Wd} {K : Int32 → Wd → Prop} (h : ((w.1 39 23) ≤ x4 → K x3 w) ∧ (¬ (w.1 39 23) ≤ x4 → vp_in x4 240 ∧ RunZ 1 M_B_has [.long (w.2 52 x4.toNatClampNeg), .int x1] w (fun z2 w1 => (z2 = false → ∀ a3 : Int32, a3 = x3 + 0 → ∀ a4 : Int32, a4 = x4 + 1 → E 1 M_B_pairs 32 [(0, .ref 39), (1, .int x1), (2, .int x2), (3, .int a3), (4, .int a4)] [] w1 (qI 1 K)) ∧ (z2 = true → vp_in x4 240 ∧ RunZ 1 M_B_has [.long (w1.2 52 x4.toNatClampNeg), .int x2] w1 (fun z6 w5 => (z6 = false → ∀ a7 : Int32, a7 = x3 + 0 → ∀ a8 : Int32, a8 = x4 + 1 → E 1 M_B_pairs 32 [(0, .ref 39), (1, .int x1), (2, .int x2), (3, .int a7), (4, .int a8)] [] w5 (qI 1 K)) ∧ (z6 = true → ∀ a9 : Int32, a9 = x3 + 1 → ∀ a10 : Int32, a10 = x4 + 1 → E 1 M_B_pairs 32 [(0, .ref 39), (1, .int x1), (2, .int x2), (3, .int a9), (4, .int a10)] [] w5 (qI 1 K))))))) : E 1 M_B_pairs 32 [(0, .ref 39), (1, .int x1), (2, .int x2), (3, .int x3), (4, .int x4)] [] w (qI 1 K) := by
  refine x_iload 4 d_B_pairs_32 rfl ?_
  refine x_aload_n 0 d_B_pairs_34 rfl ?_
  refine x_getI 11 23 d_B_pairs_35 fg_11_209 rfl rfl (Nf_58 (by decide)) ?_
  refine x_icmp_ge 83 d_B_pairs_38 (by decide) (fun c0 => ?_) (fun c0 => ?_)
  · have h := h.1 c0
    refine x_iload_n 3 d_B_pairs_83 rfl ?_
    exact x_retI d_B_pairs_84 rfl ⟨rfl, rfl⟩ h
  · have h := h.2 c0
    refine x_iload_n 3 d_B_pairs_41 rfl ?_
    refine x_aload_n 0 d_B_pairs_42 rfl ?_
    refine x_getR 11 24 52 d_B_pairs_43 fg_11_62 rfl rfl rfl (Nf_58 (by decide)) ?_
    refine x_iload 4 d_B_pairs_46 rfl ?_
    obtain ⟨h0, h⟩ := h
    refine x_lald d_B_pairs_48 rfl (Nf_58 (by decide)) h0 ?_
    refine x_iload_n 1 d_B_pairs_49 rfl ?_
    refine x_callSZ (st := [.int x3]) M_B_has [.long (w.2 52 x4.toNatClampNeg), .int x1] d_B_pairs_50 ml_11_134 cv_B_has rfl (Nat.le_of_ble_eq_true rfl) ⟨Nat.le_of_ble_eq_true rfl, Nat.le_of_ble_eq_true rfl⟩ ⟨rfl, rfl⟩ h (fun z2 w1 h => ?_)
    refine x_zif_eq 74 d_B_pairs_53 (by decide) (fun c0 => ?_) (fun c0 => ?_)
    · have h := h.1 c0
      refine x_iconst (v := 0) d_B_pairs_74 (by decide) ?_
      refine x_iadd d_B_pairs_75 ?_
      obtain ⟨a3, ea3⟩ : ∃ z : Int32, z = x3 + 0 := ⟨_, rfl⟩
      have h := h a3 ea3
      refine x_istore_nE (L' := [(0, .ref 39), (1, .int x1), (2, .int x2), (3, .int a3), (4, .int x4)]) [1, 2, 3, 0, 4] d_B_pairs_76 (by decide) ea3 rfl ?_
      obtain ⟨a4, ea4⟩ : ∃ z : Int32, z = x4 + 1 := ⟨_, rfl⟩
      have h := h a4 ea4
      refine x_iincE (L' := [(0, .ref 39), (1, .int x1), (2, .int x2), (3, .int a3), (4, .int a4)]) 4 [1, 2, 3, 4, 0] d_B_pairs_77 rfl ea4 (by decide) rfl ?_
      refine x_goto 32 d_B_pairs_80 (by decide) ?_
      exact h
    · have h := h.2 c0
      refine x_aload_n 0 d_B_pairs_56 rfl ?_
      refine x_getR 11 24 52 d_B_pairs_57 fg_11_62 rfl rfl rfl (Nf_58 (by decide)) ?_
      refine x_iload 4 d_B_pairs_60 rfl ?_
      obtain ⟨h0, h⟩ := h
      refine x_lald d_B_pairs_62 rfl (Nf_58 (by decide)) h0 ?_
      refine x_iload_n 2 d_B_pairs_63 rfl ?_
      refine x_callSZ (st := [.int x3]) M_B_has [.long (w1.2 52 x4.toNatClampNeg), .int x2] d_B_pairs_64 ml_11_134 cv_B_has rfl (Nat.le_of_ble_eq_true rfl) ⟨Nat.le_of_ble_eq_true rfl, Nat.le_of_ble_eq_true rfl⟩ ⟨rfl, rfl⟩ h (fun z6 w5 h => ?_)
      refine x_zif_eq 74 d_B_pairs_67 (by decide) (fun c0 => ?_) (fun c0 => ?_)
      · have h := h.1 c0
        refine x_iconst (v := 0) d_B_pairs_74 (by decide) ?_
        refine x_iadd d_B_pairs_75 ?_
        obtain ⟨a7, ea7⟩ : ∃ z : Int32, z = x3 + 0 := ⟨_, rfl⟩
        have h := h a7 ea7
        refine x_istore_nE (L' := [(0, .ref 39), (1, .int x1), (2, .int x2), (3, .int a7), (4, .int x4)]) [1, 2, 3, 0, 4] d_B_pairs_76 (by decide) ea7 rfl ?_
        obtain ⟨a8, ea8⟩ : ∃ z : Int32, z = x4 + 1 := ⟨_, rfl⟩
        have h := h a8 ea8
        refine x_iincE (L' := [(0, .ref 39), (1, .int x1), (2, .int x2), (3, .int a7), (4, .int a8)]) 4 [1, 2, 3, 4, 0] d_B_pairs_77 rfl ea8 (by decide) rfl ?_
        refine x_goto 32 d_B_pairs_80 (by decide) ?_
        exact h
      · have h := h.2 c0
        refine x_iconst (v := 1) d_B_pairs_70 (by decide) ?_
        refine x_goto 75 d_B_pairs_71 (by decide) ?_
        refine x_iadd d_B_pairs_75 ?_
        obtain ⟨a9, ea9⟩ : ∃ z : Int32, z = x3 + 1 := ⟨_, rfl⟩
        have h := h a9 ea9
        refine x_istore_nE (L' := [(0, .ref 39), (1, .int x1), (2, .int x2), (3, .int a9), (4, .int x4)]) [1, 2, 3, 0, 4] d_B_pairs_76 (by decide) ea9 rfl ?_
        obtain ⟨a10, ea10⟩ : ∃ z : Int32, z = x4 + 1 := ⟨_, rfl⟩
        have h := h a10 ea10
        refine x_iincE (L' := [(0, .ref 39), (1, .int x1), (2, .int x2), (3, .int a9), (4, .int a10)]) 4 [1, 2, 3, 4, 0] d_B_pairs_77 rfl ea10 (by decide) rfl ?_
        refine x_goto 32 d_B_pairs_80 (by decide) ?_
        exact h
set_option maxHeartbeats 1000000 in
theorem r_B_put {x1 x2 : Int32} {w : Wd} {K : Int32 → Wd → Prop} (h : RunZ 1 M_B_isBlock [.int x1] w (fun z2 w1 => (z2 = false → K ((-1)) w1) ∧ (z2 = true → RunZ 1 M_B_isElement [.ref 39, .int x2] w1 (fun z4 w3 => (z4 = true → vp_in x1 6 ∧ RunZ 1 M_B_has [.long (w3.2 40 x1.toNatClampNeg), .int x2] w3 (fun z6 w5 => (z6 = false → vp_in x1 6 ∧ RunI 1 M_B_becomes [.ref 39, .int x1, .long ((w5.2 40 x1.toNatClampNeg) ||| (1 <<< (x2.toInt64 &&& 63)))] w5 (fun r8 w7 => K r8 w7)) ∧ (z6 = true → K ((-3)) w5))) ∧ (z4 = false → K ((-1)) w3))))) : RunI 1 M_B_put [.ref 39, .int x1, .int x2] w K := by
  refine runs_of (L := [(0, .ref 39), (1, .int x1), (2, .int x2)]) rfl (Nat.le_of_ble_eq_true rfl) rfl ?_
  refine x_iload_n 1 d_B_put_0 rfl ?_
  refine x_callSZ (st := []) M_B_isBlock [.int x1] d_B_put_1 ml_11_147 cv_B_isBlock rfl (Nat.le_of_ble_eq_true rfl) ⟨Nat.le_of_ble_eq_true rfl, Nat.le_of_ble_eq_true rfl⟩ ⟨rfl, rfl⟩ h (fun z2 w1 h => ?_)
  refine x_zif_eq 15 d_B_put_4 (by decide) (fun c0 => ?_) (fun c0 => ?_)
  · have h := h.1 c0
    refine x_iconst (v := (-1)) d_B_put_15 (by decide) ?_
    exact x_retI d_B_put_16 rfl ⟨rfl, rfl⟩ h
  · have h := h.2 c0
    refine x_aload_n 0 d_B_put_7 rfl ?_
    refine x_iload_n 2 d_B_put_8 rfl ?_
    refine x_callVZ (st := []) M_B_isElement [.int x2] d_B_put_9 ml_11_121 cv_B_isElement rfl rfl (Nf_58 (by decide)) rfl (Nat.le_of_ble_eq_true rfl) ⟨Nat.le_of_ble_eq_true rfl, Nat.le_of_ble_eq_true rfl⟩ ⟨rfl, rfl⟩ h (fun z4 w3 h => ?_)
    refine x_zif_ne 17 d_B_put_12 (by decide) (fun c0 => ?_) (fun c0 => ?_)
    · have h := h.1 c0
      refine x_aload_n 0 d_B_put_17 rfl ?_
      refine x_getR 11 4 40 d_B_put_18 fg_11_23 rfl rfl rfl (Nf_58 (by decide)) ?_
      refine x_iload_n 1 d_B_put_21 rfl ?_
      obtain ⟨h0, h⟩ := h
      refine x_lald d_B_put_22 rfl (Nf_58 (by decide)) h0 ?_
      refine x_iload_n 2 d_B_put_23 rfl ?_
      refine x_callSZ (st := []) M_B_has [.long (w3.2 40 x1.toNatClampNeg), .int x2] d_B_put_24 ml_11_134 cv_B_has rfl (Nat.le_of_ble_eq_true rfl) ⟨Nat.le_of_ble_eq_true rfl, Nat.le_of_ble_eq_true rfl⟩ ⟨rfl, rfl⟩ h (fun z6 w5 h => ?_)
      refine x_zif_eq 35 d_B_put_27 (by decide) (fun c0 => ?_) (fun c0 => ?_)
      · have h := h.1 c0
        refine x_aload_n 0 d_B_put_35 rfl ?_
        refine x_iload_n 1 d_B_put_36 rfl ?_
        refine x_aload_n 0 d_B_put_37 rfl ?_
        refine x_getR 11 4 40 d_B_put_38 fg_11_23 rfl rfl rfl (Nf_58 (by decide)) ?_
        refine x_iload_n 1 d_B_put_41 rfl ?_
        obtain ⟨h0, h⟩ := h
        refine x_lald d_B_put_42 rfl (Nf_58 (by decide)) h0 ?_
        refine x_lconst (v := 1) d_B_put_43 (by decide) ?_
        refine x_iload_n 2 d_B_put_44 rfl ?_
        refine x_lshl d_B_put_45 ?_
        refine x_lor d_B_put_46 ?_
        refine x_callVI (st := []) M_B_becomes [.int x1, .long ((w5.2 40 x1.toNatClampNeg) ||| (1 <<< (x2.toInt64 &&& 63)))] d_B_put_47 ml_11_150 cv_B_becomes rfl rfl (Nf_58 (by decide)) rfl (Nat.le_of_ble_eq_true rfl) ⟨Nat.le_of_ble_eq_true rfl, Nat.le_of_ble_eq_true rfl⟩ ⟨rfl, rfl⟩ h (fun r8 w7 h => ?_)
        exact x_retI d_B_put_50 rfl ⟨rfl, rfl⟩ h
      · have h := h.2 c0
        refine x_bipush (v := (-3)) d_B_put_30 (by decide) ?_
        refine x_goto 50 d_B_put_32 (by decide) ?_
        exact x_retI d_B_put_50 rfl ⟨rfl, rfl⟩ h
    · have h := h.2 c0
      refine x_iconst (v := (-1)) d_B_put_15 (by decide) ?_
      exact x_retI d_B_put_16 rfl ⟨rfl, rfl⟩ h
set_option maxHeartbeats 1000000 in
theorem r_B_rank {x1 : Int32} {w : Wd} {K : Int32 → Wd → Prop} (h : (x1 = 2 → RunI 1 M_B_rankOf [.ref 39, .int x1] w (fun r2 w1 => K r2 w1)) ∧ (¬ x1 = 2 → (x1 = 3 → RunI 1 M_B_rankOf [.ref 39, .int x1] w (fun r4 w3 => K r4 w3)) ∧ (¬ x1 = 3 → (x1 = 5 → RunI 1 M_B_rankOf [.ref 39, .int x1] w (fun r6 w5 => K r6 w5)) ∧ (¬ x1 = 5 → (¬ x1 = 7 → K ((-1)) w) ∧ (x1 = 7 → RunI 1 M_B_rankOf [.ref 39, .int x1] w (fun r8 w7 => K r8 w7)))))) : RunI 1 M_B_rank [.ref 39, .int x1] w K := by
  refine runs_of (L := [(0, .ref 39), (1, .int x1)]) rfl (Nat.le_of_ble_eq_true rfl) rfl ?_
  refine x_iload_n 1 d_B_rank_0 rfl ?_
  refine x_iconst (v := 2) d_B_rank_1 (by decide) ?_
  refine x_icmp_eq 21 d_B_rank_2 (by decide) (fun c0 => ?_) (fun c0 => ?_)
  · have h := h.1 c0
    refine x_aload_n 0 d_B_rank_21 rfl ?_
    refine x_iload_n 1 d_B_rank_22 rfl ?_
    refine x_callVI (st := []) M_B_rankOf [.int x1] d_B_rank_23 ml_11_222 cv_B_rankOf rfl rfl (Nf_58 (by decide)) rfl (Nat.le_of_ble_eq_true rfl) ⟨Nat.le_of_ble_eq_true rfl, Nat.le_of_ble_eq_true rfl⟩ ⟨rfl, rfl⟩ h (fun r2 w1 h => ?_)
    refine x_goto 30 d_B_rank_26 (by decide) ?_
    exact x_retI d_B_rank_30 rfl ⟨rfl, rfl⟩ h
  · have h := h.2 c0
    refine x_iload_n 1 d_B_rank_5 rfl ?_
    refine x_iconst (v := 3) d_B_rank_6 (by decide) ?_
    refine x_icmp_eq 21 d_B_rank_7 (by decide) (fun c0 => ?_) (fun c0 => ?_)
    · have h := h.1 c0
      refine x_aload_n 0 d_B_rank_21 rfl ?_
      refine x_iload_n 1 d_B_rank_22 rfl ?_
      refine x_callVI (st := []) M_B_rankOf [.int x1] d_B_rank_23 ml_11_222 cv_B_rankOf rfl rfl (Nf_58 (by decide)) rfl (Nat.le_of_ble_eq_true rfl) ⟨Nat.le_of_ble_eq_true rfl, Nat.le_of_ble_eq_true rfl⟩ ⟨rfl, rfl⟩ h (fun r4 w3 h => ?_)
      refine x_goto 30 d_B_rank_26 (by decide) ?_
      exact x_retI d_B_rank_30 rfl ⟨rfl, rfl⟩ h
    · have h := h.2 c0
      refine x_iload_n 1 d_B_rank_10 rfl ?_
      refine x_iconst (v := 5) d_B_rank_11 (by decide) ?_
      refine x_icmp_eq 21 d_B_rank_12 (by decide) (fun c0 => ?_) (fun c0 => ?_)
      · have h := h.1 c0
        refine x_aload_n 0 d_B_rank_21 rfl ?_
        refine x_iload_n 1 d_B_rank_22 rfl ?_
        refine x_callVI (st := []) M_B_rankOf [.int x1] d_B_rank_23 ml_11_222 cv_B_rankOf rfl rfl (Nf_58 (by decide)) rfl (Nat.le_of_ble_eq_true rfl) ⟨Nat.le_of_ble_eq_true rfl, Nat.le_of_ble_eq_true rfl⟩ ⟨rfl, rfl⟩ h (fun r6 w5 h => ?_)
        refine x_goto 30 d_B_rank_26 (by decide) ?_
        exact x_retI d_B_rank_30 rfl ⟨rfl, rfl⟩ h
      · have h := h.2 c0
        refine x_iload_n 1 d_B_rank_15 rfl ?_
        refine x_bipush (v := 7) d_B_rank_16 (by decide) ?_
        refine x_icmp_ne 29 d_B_rank_18 (by decide) (fun c0 => ?_) (fun c0 => ?_)
        · have h := h.1 c0
          refine x_iconst (v := (-1)) d_B_rank_29 (by decide) ?_
          exact x_retI d_B_rank_30 rfl ⟨rfl, rfl⟩ h
        · have h := h.2 c0
          refine x_aload_n 0 d_B_rank_21 rfl ?_
          refine x_iload_n 1 d_B_rank_22 rfl ?_
          refine x_callVI (st := []) M_B_rankOf [.int x1] d_B_rank_23 ml_11_222 cv_B_rankOf rfl rfl (Nf_58 (by decide)) rfl (Nat.le_of_ble_eq_true rfl) ⟨Nat.le_of_ble_eq_true rfl, Nat.le_of_ble_eq_true rfl⟩ ⟨rfl, rfl⟩ h (fun r8 w7 h => ?_)
          refine x_goto 30 d_B_rank_26 (by decide) ?_
          exact x_retI d_B_rank_30 rfl ⟨rfl, rfl⟩ h
set_option maxHeartbeats 1000000 in
theorem r_B_read {w : Wd} {K : Int32 → Wd → Prop} (h : RunZ 1 M_B_isText [.ref 39] w (fun z2 w1 => (z2 = true → RunV 1 M_B_notes [.ref 39] w1 (fun w3 => E 1 M_B_read 16 [(0, .ref 39), (1, .int 0)] [] w3 (qI 1 K))) ∧ (z2 = false → K ((-3)) w1))) : RunI 1 M_B_read [.ref 39] w K := by
  refine runs_of (L := [(0, .ref 39)]) rfl (Nat.le_of_ble_eq_true rfl) rfl ?_
  refine x_aload_n 0 d_B_read_0 rfl ?_
  refine x_callVZ (st := []) M_B_isText [] d_B_read_1 ml_11_274 cv_B_isText rfl rfl (Nf_58 (by decide)) rfl (Nat.le_of_ble_eq_true rfl) ⟨Nat.le_of_ble_eq_true rfl, Nat.le_of_ble_eq_true rfl⟩ ⟨rfl, rfl⟩ h (fun z2 w1 h => ?_)
  refine x_zif_ne 10 d_B_read_4 (by decide) (fun c0 => ?_) (fun c0 => ?_)
  · have h := h.1 c0
    refine x_aload_n 0 d_B_read_10 rfl ?_
    refine x_callVV (st := []) M_B_notes [] d_B_read_11 ml_11_144 cv_B_notes rfl rfl (Nf_58 (by decide)) rfl (Nat.le_of_ble_eq_true rfl) ⟨Nat.le_of_ble_eq_true rfl, Nat.le_of_ble_eq_true rfl⟩ ⟨rfl, rfl⟩ h (fun w3 h => ?_)
    refine x_iconst (v := 0) d_B_read_14 (by decide) ?_
    refine x_istore_n (L' := [(0, .ref 39), (1, .int 0)]) [1, 0] d_B_read_15 (by decide) rfl ?_
    exact h
  · have h := h.2 c0
    refine x_bipush (v := (-3)) d_B_read_7 (by decide) ?_
    exact x_retI d_B_read_9 rfl ⟨rfl, rfl⟩ h
set_option maxHeartbeats 1000000 in
theorem w_B_read_16 {x1 : Int32} {w : Wd} {K : Int32 → Wd → Prop} (h : (6 ≤ x1 → K (w.1 39 29) w) ∧ (¬ 6 ≤ x1 → ((w.1 39 29) ≤ x1 → vp_in x1 6 ∧ ∀ w1 : Wd, w1 = upL w 40 x1.toNatClampNeg 0 → ∀ a2 : Int32, a2 = x1 + 1 → E 1 M_B_read 16 [(0, .ref 39), (1, .int a2)] [] w1 (qI 1 K)) ∧ (¬ (w.1 39 29) ≤ x1 → vp_in x1 6 ∧ vp_in x1 6 ∧ ∀ w3 : Wd, w3 = upL w 40 x1.toNatClampNeg (w.2 57 x1.toNatClampNeg) → ∀ a4 : Int32, a4 = x1 + 1 → E 1 M_B_read 16 [(0, .ref 39), (1, .int a4)] [] w3 (qI 1 K)))) : E 1 M_B_read 16 [(0, .ref 39), (1, .int x1)] [] w (qI 1 K) := by
  refine x_iload_n 1 d_B_read_16 rfl ?_
  refine x_bipush (v := 6) d_B_read_17 (by decide) ?_
  refine x_icmp_ge 52 d_B_read_19 (by decide) (fun c0 => ?_) (fun c0 => ?_)
  · have h := h.1 c0
    refine x_aload_n 0 d_B_read_52 rfl ?_
    refine x_getI 11 29 d_B_read_53 fg_11_265 rfl rfl (Nf_58 (by decide)) ?_
    exact x_retI d_B_read_56 rfl ⟨rfl, rfl⟩ h
  · have h := h.2 c0
    refine x_aload_n 0 d_B_read_22 rfl ?_
    refine x_getR 11 4 40 d_B_read_23 fg_11_23 rfl rfl rfl (Nf_58 (by decide)) ?_
    refine x_iload_n 1 d_B_read_26 rfl ?_
    refine x_iload_n 1 d_B_read_27 rfl ?_
    refine x_aload_n 0 d_B_read_28 rfl ?_
    refine x_getI 11 29 d_B_read_29 fg_11_265 rfl rfl (Nf_58 (by decide)) ?_
    refine x_icmp_ge 44 d_B_read_32 (by decide) (fun c0 => ?_) (fun c0 => ?_)
    · have h := h.1 c0
      refine x_lconst (v := 0) d_B_read_44 (by decide) ?_
      obtain ⟨h0, h⟩ := h
      refine x_lastE d_B_read_45 rfl (Nf_58 (by decide)) h0 (fun w1 ew1 => ?_)
      have h := h w1 ew1
      obtain ⟨a2, ea2⟩ : ∃ z : Int32, z = x1 + 1 := ⟨_, rfl⟩
      have h := h a2 ea2
      refine x_iincE (L' := [(0, .ref 39), (1, .int a2)]) 1 [1, 0] d_B_read_46 rfl ea2 (by decide) rfl ?_
      refine x_goto 16 d_B_read_49 (by decide) ?_
      exact h
    · have h := h.2 c0
      refine x_aload_n 0 d_B_read_35 rfl ?_
      refine x_getR 11 30 57 d_B_read_36 fg_11_77 rfl rfl rfl (Nf_58 (by decide)) ?_
      refine x_iload_n 1 d_B_read_39 rfl ?_
      obtain ⟨h0, h⟩ := h
      refine x_lald d_B_read_40 rfl (Nf_58 (by decide)) h0 ?_
      refine x_goto 45 d_B_read_41 (by decide) ?_
      obtain ⟨h0, h⟩ := h
      refine x_lastE d_B_read_45 rfl (Nf_58 (by decide)) h0 (fun w3 ew3 => ?_)
      have h := h w3 ew3
      obtain ⟨a4, ea4⟩ : ∃ z : Int32, z = x1 + 1 := ⟨_, rfl⟩
      have h := h a4 ea4
      refine x_iincE (L' := [(0, .ref 39), (1, .int a4)]) 1 [1, 0] d_B_read_46 rfl ea4 (by decide) rfl ?_
      refine x_goto 16 d_B_read_49 (by decide) ?_
      exact h
