set_option maxHeartbeats 1000000 in
theorem r_A_isWithin {x0 x1 x2 : Int32} {w : Wd} {K : Bool → Wd → Prop} (h : (x0 < x1 → K false w) ∧ (¬ x0 < x1 → (x2 < x0 → K false w) ∧ (¬ x2 < x0 → K true w))) : RunZ 1 M_A_isWithin [.int x0, .int x1, .int x2] w K := by
  refine runs_of (L := [(0, .int x0), (1, .int x1), (2, .int x2)]) rfl (Nat.le_of_ble_eq_true rfl) rfl ?_
  refine x_iload_n 0 d_A_isWithin_0 rfl ?_
  refine x_iload_n 1 d_A_isWithin_1 rfl ?_
  refine x_icmp_lt 14 d_A_isWithin_2 (by decide) (fun c0 => ?_) (fun c0 => ?_)
  · have h := h.1 c0
    refine x_iconst (v := 0) d_A_isWithin_14 (by decide) ?_
    exact x_retZ (z := false) d_A_isWithin_15 rfl rfl ⟨rfl, rfl⟩ h
  · have h := h.2 c0
    refine x_iload_n 0 d_A_isWithin_5 rfl ?_
    refine x_iload_n 2 d_A_isWithin_6 rfl ?_
    refine x_icmp_gt 14 d_A_isWithin_7 (by decide) (fun c0 => ?_) (fun c0 => ?_)
    · have h := h.1 c0
      refine x_iconst (v := 0) d_A_isWithin_14 (by decide) ?_
      exact x_retZ (z := false) d_A_isWithin_15 rfl rfl ⟨rfl, rfl⟩ h
    · have h := h.2 c0
      refine x_iconst (v := 1) d_A_isWithin_10 (by decide) ?_
      refine x_goto 15 d_A_isWithin_11 (by decide) ?_
      exact x_retZ (z := true) d_A_isWithin_15 rfl rfl ⟨rfl, rfl⟩ h
set_option maxHeartbeats 1000000 in
theorem r_A_append {x1 : Int32} {w : Wd} {K : Int32 → Wd → Prop} (h : RunZ 1 M_A_isWithin [.int x1, .int 32, .int 126] w (fun z2 w1 => (z2 = true → ((w1.1 32 3) < 160 → vp_in (w1.1 32 3) 160 ∧ ∀ w3 : Wd, w3 = upI w1 33 (w1.1 32 3).toNatClampNeg (vp_nar .char ((x1.toUInt32 % 65536).toInt32)) → ∀ w4 : Wd, w4 = upI w3 32 3 ((w3.1 32 3) + 1) → K (w4.1 32 3) w4) ∧ (¬ (w1.1 32 3) < 160 → K ((-2)) w1)) ∧ (z2 = false → K ((-1)) w1))) : RunI 1 M_A_append [.ref 0, .int x1] w K := by
  refine runs_of (L := [(0, .ref 0), (1, .int x1)]) rfl (Nat.le_of_ble_eq_true rfl) rfl ?_
  refine x_iload_n 1 d_A_append_0 rfl ?_
  refine x_bipush (v := 32) d_A_append_1 (by decide) ?_
  refine x_bipush (v := 126) d_A_append_3 (by decide) ?_
  refine x_callSZ (st := []) M_A_isWithin [.int x1, .int 32, .int 126] d_A_append_5 ml_10_128 cv_A_isWithin rfl (Nat.le_of_ble_eq_true rfl) ⟨Nat.le_of_ble_eq_true rfl, Nat.le_of_ble_eq_true rfl⟩ ⟨rfl, rfl⟩ h (fun z2 w1 h => ?_)
  refine x_zif_ne 13 d_A_append_8 (by decide) (fun c0 => ?_) (fun c0 => ?_)
  · have h := h.1 c0
    refine x_aload_n 0 d_A_append_13 rfl ?_
    refine x_getR 10 9 32 d_A_append_14 fg_10_80 rfl rfl rfl (Nf_58 (by decide)) ?_
    refine x_getI 9 3 d_A_append_17 fg_10_317 rfl rfl (Nf_58 (by decide)) ?_
    refine x_sipush (v := 160) d_A_append_20 (by decide) ?_
    refine x_icmp_lt 29 d_A_append_23 (by decide) (fun c0 => ?_) (fun c0 => ?_)
    · have h := h.1 c0
      refine x_aload_n 0 d_A_append_29 rfl ?_
      refine x_getR 10 9 32 d_A_append_30 fg_10_80 rfl rfl rfl (Nf_58 (by decide)) ?_
      refine x_getR 9 1 33 d_A_append_33 fg_10_320 rfl rfl rfl (Nf_58 (by decide)) ?_
      refine x_aload_n 0 d_A_append_36 rfl ?_
      refine x_getR 10 9 32 d_A_append_37 fg_10_80 rfl rfl rfl (Nf_58 (by decide)) ?_
      refine x_getI 9 3 d_A_append_40 fg_10_317 rfl rfl (Nf_58 (by decide)) ?_
      refine x_iload_n 1 d_A_append_43 rfl ?_
      refine x_i2c d_A_append_44 ?_
      obtain ⟨h0, h⟩ := h
      refine x_castE d_A_append_45 rfl (Nf_58 (by decide)) h0 (fun w3 ew3 => ?_)
      have h := h w3 ew3
      refine x_aload_n 0 d_A_append_46 rfl ?_
      refine x_getR 10 9 32 d_A_append_47 fg_10_80 rfl rfl rfl (Nf_58 (by decide)) ?_
      refine x_dup d_A_append_50 rfl ?_
      refine x_getI 9 3 d_A_append_51 fg_10_317 rfl rfl (Nf_58 (by decide)) ?_
      refine x_iconst (v := 1) d_A_append_54 (by decide) ?_
      refine x_iadd d_A_append_55 ?_
      refine x_putIE 9 3 d_A_append_56 fp_10_317 rfl rfl (Nf_58 (by decide)) (fun w4 ew4 => ?_)
      have h := h w4 ew4
      refine x_aload_n 0 d_A_append_59 rfl ?_
      refine x_getR 10 9 32 d_A_append_60 fg_10_80 rfl rfl rfl (Nf_58 (by decide)) ?_
      refine x_getI 9 3 d_A_append_63 fg_10_317 rfl rfl (Nf_58 (by decide)) ?_
      exact x_retI d_A_append_66 rfl ⟨rfl, rfl⟩ h
    · have h := h.2 c0
      refine x_bipush (v := (-2)) d_A_append_26 (by decide) ?_
      exact x_retI d_A_append_28 rfl ⟨rfl, rfl⟩ h
  · have h := h.2 c0
    refine x_iconst (v := (-1)) d_A_append_11 (by decide) ?_
    exact x_retI d_A_append_12 rfl ⟨rfl, rfl⟩ h
set_option maxHeartbeats 1000000 in
theorem r_A_isAutomorphism {x1 : Int32} {w : Wd} {K : Bool → Wd → Prop} (h : (x1 < 0 → K false w) ∧ (¬ x1 < 0 → ((w.1 1 5) ≤ x1 → K false w) ∧ (¬ (w.1 1 5) ≤ x1 → K true w))) : RunZ 1 M_A_isAutomorphism [.ref 0, .int x1] w K := by
  refine runs_of (L := [(0, .ref 0), (1, .int x1)]) rfl (Nat.le_of_ble_eq_true rfl) rfl ?_
  refine x_iload_n 1 d_A_isAutomorphism_0 rfl ?_
  refine x_if_lt 19 d_A_isAutomorphism_1 (by decide) (fun c0 => ?_) (fun c0 => ?_)
  · have h := h.1 c0
    refine x_iconst (v := 0) d_A_isAutomorphism_19 (by decide) ?_
    exact x_retZ (z := false) d_A_isAutomorphism_20 rfl rfl ⟨rfl, rfl⟩ h
  · have h := h.2 c0
    refine x_iload_n 1 d_A_isAutomorphism_4 rfl ?_
    refine x_aload_n 0 d_A_isAutomorphism_5 rfl ?_
    refine x_getR 10 0 1 d_A_isAutomorphism_6 fg_10_19 rfl rfl rfl (Nf_58 (by decide)) ?_
    refine x_getI 5 5 d_A_isAutomorphism_9 fg_10_139 rfl rfl (Nf_58 (by decide)) ?_
    refine x_icmp_ge 19 d_A_isAutomorphism_12 (by decide) (fun c0 => ?_) (fun c0 => ?_)
    · have h := h.1 c0
      refine x_iconst (v := 0) d_A_isAutomorphism_19 (by decide) ?_
      exact x_retZ (z := false) d_A_isAutomorphism_20 rfl rfl ⟨rfl, rfl⟩ h
    · have h := h.2 c0
      refine x_iconst (v := 1) d_A_isAutomorphism_15 (by decide) ?_
      refine x_goto 20 d_A_isAutomorphism_16 (by decide) ?_
      exact x_retZ (z := true) d_A_isAutomorphism_20 rfl rfl ⟨rfl, rfl⟩ h
set_option maxHeartbeats 1000000 in
theorem r_H_note {w : Wd} {K : Wd → Prop} (h : (¬ (w.1 11 1) = 5 → ((¬ (0 : Int32) < 0) ∧ (¬ ((w.1 11 1) * 6) < 0) ∧ (¬ (6 : Int32) < 0) ∧ (0 : Int32).toNatClampNeg + (6 : Int32).toNatClampNeg ≤ 6 ∧ ((w.1 11 1) * 6).toNatClampNeg + (6 : Int32).toNatClampNeg ≤ 30) ∧ ∀ w1 : Wd, w1 = cpL w 10 12 (0 : Int32).toNatClampNeg ((w.1 11 1) * 6).toNatClampNeg (6 : Int32).toNatClampNeg → ∀ w2 : Wd, w2 = upI w1 11 1 ((w1.1 11 1) + 1) → K w2) ∧ ((w.1 11 1) = 5 → ((¬ (6 : Int32) < 0) ∧ (¬ (0 : Int32) < 0) ∧ (¬ (24 : Int32) < 0) ∧ (6 : Int32).toNatClampNeg + (24 : Int32).toNatClampNeg ≤ 30 ∧ (0 : Int32).toNatClampNeg + (24 : Int32).toNatClampNeg ≤ 30) ∧ ∀ w3 : Wd, w3 = cpL w 12 12 (6 : Int32).toNatClampNeg (0 : Int32).toNatClampNeg (24 : Int32).toNatClampNeg → ∀ w4 : Wd, w4 = upI w3 11 1 ((w3.1 11 1) - 1) → ((¬ (0 : Int32) < 0) ∧ (¬ ((w4.1 11 1) * 6) < 0) ∧ (¬ (6 : Int32) < 0) ∧ (0 : Int32).toNatClampNeg + (6 : Int32).toNatClampNeg ≤ 6 ∧ ((w4.1 11 1) * 6).toNatClampNeg + (6 : Int32).toNatClampNeg ≤ 30) ∧ ∀ w5 : Wd, w5 = cpL w4 10 12 (0 : Int32).toNatClampNeg ((w4.1 11 1) * 6).toNatClampNeg (6 : Int32).toNatClampNeg → ∀ w6 : Wd, w6 = upI w5 11 1 ((w5.1 11 1) + 1) → K w6)) : RunV 1 M_H_note [.ref 11, .ref 10] w K := by
  refine runs_of (L := [(0, .ref 11), (1, .ref 10)]) rfl (Nat.le_of_ble_eq_true rfl) rfl ?_
  refine x_aload_n 0 d_H_note_0 rfl ?_
  refine x_getI 6 1 d_H_note_1 fg_6_15 rfl rfl (Nf_58 (by decide)) ?_
  refine x_iconst (v := 5) d_H_note_4 (by decide) ?_
  refine x_icmp_ne 34 d_H_note_5 (by decide) (fun c0 => ?_) (fun c0 => ?_)
  · have h := h.1 c0
    refine x_aload_n 1 d_H_note_34 rfl ?_
    refine x_iconst (v := 0) d_H_note_35 (by decide) ?_
    refine x_aload_n 0 d_H_note_36 rfl ?_
    refine x_getR 6 0 12 d_H_note_37 fg_6_11 rfl rfl rfl (Nf_58 (by decide)) ?_
    refine x_aload_n 0 d_H_note_40 rfl ?_
    refine x_getI 6 1 d_H_note_41 fg_6_15 rfl rfl (Nf_58 (by decide)) ?_
    refine x_bipush (v := 6) d_H_note_44 (by decide) ?_
    refine x_imul d_H_note_46 ?_
    refine x_bipush (v := 6) d_H_note_47 (by decide) ?_
    obtain ⟨h0, h⟩ := h
    refine x_copyE d_H_note_49 cp_6_19 rfl rfl (Nf_58 (by decide)) (Nf_58 (by decide)) h0 (Nat.le_of_ble_eq_true rfl) ⟨Nat.le_of_ble_eq_true rfl, Nat.le_of_ble_eq_true rfl⟩ (fun w1 ew1 => ?_)
    have h := h w1 ew1
    refine x_aload_n 0 d_H_note_52 rfl ?_
    refine x_dup d_H_note_53 rfl ?_
    refine x_getI 6 1 d_H_note_54 fg_6_15 rfl rfl (Nf_58 (by decide)) ?_
    refine x_iconst (v := 1) d_H_note_57 (by decide) ?_
    refine x_iadd d_H_note_58 ?_
    refine x_putIE 6 1 d_H_note_59 fp_6_15 rfl rfl (Nf_58 (by decide)) (fun w2 ew2 => ?_)
    have h := h w2 ew2
    exact x_retV d_H_note_62 rfl ⟨rfl, rfl⟩ h
  · have h := h.2 c0
    refine x_aload_n 0 d_H_note_8 rfl ?_
    refine x_getR 6 0 12 d_H_note_9 fg_6_11 rfl rfl rfl (Nf_58 (by decide)) ?_
    refine x_bipush (v := 6) d_H_note_12 (by decide) ?_
    refine x_aload_n 0 d_H_note_14 rfl ?_
    refine x_getR 6 0 12 d_H_note_15 fg_6_11 rfl rfl rfl (Nf_58 (by decide)) ?_
    refine x_iconst (v := 0) d_H_note_18 (by decide) ?_
    refine x_bipush (v := 24) d_H_note_19 (by decide) ?_
    obtain ⟨h0, h⟩ := h
    refine x_copyE d_H_note_21 cp_6_19 rfl rfl (Nf_58 (by decide)) (Nf_58 (by decide)) h0 (Nat.le_of_ble_eq_true rfl) ⟨Nat.le_of_ble_eq_true rfl, Nat.le_of_ble_eq_true rfl⟩ (fun w3 ew3 => ?_)
    have h := h w3 ew3
    refine x_aload_n 0 d_H_note_24 rfl ?_
    refine x_dup d_H_note_25 rfl ?_
    refine x_getI 6 1 d_H_note_26 fg_6_15 rfl rfl (Nf_58 (by decide)) ?_
    refine x_iconst (v := 1) d_H_note_29 (by decide) ?_
    refine x_isub d_H_note_30 ?_
    refine x_putIE 6 1 d_H_note_31 fp_6_15 rfl rfl (Nf_58 (by decide)) (fun w4 ew4 => ?_)
    have h := h w4 ew4
    refine x_aload_n 1 d_H_note_34 rfl ?_
    refine x_iconst (v := 0) d_H_note_35 (by decide) ?_
    refine x_aload_n 0 d_H_note_36 rfl ?_
    refine x_getR 6 0 12 d_H_note_37 fg_6_11 rfl rfl rfl (Nf_58 (by decide)) ?_
    refine x_aload_n 0 d_H_note_40 rfl ?_
    refine x_getI 6 1 d_H_note_41 fg_6_15 rfl rfl (Nf_58 (by decide)) ?_
    refine x_bipush (v := 6) d_H_note_44 (by decide) ?_
    refine x_imul d_H_note_46 ?_
    refine x_bipush (v := 6) d_H_note_47 (by decide) ?_
    obtain ⟨h0, h⟩ := h
    refine x_copyE d_H_note_49 cp_6_19 rfl rfl (Nf_58 (by decide)) (Nf_58 (by decide)) h0 (Nat.le_of_ble_eq_true rfl) ⟨Nat.le_of_ble_eq_true rfl, Nat.le_of_ble_eq_true rfl⟩ (fun w5 ew5 => ?_)
    have h := h w5 ew5
    refine x_aload_n 0 d_H_note_52 rfl ?_
    refine x_dup d_H_note_53 rfl ?_
    refine x_getI 6 1 d_H_note_54 fg_6_15 rfl rfl (Nf_58 (by decide)) ?_
    refine x_iconst (v := 1) d_H_note_57 (by decide) ?_
    refine x_iadd d_H_note_58 ?_
    refine x_putIE 6 1 d_H_note_59 fp_6_15 rfl rfl (Nf_58 (by decide)) (fun w6 ew6 => ?_)
    have h := h w6 ew6
    exact x_retV d_H_note_62 rfl ⟨rfl, rfl⟩ h
set_option maxHeartbeats 1000000 in
theorem r_G_plus {f : Nat} {x1 x2 : Int32} {w : Wd} {K : Int32 → Wd → Prop} (h : vp_in x1 40 ∧ vp_in x2 40 ∧ ∀ a1 : Int32, a1 = (w.1 2 x1.toNatClampNeg) + (w.1 2 x2.toNatClampNeg) → vp_in x1 40 ∧ vp_in x2 40 ∧ ∀ a2 : Int32, a2 = (w.1 3 x1.toNatClampNeg) + (w.1 3 x2.toNatClampNeg) → ((w.1 1 0) ≤ a1 → ((w.1 1 1) ≤ a2 → K (((w.1 1 1) * (a1 - (w.1 1 0))) + (a2 - (w.1 1 1))) w) ∧ (¬ (w.1 1 1) ≤ a2 → K (((w.1 1 1) * (a1 - (w.1 1 0))) + a2) w)) ∧ (¬ (w.1 1 0) ≤ a1 → ((w.1 1 1) ≤ a2 → K (((w.1 1 1) * a1) + (a2 - (w.1 1 1))) w) ∧ (¬ (w.1 1 1) ≤ a2 → K (((w.1 1 1) * a1) + a2) w))) : RunI f M_G_plus [.ref 1, .int x1, .int x2] w K := by
  refine runs_of (L := [(0, .ref 1), (1, .int x1), (2, .int x2)]) rfl (Nat.le_of_ble_eq_true rfl) rfl ?_
  refine x_aload_n 0 d_G_plus_0 rfl ?_
  refine x_getR 5 6 2 d_G_plus_1 fg_5_9 rfl rfl rfl (Nf_8 (by decide)) ?_
  refine x_iload_n 1 d_G_plus_4 rfl ?_
  obtain ⟨h0, h⟩ := h
  refine x_iald d_G_plus_5 rfl (Nf_8 (by decide)) h0 ?_
  refine x_aload_n 0 d_G_plus_6 rfl ?_
  refine x_getR 5 6 2 d_G_plus_7 fg_5_9 rfl rfl rfl (Nf_8 (by decide)) ?_
  refine x_iload_n 2 d_G_plus_10 rfl ?_
  obtain ⟨h0, h⟩ := h
  refine x_iald d_G_plus_11 rfl (Nf_8 (by decide)) h0 ?_
  refine x_iadd d_G_plus_12 ?_
  obtain ⟨a1, ea1⟩ : ∃ z : Int32, z = (w.1 2 x1.toNatClampNeg) + (w.1 2 x2.toNatClampNeg) := ⟨_, rfl⟩
  have h := h a1 ea1
  refine x_istore_nE (L' := [(0, .ref 1), (1, .int x1), (2, .int x2), (3, .int a1)]) [1, 2, 3, 0] d_G_plus_13 (by decide) ea1 rfl ?_
  refine x_aload_n 0 d_G_plus_14 rfl ?_
  refine x_getR 5 7 3 d_G_plus_15 fg_5_15 rfl rfl rfl (Nf_8 (by decide)) ?_
  refine x_iload_n 1 d_G_plus_18 rfl ?_
  obtain ⟨h0, h⟩ := h
  refine x_iald d_G_plus_19 rfl (Nf_8 (by decide)) h0 ?_
  refine x_aload_n 0 d_G_plus_20 rfl ?_
  refine x_getR 5 7 3 d_G_plus_21 fg_5_15 rfl rfl rfl (Nf_8 (by decide)) ?_
  refine x_iload_n 2 d_G_plus_24 rfl ?_
  obtain ⟨h0, h⟩ := h
  refine x_iald d_G_plus_25 rfl (Nf_8 (by decide)) h0 ?_
  refine x_iadd d_G_plus_26 ?_
  obtain ⟨a2, ea2⟩ : ∃ z : Int32, z = (w.1 3 x1.toNatClampNeg) + (w.1 3 x2.toNatClampNeg) := ⟨_, rfl⟩
  have h := h a2 ea2
  refine x_istoreE (L' := [(0, .ref 1), (1, .int x1), (2, .int x2), (3, .int a1), (4, .int a2)]) [1, 2, 3, 4, 0] d_G_plus_27 (by decide) ea2 rfl ?_
  refine x_aload_n 0 d_G_plus_29 rfl ?_
  refine x_getI 5 1 d_G_plus_30 fg_5_34 rfl rfl (Nf_8 (by decide)) ?_
  refine x_iload_n 3 d_G_plus_33 rfl ?_
  refine x_aload_n 0 d_G_plus_34 rfl ?_
  refine x_getI 5 0 d_G_plus_35 fg_5_30 rfl rfl (Nf_8 (by decide)) ?_
  refine x_icmp_ge 45 d_G_plus_38 (by decide) (fun c0 => ?_) (fun c0 => ?_)
  · have h := h.1 c0
    refine x_iload_n 3 d_G_plus_45 rfl ?_
    refine x_aload_n 0 d_G_plus_46 rfl ?_
    refine x_getI 5 0 d_G_plus_47 fg_5_30 rfl rfl (Nf_8 (by decide)) ?_
    refine x_isub d_G_plus_50 ?_
    refine x_imul d_G_plus_51 ?_
    refine x_iload 4 d_G_plus_52 rfl ?_
    refine x_aload_n 0 d_G_plus_54 rfl ?_
    refine x_getI 5 1 d_G_plus_55 fg_5_34 rfl rfl (Nf_8 (by decide)) ?_
    refine x_icmp_ge 66 d_G_plus_58 (by decide) (fun c0 => ?_) (fun c0 => ?_)
    · have h := h.1 c0
      refine x_iload 4 d_G_plus_66 rfl ?_
      refine x_aload_n 0 d_G_plus_68 rfl ?_
      refine x_getI 5 1 d_G_plus_69 fg_5_34 rfl rfl (Nf_8 (by decide)) ?_
      refine x_isub d_G_plus_72 ?_
      refine x_iadd d_G_plus_73 ?_
      exact x_retI d_G_plus_74 rfl ⟨rfl, rfl⟩ h
    · have h := h.2 c0
      refine x_iload 4 d_G_plus_61 rfl ?_
      refine x_goto 73 d_G_plus_63 (by decide) ?_
      refine x_iadd d_G_plus_73 ?_
      exact x_retI d_G_plus_74 rfl ⟨rfl, rfl⟩ h
  · have h := h.2 c0
    refine x_iload_n 3 d_G_plus_41 rfl ?_
    refine x_goto 51 d_G_plus_42 (by decide) ?_
    refine x_imul d_G_plus_51 ?_
    refine x_iload 4 d_G_plus_52 rfl ?_
    refine x_aload_n 0 d_G_plus_54 rfl ?_
    refine x_getI 5 1 d_G_plus_55 fg_5_34 rfl rfl (Nf_8 (by decide)) ?_
    refine x_icmp_ge 66 d_G_plus_58 (by decide) (fun c0 => ?_) (fun c0 => ?_)
    · have h := h.1 c0
      refine x_iload 4 d_G_plus_66 rfl ?_
      refine x_aload_n 0 d_G_plus_68 rfl ?_
      refine x_getI 5 1 d_G_plus_69 fg_5_34 rfl rfl (Nf_8 (by decide)) ?_
      refine x_isub d_G_plus_72 ?_
      refine x_iadd d_G_plus_73 ?_
      exact x_retI d_G_plus_74 rfl ⟨rfl, rfl⟩ h
    · have h := h.2 c0
      refine x_iload 4 d_G_plus_61 rfl ?_
      refine x_goto 73 d_G_plus_63 (by decide) ?_
      refine x_iadd d_G_plus_73 ?_
      exact x_retI d_G_plus_74 rfl ⟨rfl, rfl⟩ h
set_option maxHeartbeats 1000000 in
theorem r_G_fillMap {f : Nat} {p2 : Nat} (hk2 : kd p2 = .inl (0, 40)) (hp2 : p2 < Nf f) {x1 x2 : Int32} {w : Wd} {K : Wd → Prop} (h : vp_in (0 : Int32) 40 ∧ ∀ w1 : Wd, w1 = upI w p2 (0 : Int32).toNatClampNeg 0 → E f M_G_fillMap 7 [(0, .ref 1), (1, .int x1), (2, .int x2), (3, .ref p2), (4, .int 1)] [] w1 (qV f K)) : RunV f M_G_fillMap [.ref 1, .int x1, .int x2, .ref p2] w K := by
  refine runs_of (L := [(0, .ref 1), (1, .int x1), (2, .int x2), (3, .ref p2)]) rfl (Nat.le_of_ble_eq_true rfl) rfl ?_
  refine x_aload_n 3 d_G_fillMap_0 rfl ?_
  refine x_iconst (v := 0) d_G_fillMap_1 (by decide) ?_
  refine x_iconst (v := 0) d_G_fillMap_2 (by decide) ?_
  obtain ⟨h0, h⟩ := h
  refine x_iastE d_G_fillMap_3 hk2 hp2 h0 (fun w1 ew1 => ?_)
  have h := h w1 ew1
  refine x_iconst (v := 1) d_G_fillMap_4 (by decide) ?_
  refine x_istore (L' := [(0, .ref 1), (1, .int x1), (2, .int x2), (3, .ref p2), (4, .int 1)]) [1, 2, 3, 4, 0] d_G_fillMap_5 (by decide) rfl ?_
  exact h
set_option maxHeartbeats 1000000 in
theorem w_G_fillMap_7 {f : Nat} {p2 : Nat} (hk2 : kd p2 = .inl (0, 40)) (hp2 : p2 < Nf f) {x1 x2 x4 : Int32} {w : Wd} {K : Wd → Prop} (h : ((w.1 1 2) ≤ x4 → K w) ∧ (¬ (w.1 1 2) ≤ x4 → vp_in x4 40 ∧ ((w.1 3 x4.toNatClampNeg) ≤ 0 → vp_in (x4 - (w.1 1 1)) 40 ∧ RunI f M_G_plus [.ref 1, .int (w.1 p2 (x4 - (w.1 1 1)).toNatClampNeg), .int x1] w (fun r2 w1 => vp_in x4 40 ∧ ∀ w3 : Wd, w3 = upI w1 p2 x4.toNatClampNeg r2 → ∀ a4 : Int32, a4 = x4 + 1 → E f M_G_fillMap 7 [(0, .ref 1), (1, .int x1), (2, .int x2), (3, .ref p2), (4, .int a4)] [] w3 (qV f K))) ∧ (¬ (w.1 3 x4.toNatClampNeg) ≤ 0 → vp_in (x4 - 1) 40 ∧ RunI f M_G_plus [.ref 1, .int (w.1 p2 (x4 - 1).toNatClampNeg), .int x2] w (fun r6 w5 => vp_in x4 40 ∧ ∀ w7 : Wd, w7 = upI w5 p2 x4.toNatClampNeg r6 → ∀ a8 : Int32, a8 = x4 + 1 → E f M_G_fillMap 7 [(0, .ref 1), (1, .int x1), (2, .int x2), (3, .ref p2), (4, .int a8)] [] w7 (qV f K))))) : E f M_G_fillMap 7 [(0, .ref 1), (1, .int x1), (2, .int x2), (3, .ref p2), (4, .int x4)] [] w (qV f K) := by
  refine x_iload 4 d_G_fillMap_7 rfl ?_
  refine x_aload_n 0 d_G_fillMap_9 rfl ?_
  refine x_getI 5 2 d_G_fillMap_10 fg_5_37 rfl rfl (Nf_8 (by decide)) ?_
  refine x_icmp_ge 64 d_G_fillMap_13 (by decide) (fun c0 => ?_) (fun c0 => ?_)
  · have h := h.1 c0
    exact x_retV d_G_fillMap_64 rfl ⟨rfl, rfl⟩ h
  · have h := h.2 c0
    refine x_aload_n 3 d_G_fillMap_16 rfl ?_
    refine x_iload 4 d_G_fillMap_17 rfl ?_
    refine x_aload_n 0 d_G_fillMap_19 rfl ?_
    refine x_getR 5 7 3 d_G_fillMap_20 fg_5_15 rfl rfl rfl (Nf_8 (by decide)) ?_
    refine x_iload 4 d_G_fillMap_23 rfl ?_
    obtain ⟨h0, h⟩ := h
    refine x_iald d_G_fillMap_25 rfl (Nf_8 (by decide)) h0 ?_
    refine x_if_le 43 d_G_fillMap_26 (by decide) (fun c0 => ?_) (fun c0 => ?_)
    · have h := h.1 c0
      refine x_aload_n 0 d_G_fillMap_43 rfl ?_
      refine x_aload_n 3 d_G_fillMap_44 rfl ?_
      refine x_iload 4 d_G_fillMap_45 rfl ?_
      refine x_aload_n 0 d_G_fillMap_47 rfl ?_
      refine x_getI 5 1 d_G_fillMap_48 fg_5_34 rfl rfl (Nf_8 (by decide)) ?_
      refine x_isub d_G_fillMap_51 ?_
      obtain ⟨h0, h⟩ := h
      refine x_iald d_G_fillMap_52 hk2 hp2 h0 ?_
      refine x_iload_n 1 d_G_fillMap_53 rfl ?_
      refine x_callVI (st := [.int x4, .ref p2]) M_G_plus [.int (w.1 p2 (x4 - (w.1 1 1)).toNatClampNeg), .int x1] d_G_fillMap_54 ml_5_54 cv_G_plus rfl rfl (Nf_8 (by decide)) rfl (Nat.le_of_ble_eq_true rfl) ⟨Nat.le_of_ble_eq_true rfl, Nat.le_of_ble_eq_true rfl⟩ ⟨rfl, rfl⟩ h (fun r2 w1 h => ?_)
      obtain ⟨h0, h⟩ := h
      refine x_iastE d_G_fillMap_57 hk2 hp2 h0 (fun w3 ew3 => ?_)
      have h := h w3 ew3
      obtain ⟨a4, ea4⟩ : ∃ z : Int32, z = x4 + 1 := ⟨_, rfl⟩
      have h := h a4 ea4
      refine x_iincE (L' := [(0, .ref 1), (1, .int x1), (2, .int x2), (3, .ref p2), (4, .int a4)]) 4 [1, 2, 3, 4, 0] d_G_fillMap_58 rfl ea4 (by decide) rfl ?_
      refine x_goto 7 d_G_fillMap_61 (by decide) ?_
      exact h
    · have h := h.2 c0
      refine x_aload_n 0 d_G_fillMap_29 rfl ?_
      refine x_aload_n 3 d_G_fillMap_30 rfl ?_
      refine x_iload 4 d_G_fillMap_31 rfl ?_
      refine x_iconst (v := 1) d_G_fillMap_33 (by decide) ?_
      refine x_isub d_G_fillMap_34 ?_
      obtain ⟨h0, h⟩ := h
      refine x_iald d_G_fillMap_35 hk2 hp2 h0 ?_
      refine x_iload_n 2 d_G_fillMap_36 rfl ?_
      refine x_callVI (st := [.int x4, .ref p2]) M_G_plus [.int (w.1 p2 (x4 - 1).toNatClampNeg), .int x2] d_G_fillMap_37 ml_5_54 cv_G_plus rfl rfl (Nf_8 (by decide)) rfl (Nat.le_of_ble_eq_true rfl) ⟨Nat.le_of_ble_eq_true rfl, Nat.le_of_ble_eq_true rfl⟩ ⟨rfl, rfl⟩ h (fun r6 w5 h => ?_)
      refine x_goto 57 d_G_fillMap_40 (by decide) ?_
      obtain ⟨h0, h⟩ := h
      refine x_iastE d_G_fillMap_57 hk2 hp2 h0 (fun w7 ew7 => ?_)
      have h := h w7 ew7
      obtain ⟨a8, ea8⟩ : ∃ z : Int32, z = x4 + 1 := ⟨_, rfl⟩
      have h := h a8 ea8
      refine x_iincE (L' := [(0, .ref 1), (1, .int x1), (2, .int x2), (3, .ref p2), (4, .int a8)]) 4 [1, 2, 3, 4, 0] d_G_fillMap_58 rfl ea8 (by decide) rfl ?_
      refine x_goto 7 d_G_fillMap_61 (by decide) ?_
      exact h
set_option maxHeartbeats 1000000 in
theorem r_G_fillAutomorphism {p1 : Nat} (hk1 : kd p1 = .inl (0, 40)) (hp1 : p1 < Nf 1) {x1 : Int32} {w : Wd} {K : Wd → Prop} (h : vp_in x1 480 ∧ vp_in x1 480 ∧ RunV 1 M_G_fillMap [.ref 1, .int (w.1 6 x1.toNatClampNeg), .int (w.1 7 x1.toNatClampNeg), .ref p1] w (fun w1 => K w1)) : RunV 1 M_G_fillAutomorphism [.ref 1, .int x1, .ref p1] w K := by
  refine runs_of (L := [(0, .ref 1), (1, .int x1), (2, .ref p1)]) rfl (Nat.le_of_ble_eq_true rfl) rfl ?_
  refine x_aload_n 0 d_G_fillAutomorphism_0 rfl ?_
  refine x_aload_n 0 d_G_fillAutomorphism_1 rfl ?_
  refine x_getR 5 10 6 d_G_fillAutomorphism_2 fg_5_24 rfl rfl rfl (Nf_58 (by decide)) ?_
  refine x_iload_n 1 d_G_fillAutomorphism_5 rfl ?_
  obtain ⟨h0, h⟩ := h
  refine x_iald d_G_fillAutomorphism_6 rfl (Nf_58 (by decide)) h0 ?_
  refine x_aload_n 0 d_G_fillAutomorphism_7 rfl ?_
  refine x_getR 5 11 7 d_G_fillAutomorphism_8 fg_5_27 rfl rfl rfl (Nf_58 (by decide)) ?_
  refine x_iload_n 1 d_G_fillAutomorphism_11 rfl ?_
  obtain ⟨h0, h⟩ := h
  refine x_iald d_G_fillAutomorphism_12 rfl (Nf_58 (by decide)) h0 ?_
  refine x_aload_n 2 d_G_fillAutomorphism_13 rfl ?_
  refine x_callVV (st := []) M_G_fillMap [.int (w.1 6 x1.toNatClampNeg), .int (w.1 7 x1.toNatClampNeg), .ref p1] d_G_fillAutomorphism_14 ml_5_65 cv_G_fillMap rfl rfl (Nf_58 (by decide)) rfl (Nat.le_of_ble_eq_true rfl) ⟨Nat.le_of_ble_eq_true rfl, Nat.le_of_ble_eq_true rfl⟩ ⟨rfl, rfl⟩ h (fun w1 h => ?_)
  exact x_retV d_G_fillAutomorphism_17 rfl ⟨rfl, rfl⟩ h
set_option maxHeartbeats 1000000 in
theorem r_A_holds {f : Nat} {x2 : Int32} {y0 : Int64} {w : Wd} {K : Bool → Wd → Prop} (h : ((((y0.toUInt64 >>> (x2.toInt64.toUInt64 &&& Int64.toUInt64 63)).toInt64) &&& 1) = 0 → K false w) ∧ (¬ (((y0.toUInt64 >>> (x2.toInt64.toUInt64 &&& Int64.toUInt64 63)).toInt64) &&& 1) = 0 → K true w)) : RunZ f M_A_holds [.long y0, .int x2] w K := by
  refine runs_of (L := [(0, .long y0), (2, .int x2)]) rfl (Nat.le_of_ble_eq_true rfl) rfl ?_
  refine x_lload_n 0 d_A_holds_0 rfl ?_
  refine x_iload_n 1 d_A_holds_1 rfl ?_
  refine x_lushr d_A_holds_2 ?_
  refine x_lconst (v := 1) d_A_holds_3 (by decide) ?_
  refine x_land d_A_holds_4 ?_
  refine x_lconst (v := 0) d_A_holds_5 (by decide) ?_
  refine x_lif_eq 14 d_A_holds_6 d_A_holds_7 (by decide) (fun c0 => ?_) (fun c0 => ?_)
  · have h := h.1 c0
    refine x_iconst (v := 0) d_A_holds_14 (by decide) ?_
    exact x_retZ (z := false) d_A_holds_15 rfl rfl ⟨rfl, rfl⟩ h
  · have h := h.2 c0
    refine x_iconst (v := 1) d_A_holds_10 (by decide) ?_
    refine x_goto 15 d_A_holds_11 (by decide) ?_
    exact x_retZ (z := true) d_A_holds_15 rfl rfl ⟨rfl, rfl⟩ h
set_option maxHeartbeats 1000000 in
theorem r_G_mapped {f : Nat} {p1 : Nat} (hk1 : kd p1 = .inl (0, 40)) (hp1 : p1 < Nf f) {y1 : Int64} {w : Wd} {K : Int64 → Wd → Prop} (h : E f M_G_mapped 6 [(0, .ref 1), (1, .long y1), (3, .ref p1), (4, .long 0), (6, .int 0)] [] w (qL f K)) : RunL f M_G_mapped [.ref 1, .long y1, .ref p1] w K := by
  refine runs_of (L := [(0, .ref 1), (1, .long y1), (3, .ref p1)]) rfl (Nat.le_of_ble_eq_true rfl) rfl ?_
  refine x_lconst (v := 0) d_G_mapped_0 (by decide) ?_
  refine x_lstore (L' := [(0, .ref 1), (1, .long y1), (3, .ref p1), (4, .long 0)]) [1, 2, 3, 0] d_G_mapped_1 (by decide) rfl ?_
  refine x_iconst (v := 0) d_G_mapped_3 (by decide) ?_
  refine x_istore (L' := [(0, .ref 1), (1, .long y1), (3, .ref p1), (4, .long 0), (6, .int 0)]) [1, 2, 3, 4, 0] d_G_mapped_4 (by decide) rfl ?_
  exact h
set_option maxHeartbeats 1000000 in
theorem w_G_mapped_6 {f : Nat} {p1 : Nat} (hk1 : kd p1 = .inl (0, 40)) (hp1 : p1 < Nf f) {x6 : Int32} {y1 y4 : Int64} {w : Wd} {K : Int64 → Wd → Prop} (h : ((w.1 1 2) ≤ x6 → K y4 w) ∧ (¬ (w.1 1 2) ≤ x6 → RunZ f M_A_holds [.long y1, .int x6] w (fun z2 w1 => (z2 = false → ∀ a3 : Int32, a3 = x6 + 1 → E f M_G_mapped 6 [(0, .ref 1), (1, .long y1), (3, .ref p1), (4, .long y4), (6, .int a3)] [] w1 (qL f K)) ∧ (z2 = true → vp_in x6 40 ∧ ∀ b4 : Int64, b4 = y4 ||| (1 <<< ((w1.1 p1 x6.toNatClampNeg).toInt64 &&& 63)) → ∀ a5 : Int32, a5 = x6 + 1 → E f M_G_mapped 6 [(0, .ref 1), (1, .long y1), (3, .ref p1), (4, .long b4), (6, .int a5)] [] w1 (qL f K))))) : E f M_G_mapped 6 [(0, .ref 1), (1, .long y1), (3, .ref p1), (4, .long y4), (6, .int x6)] [] w (qL f K) := by
  refine x_iload 4 d_G_mapped_6 rfl ?_
  refine x_aload_n 0 d_G_mapped_8 rfl ?_
  refine x_getI 5 2 d_G_mapped_9 fg_5_37 rfl rfl (Nf_8 (by decide)) ?_
  refine x_icmp_ge 41 d_G_mapped_12 (by decide) (fun c0 => ?_) (fun c0 => ?_)
  · have h := h.1 c0
    refine x_lload 3 d_G_mapped_41 rfl ?_
    exact x_retL d_G_mapped_43 rfl ⟨rfl, rfl⟩ h
  · have h := h.2 c0
    refine x_lload_n 1 d_G_mapped_15 rfl ?_
    refine x_iload 4 d_G_mapped_16 rfl ?_
    refine x_callSZ (st := []) M_A_holds [.long y1, .int x6] d_G_mapped_18 ml_5_76 cv_A_holds rfl (Nat.le_of_ble_eq_true rfl) ⟨Nat.le_of_ble_eq_true rfl, Nat.le_of_ble_eq_true rfl⟩ ⟨rfl, rfl⟩ h (fun z2 w1 h => ?_)
    refine x_zif_eq 35 d_G_mapped_21 (by decide) (fun c0 => ?_) (fun c0 => ?_)
    · have h := h.1 c0
      obtain ⟨a3, ea3⟩ : ∃ z : Int32, z = x6 + 1 := ⟨_, rfl⟩
      have h := h a3 ea3
      refine x_iincE (L' := [(0, .ref 1), (1, .long y1), (3, .ref p1), (4, .long y4), (6, .int a3)]) 4 [1, 2, 3, 4, 0] d_G_mapped_35 rfl ea3 (by decide) rfl ?_
      refine x_goto 6 d_G_mapped_38 (by decide) ?_
      exact h
    · have h := h.2 c0
      refine x_lload 3 d_G_mapped_24 rfl ?_
      refine x_lconst (v := 1) d_G_mapped_26 (by decide) ?_
      refine x_aload_n 2 d_G_mapped_27 rfl ?_
      refine x_iload 4 d_G_mapped_28 rfl ?_
      obtain ⟨h0, h⟩ := h
      refine x_iald d_G_mapped_30 hk1 hp1 h0 ?_
      refine x_lshl d_G_mapped_31 ?_
      refine x_lor d_G_mapped_32 ?_
      obtain ⟨b4, eb4⟩ : ∃ z : Int64, z = y4 ||| (1 <<< ((w1.1 p1 x6.toNatClampNeg).toInt64 &&& 63)) := ⟨_, rfl⟩
      have h := h b4 eb4
      refine x_lstoreE (L' := [(0, .ref 1), (1, .long y1), (3, .ref p1), (4, .long b4), (6, .int x6)]) [1, 2, 3, 0, 4] d_G_mapped_33 (by decide) eb4 rfl ?_
      obtain ⟨a5, ea5⟩ : ∃ z : Int32, z = x6 + 1 := ⟨_, rfl⟩
      have h := h a5 ea5
      refine x_iincE (L' := [(0, .ref 1), (1, .long y1), (3, .ref p1), (4, .long b4), (6, .int a5)]) 4 [1, 2, 3, 4, 0] d_G_mapped_35 rfl ea5 (by decide) rfl ?_
      refine x_goto 6 d_G_mapped_38 (by decide) ?_
      exact h
set_option maxHeartbeats 1000000 in
theorem r_K_mapAll {w : Wd} {K : Int32 → Wd → Prop} (h : E 1 M_K_mapAll 4 [(0, .ref 14), (1, .ref 10), (2, .int 0), (3, .int 0)] [] w (qI 1 K)) : RunI 1 M_K_mapAll [.ref 14, .ref 10] w K := by
  refine runs_of (L := [(0, .ref 14), (1, .ref 10)]) rfl (Nat.le_of_ble_eq_true rfl) rfl ?_
  refine x_iconst (v := 0) d_K_mapAll_0 (by decide) ?_
  refine x_istore_n (L' := [(0, .ref 14), (1, .ref 10), (2, .int 0)]) [1, 2, 0] d_K_mapAll_1 (by decide) rfl ?_
  refine x_iconst (v := 0) d_K_mapAll_2 (by decide) ?_
  refine x_istore_n (L' := [(0, .ref 14), (1, .ref 10), (2, .int 0), (3, .int 0)]) [1, 2, 3, 0] d_K_mapAll_3 (by decide) rfl ?_
  exact h
set_option maxHeartbeats 1000000 in
theorem w_K_mapAll_4 {x2 x3 : Int32} {w : Wd} {K : Int32 → Wd → Prop} (h : (6 ≤ x3 → K x2 w) ∧ (¬ 6 ≤ x3 → vp_in x3 6 ∧ RunL 1 M_G_mapped [.ref 1, .long (w.2 10 x3.toNatClampNeg), .ref 15] w (fun r2 w1 => vp_in x3 6 ∧ (r2 = (w1.2 10 x3.toNatClampNeg) → vp_in x3 6 ∧ ∀ w3 : Wd, w3 = upL w1 10 x3.toNatClampNeg r2 → ∀ a4 : Int32, a4 = x3 + 1 → E 1 M_K_mapAll 4 [(0, .ref 14), (1, .ref 10), (2, .int x2), (3, .int a4)] [] w3 (qI 1 K)) ∧ (¬ r2 = (w1.2 10 x3.toNatClampNeg) → ∀ a5 : Int32, a5 = x2 + 1 → vp_in x3 6 ∧ ∀ w6 : Wd, w6 = upL w1 10 x3.toNatClampNeg r2 → ∀ a7 : Int32, a7 = x3 + 1 → E 1 M_K_mapAll 4 [(0, .ref 14), (1, .ref 10), (2, .int a5), (3, .int a7)] [] w6 (qI 1 K))))) : E 1 M_K_mapAll 4 [(0, .ref 14), (1, .ref 10), (2, .int x2), (3, .int x3)] [] w (qI 1 K) := by
  refine x_iload_n 3 d_K_mapAll_4 rfl ?_
  refine x_bipush (v := 6) d_K_mapAll_5 (by decide) ?_
  refine x_icmp_ge 49 d_K_mapAll_7 (by decide) (fun c0 => ?_) (fun c0 => ?_)
  · have h := h.1 c0
    refine x_iload_n 2 d_K_mapAll_49 rfl ?_
    exact x_retI d_K_mapAll_50 rfl ⟨rfl, rfl⟩ h
  · have h := h.2 c0
    refine x_aload_n 0 d_K_mapAll_10 rfl ?_
    refine x_getR 7 0 1 d_K_mapAll_11 fg_7_25 rfl rfl rfl (Nf_58 (by decide)) ?_
    refine x_aload_n 1 d_K_mapAll_14 rfl ?_
    refine x_iload_n 3 d_K_mapAll_15 rfl ?_
    obtain ⟨h0, h⟩ := h
    refine x_lald d_K_mapAll_16 rfl (Nf_58 (by decide)) h0 ?_
    refine x_aload_n 0 d_K_mapAll_17 rfl ?_
    refine x_getR 7 1 15 d_K_mapAll_18 fg_7_9 rfl rfl rfl (Nf_58 (by decide)) ?_
    refine x_callVL (st := []) M_G_mapped [.long (w.2 10 x3.toNatClampNeg), .ref 15] d_K_mapAll_21 ml_7_42 cv_G_mapped rfl rfl (Nf_58 (by decide)) rfl (Nat.le_of_ble_eq_true rfl) ⟨Nat.le_of_ble_eq_true rfl, Nat.le_of_ble_eq_true rfl⟩ ⟨rfl, rfl⟩ h (fun r2 w1 h => ?_)
    refine x_lstore (L' := [(0, .ref 14), (1, .ref 10), (2, .int x2), (3, .int x3), (4, .long r2)]) [1, 2, 3, 4, 0] d_K_mapAll_24 (by decide) rfl ?_
    refine x_lload 4 d_K_mapAll_26 rfl ?_
    refine x_aload_n 1 d_K_mapAll_28 rfl ?_
    refine x_iload_n 3 d_K_mapAll_29 rfl ?_
    obtain ⟨h0, h⟩ := h
    refine x_lald d_K_mapAll_30 rfl (Nf_58 (by decide)) h0 ?_
    refine x_lif_eq 38 d_K_mapAll_31 d_K_mapAll_32 (by decide) (fun c0 => ?_) (fun c0 => ?_)
    · have h := h.1 c0
      refine x_aload_n 1 d_K_mapAll_38 rfl ?_
      refine x_iload_n 3 d_K_mapAll_39 rfl ?_
      refine x_lload 4 d_K_mapAll_40 rfl ?_
      obtain ⟨h0, h⟩ := h
      refine x_lastE d_K_mapAll_42 rfl (Nf_58 (by decide)) h0 (fun w3 ew3 => ?_)
      have h := h w3 ew3
      obtain ⟨a4, ea4⟩ : ∃ z : Int32, z = x3 + 1 := ⟨_, rfl⟩
      have h := h a4 ea4
      refine x_iincE (L' := [(0, .ref 14), (1, .ref 10), (2, .int x2), (3, .int a4), (4, .long r2)]) 3 [1, 2, 3, 0, 4] d_K_mapAll_43 rfl ea4 (by decide) rfl ?_
      refine x_goto 4 d_K_mapAll_46 (by decide) ?_
      exact x_perm [0, 1, 2, 3] rfl h
    · have h := h.2 c0
      obtain ⟨a5, ea5⟩ : ∃ z : Int32, z = x2 + 1 := ⟨_, rfl⟩
      have h := h a5 ea5
      refine x_iincE (L' := [(0, .ref 14), (1, .ref 10), (2, .int a5), (3, .int x3), (4, .long r2)]) 2 [1, 2, 0, 3, 4] d_K_mapAll_35 rfl ea5 (by decide) rfl ?_
      refine x_aload_n 1 d_K_mapAll_38 rfl ?_
      refine x_iload_n 3 d_K_mapAll_39 rfl ?_
      refine x_lload 4 d_K_mapAll_40 rfl ?_
      obtain ⟨h0, h⟩ := h
      refine x_lastE d_K_mapAll_42 rfl (Nf_58 (by decide)) h0 (fun w6 ew6 => ?_)
      have h := h w6 ew6
      obtain ⟨a7, ea7⟩ : ∃ z : Int32, z = x3 + 1 := ⟨_, rfl⟩
      have h := h a7 ea7
      refine x_iincE (L' := [(0, .ref 14), (1, .ref 10), (2, .int a5), (3, .int a7), (4, .long r2)]) 3 [1, 2, 3, 0, 4] d_K_mapAll_43 rfl ea7 (by decide) rfl ?_
      refine x_goto 4 d_K_mapAll_46 (by decide) ?_
      exact x_perm [0, 1, 2, 3] rfl h
set_option maxHeartbeats 1000000 in
theorem r_K_mapByAutomorphism {x2 : Int32} {w : Wd} {K : Int32 → Wd → Prop} (h : RunV 1 M_G_fillAutomorphism [.ref 1, .int x2, .ref 15] w (fun w1 => RunI 1 M_K_mapAll [.ref 14, .ref 10] w1 (fun r3 w2 => K r3 w2))) : RunI 1 M_K_mapByAutomorphism [.ref 14, .ref 10, .int x2] w K := by
  refine runs_of (L := [(0, .ref 14), (1, .ref 10), (2, .int x2)]) rfl (Nat.le_of_ble_eq_true rfl) rfl ?_
  refine x_aload_n 0 d_K_mapByAutomorphism_0 rfl ?_
  refine x_getR 7 0 1 d_K_mapByAutomorphism_1 fg_7_25 rfl rfl rfl (Nf_58 (by decide)) ?_
  refine x_iload_n 2 d_K_mapByAutomorphism_4 rfl ?_
  refine x_aload_n 0 d_K_mapByAutomorphism_5 rfl ?_
  refine x_getR 7 1 15 d_K_mapByAutomorphism_6 fg_7_9 rfl rfl rfl (Nf_58 (by decide)) ?_
  refine x_callVV (st := []) M_G_fillAutomorphism [.int x2, .ref 15] d_K_mapByAutomorphism_9 ml_7_29 cv_G_fillAutomorphism rfl rfl (Nf_58 (by decide)) rfl (Nat.le_of_ble_eq_true rfl) ⟨Nat.le_of_ble_eq_true rfl, Nat.le_of_ble_eq_true rfl⟩ ⟨rfl, rfl⟩ h (fun w1 h => ?_)
  refine x_aload_n 0 d_K_mapByAutomorphism_12 rfl ?_
  refine x_aload_n 1 d_K_mapByAutomorphism_13 rfl ?_
  refine x_callVI (st := []) M_K_mapAll [.ref 10] d_K_mapByAutomorphism_14 ml_7_35 cv_K_mapAll rfl rfl (Nf_58 (by decide)) rfl (Nat.le_of_ble_eq_true rfl) ⟨Nat.le_of_ble_eq_true rfl, Nat.le_of_ble_eq_true rfl⟩ ⟨rfl, rfl⟩ h (fun r3 w2 h => ?_)
  exact x_retI d_K_mapByAutomorphism_17 rfl ⟨rfl, rfl⟩ h
set_option maxHeartbeats 1000000 in
theorem r_A_apply {x1 : Int32} {w : Wd} {K : Int32 → Wd → Prop} (h : RunZ 1 M_A_isAutomorphism [.ref 0, .int x1] w (fun z2 w1 => (z2 = true → RunV 1 M_H_note [.ref 11, .ref 10] w1 (fun w3 => RunI 1 M_K_mapByAutomorphism [.ref 14, .ref 10, .int x1] w3 (fun r5 w4 => K r5 w4))) ∧ (z2 = false → K ((-1)) w1))) : RunI 1 M_A_apply [.ref 0, .int x1] w K := by
  refine runs_of (L := [(0, .ref 0), (1, .int x1)]) rfl (Nat.le_of_ble_eq_true rfl) rfl ?_
  refine x_aload_n 0 d_A_apply_0 rfl ?_
  refine x_iload_n 1 d_A_apply_1 rfl ?_
  refine x_callVZ (st := []) M_A_isAutomorphism [.int x1] d_A_apply_2 ml_10_142 cv_A_isAutomorphism rfl rfl (Nf_58 (by decide)) rfl (Nat.le_of_ble_eq_true rfl) ⟨Nat.le_of_ble_eq_true rfl, Nat.le_of_ble_eq_true rfl⟩ ⟨rfl, rfl⟩ h (fun z2 w1 h => ?_)
  refine x_zif_ne 10 d_A_apply_5 (by decide) (fun c0 => ?_) (fun c0 => ?_)
  · have h := h.1 c0
    refine x_aload_n 0 d_A_apply_10 rfl ?_
    refine x_getR 10 2 11 d_A_apply_11 fg_10_32 rfl rfl rfl (Nf_58 (by decide)) ?_
    refine x_aload_n 0 d_A_apply_14 rfl ?_
    refine x_getR 10 1 10 d_A_apply_15 fg_10_25 rfl rfl rfl (Nf_58 (by decide)) ?_
    refine x_callVV (st := []) M_H_note [.ref 10] d_A_apply_18 ml_10_165 cv_H_note rfl rfl (Nf_58 (by decide)) rfl (Nat.le_of_ble_eq_true rfl) ⟨Nat.le_of_ble_eq_true rfl, Nat.le_of_ble_eq_true rfl⟩ ⟨rfl, rfl⟩ h (fun w3 h => ?_)
    refine x_aload_n 0 d_A_apply_21 rfl ?_
    refine x_getR 10 5 14 d_A_apply_22 fg_10_52 rfl rfl rfl (Nf_58 (by decide)) ?_
    refine x_aload_n 0 d_A_apply_25 rfl ?_
    refine x_getR 10 1 10 d_A_apply_26 fg_10_25 rfl rfl rfl (Nf_58 (by decide)) ?_
    refine x_iload_n 1 d_A_apply_29 rfl ?_
    refine x_callVI (st := []) M_K_mapByAutomorphism [.ref 10, .int x1] d_A_apply_30 ml_10_175 cv_K_mapByAutomorphism rfl rfl (Nf_58 (by decide)) rfl (Nat.le_of_ble_eq_true rfl) ⟨Nat.le_of_ble_eq_true rfl, Nat.le_of_ble_eq_true rfl⟩ ⟨rfl, rfl⟩ h (fun r5 w4 h => ?_)
    exact x_retI d_A_apply_33 rfl ⟨rfl, rfl⟩ h
  · have h := h.2 c0
    refine x_iconst (v := (-1)) d_A_apply_8 (by decide) ?_
    exact x_retI d_A_apply_9 rfl ⟨rfl, rfl⟩ h
set_option maxHeartbeats 1000000 in
theorem r_A_automorphisms {w : Wd} {K : Int32 → Wd → Prop} (h : K (w.1 1 5) w) : RunI 1 M_A_automorphisms [.ref 0] w K := by
  refine runs_of (L := [(0, .ref 0)]) rfl (Nat.le_of_ble_eq_true rfl) rfl ?_
  refine x_aload_n 0 d_A_automorphisms_0 rfl ?_
  refine x_getR 10 0 1 d_A_automorphisms_1 fg_10_19 rfl rfl rfl (Nf_58 (by decide)) ?_
  refine x_getI 5 5 d_A_automorphisms_4 fg_10_139 rfl rfl (Nf_58 (by decide)) ?_
  exact x_retI d_A_automorphisms_7 rfl ⟨rfl, rfl⟩ h
set_option maxHeartbeats 1000000 in
theorem r_A_isBlock {x0 : Int32} {w : Wd} {K : Bool → Wd → Prop} (h : (x0 < 0 → K false w) ∧ (¬ x0 < 0 → (6 ≤ x0 → K false w) ∧ (¬ 6 ≤ x0 → K true w))) : RunZ 1 M_A_isBlock [.int x0] w K := by
  refine runs_of (L := [(0, .int x0)]) rfl (Nat.le_of_ble_eq_true rfl) rfl ?_
  refine x_iload_n 0 d_A_isBlock_0 rfl ?_
  refine x_if_lt 14 d_A_isBlock_1 (by decide) (fun c0 => ?_) (fun c0 => ?_)
  · have h := h.1 c0
    refine x_iconst (v := 0) d_A_isBlock_14 (by decide) ?_
    exact x_retZ (z := false) d_A_isBlock_15 rfl rfl ⟨rfl, rfl⟩ h
  · have h := h.2 c0
    refine x_iload_n 0 d_A_isBlock_4 rfl ?_
    refine x_bipush (v := 6) d_A_isBlock_5 (by decide) ?_
    refine x_icmp_ge 14 d_A_isBlock_7 (by decide) (fun c0 => ?_) (fun c0 => ?_)
    · have h := h.1 c0
      refine x_iconst (v := 0) d_A_isBlock_14 (by decide) ?_
      exact x_retZ (z := false) d_A_isBlock_15 rfl rfl ⟨rfl, rfl⟩ h
    · have h := h.2 c0
      refine x_iconst (v := 1) d_A_isBlock_10 (by decide) ?_
      refine x_goto 15 d_A_isBlock_11 (by decide) ?_
      exact x_retZ (z := true) d_A_isBlock_15 rfl rfl ⟨rfl, rfl⟩ h
set_option maxHeartbeats 1000000 in
theorem r_A_block {x1 : Int32} {w : Wd} {K : Int64 → Wd → Prop} (h : RunZ 1 M_A_isBlock [.int x1] w (fun z2 w1 => (z2 = true → vp_in x1 6 ∧ K (w1.2 10 x1.toNatClampNeg) w1) ∧ (z2 = false → K ((-1)) w1))) : RunL 1 M_A_block [.ref 0, .int x1] w K := by
  refine runs_of (L := [(0, .ref 0), (1, .int x1)]) rfl (Nat.le_of_ble_eq_true rfl) rfl ?_
  refine x_iload_n 1 d_A_block_0 rfl ?_
  refine x_callSZ (st := []) M_A_isBlock [.int x1] d_A_block_1 ml_10_158 cv_A_isBlock rfl (Nat.le_of_ble_eq_true rfl) ⟨Nat.le_of_ble_eq_true rfl, Nat.le_of_ble_eq_true rfl⟩ ⟨rfl, rfl⟩ h (fun z2 w1 h => ?_)
  refine x_zif_ne 11 d_A_block_4 (by decide) (fun c0 => ?_) (fun c0 => ?_)
  · have h := h.1 c0
    refine x_aload_n 0 d_A_block_11 rfl ?_
    refine x_getR 10 1 10 d_A_block_12 fg_10_25 rfl rfl rfl (Nf_58 (by decide)) ?_
    refine x_iload_n 1 d_A_block_15 rfl ?_
    obtain ⟨h0, h⟩ := h
    refine x_lald d_A_block_16 rfl (Nf_58 (by decide)) h0 ?_
    exact x_retL d_A_block_17 rfl ⟨rfl, rfl⟩ h
  · have h := h.2 c0
    refine x_ldc2 (v := (-1)) d_A_block_7 mw_467 ?_
    exact x_retL d_A_block_10 rfl ⟨rfl, rfl⟩ h
set_option maxHeartbeats 1000000 in
theorem r_J_bitCount {f : Nat} {y0 : Int64} {w : Wd} {K : Int32 → Wd → Prop} (h : ∀ b1 : Int64, b1 = y0 - (((y0.toUInt64 >>> ((1 : Int32).toInt64.toUInt64 &&& Int64.toUInt64 63)).toInt64) &&& 6148914691236517205) → ∀ b2 : Int64, b2 = (b1 &&& 3689348814741910323) + (((b1.toUInt64 >>> ((2 : Int32).toInt64.toUInt64 &&& Int64.toUInt64 63)).toInt64) &&& 3689348814741910323) → ∀ b3 : Int64, b3 = (b2 + ((b2.toUInt64 >>> ((4 : Int32).toInt64.toUInt64 &&& Int64.toUInt64 63)).toInt64)) &&& 1085102592571150095 → ∀ b4 : Int64, b4 = b3 + ((b3.toUInt64 >>> ((8 : Int32).toInt64.toUInt64 &&& Int64.toUInt64 63)).toInt64) → ∀ b5 : Int64, b5 = b4 + ((b4.toUInt64 >>> ((16 : Int32).toInt64.toUInt64 &&& Int64.toUInt64 63)).toInt64) → ∀ b6 : Int64, b6 = b5 + ((b5.toUInt64 >>> ((32 : Int32).toInt64.toUInt64 &&& Int64.toUInt64 63)).toInt64) → K (b6.toInt32 &&& 127) w) : RunI f M_J_bitCount [.long y0] w K := by
  refine runs_of (L := [(0, .long y0)]) rfl (Nat.le_of_ble_eq_true rfl) rfl ?_
  refine x_lload_n 0 d_J_bitCount_0 rfl ?_
  refine x_lload_n 0 d_J_bitCount_1 rfl ?_
  refine x_iconst (v := 1) d_J_bitCount_2 (by decide) ?_
  refine x_lushr d_J_bitCount_3 ?_
  refine x_ldc2 (v := 6148914691236517205) d_J_bitCount_4 mw_441 ?_
  refine x_land d_J_bitCount_7 ?_
  refine x_lsub d_J_bitCount_8 ?_
  obtain ⟨b1, eb1⟩ : ∃ z : Int64, z = y0 - (((y0.toUInt64 >>> ((1 : Int32).toInt64.toUInt64 &&& Int64.toUInt64 63)).toInt64) &&& 6148914691236517205) := ⟨_, rfl⟩
  have h := h b1 eb1
  refine x_lstore_nE (L' := [(0, .long b1)]) [0] d_J_bitCount_9 (by decide) eb1 rfl ?_
  refine x_lload_n 0 d_J_bitCount_10 rfl ?_
  refine x_ldc2 (v := 3689348814741910323) d_J_bitCount_11 mw_442 ?_
  refine x_land d_J_bitCount_14 ?_
  refine x_lload_n 0 d_J_bitCount_15 rfl ?_
  refine x_iconst (v := 2) d_J_bitCount_16 (by decide) ?_
  refine x_lushr d_J_bitCount_17 ?_
  refine x_ldc2 (v := 3689348814741910323) d_J_bitCount_18 mw_442 ?_
  refine x_land d_J_bitCount_21 ?_
  refine x_ladd d_J_bitCount_22 ?_
  obtain ⟨b2, eb2⟩ : ∃ z : Int64, z = (b1 &&& 3689348814741910323) + (((b1.toUInt64 >>> ((2 : Int32).toInt64.toUInt64 &&& Int64.toUInt64 63)).toInt64) &&& 3689348814741910323) := ⟨_, rfl⟩
  have h := h b2 eb2
  refine x_lstore_nE (L' := [(0, .long b2)]) [0] d_J_bitCount_23 (by decide) eb2 rfl ?_
  refine x_lload_n 0 d_J_bitCount_24 rfl ?_
  refine x_lload_n 0 d_J_bitCount_25 rfl ?_
  refine x_iconst (v := 4) d_J_bitCount_26 (by decide) ?_
  refine x_lushr d_J_bitCount_27 ?_
  refine x_ladd d_J_bitCount_28 ?_
  refine x_ldc2 (v := 1085102592571150095) d_J_bitCount_29 mw_443 ?_
  refine x_land d_J_bitCount_32 ?_
  obtain ⟨b3, eb3⟩ : ∃ z : Int64, z = (b2 + ((b2.toUInt64 >>> ((4 : Int32).toInt64.toUInt64 &&& Int64.toUInt64 63)).toInt64)) &&& 1085102592571150095 := ⟨_, rfl⟩
  have h := h b3 eb3
  refine x_lstore_nE (L' := [(0, .long b3)]) [0] d_J_bitCount_33 (by decide) eb3 rfl ?_
  refine x_lload_n 0 d_J_bitCount_34 rfl ?_
  refine x_lload_n 0 d_J_bitCount_35 rfl ?_
  refine x_bipush (v := 8) d_J_bitCount_36 (by decide) ?_
  refine x_lushr d_J_bitCount_38 ?_
  refine x_ladd d_J_bitCount_39 ?_
  obtain ⟨b4, eb4⟩ : ∃ z : Int64, z = b3 + ((b3.toUInt64 >>> ((8 : Int32).toInt64.toUInt64 &&& Int64.toUInt64 63)).toInt64) := ⟨_, rfl⟩
  have h := h b4 eb4
  refine x_lstore_nE (L' := [(0, .long b4)]) [0] d_J_bitCount_40 (by decide) eb4 rfl ?_
  refine x_lload_n 0 d_J_bitCount_41 rfl ?_
  refine x_lload_n 0 d_J_bitCount_42 rfl ?_
  refine x_bipush (v := 16) d_J_bitCount_43 (by decide) ?_
  refine x_lushr d_J_bitCount_45 ?_
  refine x_ladd d_J_bitCount_46 ?_
  obtain ⟨b5, eb5⟩ : ∃ z : Int64, z = b4 + ((b4.toUInt64 >>> ((16 : Int32).toInt64.toUInt64 &&& Int64.toUInt64 63)).toInt64) := ⟨_, rfl⟩
  have h := h b5 eb5
  refine x_lstore_nE (L' := [(0, .long b5)]) [0] d_J_bitCount_47 (by decide) eb5 rfl ?_
  refine x_lload_n 0 d_J_bitCount_48 rfl ?_
  refine x_lload_n 0 d_J_bitCount_49 rfl ?_
  refine x_bipush (v := 32) d_J_bitCount_50 (by decide) ?_
  refine x_lushr d_J_bitCount_52 ?_
  refine x_ladd d_J_bitCount_53 ?_
  obtain ⟨b6, eb6⟩ : ∃ z : Int64, z = b5 + ((b5.toUInt64 >>> ((32 : Int32).toInt64.toUInt64 &&& Int64.toUInt64 63)).toInt64) := ⟨_, rfl⟩
  have h := h b6 eb6
  refine x_lstore_nE (L' := [(0, .long b6)]) [0] d_J_bitCount_54 (by decide) eb6 rfl ?_
  refine x_lload_n 0 d_J_bitCount_55 rfl ?_
  refine x_l2i d_J_bitCount_56 ?_
  refine x_bipush (v := 127) d_J_bitCount_57 (by decide) ?_
  refine x_iand d_J_bitCount_59 ?_
  exact x_retI d_J_bitCount_60 rfl ⟨rfl, rfl⟩ h
set_option maxHeartbeats 1000000 in
theorem r_A_blockSize {w : Wd} {K : Int32 → Wd → Prop} (h : ∀ a1 : Int32, a1 = (-4) → E 1 M_A_blockSize 5 [(0, .ref 0), (1, .int a1), (2, .int 0)] [] w (qI 1 K)) : RunI 1 M_A_blockSize [.ref 0] w K := by
  refine runs_of (L := [(0, .ref 0)]) rfl (Nat.le_of_ble_eq_true rfl) rfl ?_
  refine x_bipush (v := (-4)) d_A_blockSize_0 (by decide) ?_
  obtain ⟨a1, ea1⟩ : ∃ z : Int32, z = (-4) := ⟨_, rfl⟩
  have h := h a1 ea1
  refine x_istore_nE (L' := [(0, .ref 0), (1, .int a1)]) [1, 0] d_A_blockSize_2 (by decide) ea1 rfl ?_
  refine x_iconst (v := 0) d_A_blockSize_3 (by decide) ?_
  refine x_istore_n (L' := [(0, .ref 0), (1, .int a1), (2, .int 0)]) [1, 2, 0] d_A_blockSize_4 (by decide) rfl ?_
  exact h
set_option maxHeartbeats 1000000 in
theorem w_A_blockSize_5 {x1 x2 : Int32} {w : Wd} {K : Int32 → Wd → Prop} (h : (6 ≤ x2 → K x1 w) ∧ (¬ 6 ≤ x2 → vp_in x2 6 ∧ RunI 1 M_J_bitCount [.long (w.2 10 x2.toNatClampNeg)] w (fun r2 w1 => (r2 = 0 → (r2 = 0 → ∀ a3 : Int32, a3 = x2 + 1 → E 1 M_A_blockSize 5 [(0, .ref 0), (1, .int x1), (2, .int a3)] [] w1 (qI 1 K)) ∧ (¬ r2 = 0 → ∀ a4 : Int32, a4 = x2 + 1 → E 1 M_A_blockSize 5 [(0, .ref 0), (1, .int r2), (2, .int a4)] [] w1 (qI 1 K))) ∧ (¬ r2 = 0 → (x1 = ((-4)) → (r2 = 0 → ∀ a5 : Int32, a5 = x2 + 1 → E 1 M_A_blockSize 5 [(0, .ref 0), (1, .int x1), (2, .int a5)] [] w1 (qI 1 K)) ∧ (¬ r2 = 0 → ∀ a6 : Int32, a6 = x2 + 1 → E 1 M_A_blockSize 5 [(0, .ref 0), (1, .int r2), (2, .int a6)] [] w1 (qI 1 K))) ∧ (¬ x1 = ((-4)) → (r2 = x1 → (r2 = 0 → ∀ a7 : Int32, a7 = x2 + 1 → E 1 M_A_blockSize 5 [(0, .ref 0), (1, .int x1), (2, .int a7)] [] w1 (qI 1 K)) ∧ (¬ r2 = 0 → ∀ a8 : Int32, a8 = x2 + 1 → E 1 M_A_blockSize 5 [(0, .ref 0), (1, .int r2), (2, .int a8)] [] w1 (qI 1 K))) ∧ (¬ r2 = x1 → K ((-4)) w1)))))) : E 1 M_A_blockSize 5 [(0, .ref 0), (1, .int x1), (2, .int x2)] [] w (qI 1 K) := by
  refine x_iload_n 2 d_A_blockSize_5 rfl ?_
  refine x_bipush (v := 6) d_A_blockSize_6 (by decide) ?_
  refine x_icmp_ge 51 d_A_blockSize_8 (by decide) (fun c0 => ?_) (fun c0 => ?_)
  · have h := h.1 c0
    refine x_iload_n 1 d_A_blockSize_51 rfl ?_
    exact x_retI d_A_blockSize_52 rfl ⟨rfl, rfl⟩ h
  · have h := h.2 c0
    refine x_aload_n 0 d_A_blockSize_11 rfl ?_
    refine x_getR 10 1 10 d_A_blockSize_12 fg_10_25 rfl rfl rfl (Nf_58 (by decide)) ?_
    refine x_iload_n 2 d_A_blockSize_15 rfl ?_
    obtain ⟨h0, h⟩ := h
    refine x_lald d_A_blockSize_16 rfl (Nf_58 (by decide)) h0 ?_
    refine x_callSI (st := []) M_J_bitCount [.long (w.2 10 x2.toNatClampNeg)] d_A_blockSize_17 ml_10_152 cv_J_bitCount rfl (Nat.le_of_ble_eq_true rfl) ⟨Nat.le_of_ble_eq_true rfl, Nat.le_of_ble_eq_true rfl⟩ ⟨rfl, rfl⟩ h (fun r2 w1 h => ?_)
    refine x_istore_n (L' := [(0, .ref 0), (1, .int x1), (2, .int x2), (3, .int r2)]) [1, 2, 3, 0] d_A_blockSize_20 (by decide) rfl ?_
    refine x_iload_n 3 d_A_blockSize_21 rfl ?_
    refine x_if_eq 39 d_A_blockSize_22 (by decide) (fun c0 => ?_) (fun c0 => ?_)
    · have h := h.1 c0
      refine x_iload_n 3 d_A_blockSize_39 rfl ?_
      refine x_if_eq 45 d_A_blockSize_40 (by decide) (fun c0 => ?_) (fun c0 => ?_)
      · have h := h.1 c0
        obtain ⟨a3, ea3⟩ : ∃ z : Int32, z = x2 + 1 := ⟨_, rfl⟩
        have h := h a3 ea3
        refine x_iincE (L' := [(0, .ref 0), (1, .int x1), (2, .int a3), (3, .int r2)]) 2 [1, 2, 0, 3] d_A_blockSize_45 rfl ea3 (by decide) rfl ?_
        refine x_goto 5 d_A_blockSize_48 (by decide) ?_
        exact x_perm [0, 1, 2] rfl h
      · have h := h.2 c0
        refine x_iload_n 3 d_A_blockSize_43 rfl ?_
        refine x_istore_n (L' := [(0, .ref 0), (1, .int r2), (2, .int x2), (3, .int r2)]) [1, 0, 2, 3] d_A_blockSize_44 (by decide) rfl ?_
        obtain ⟨a4, ea4⟩ : ∃ z : Int32, z = x2 + 1 := ⟨_, rfl⟩
        have h := h a4 ea4
        refine x_iincE (L' := [(0, .ref 0), (1, .int r2), (2, .int a4), (3, .int r2)]) 2 [1, 2, 0, 3] d_A_blockSize_45 rfl ea4 (by decide) rfl ?_
        refine x_goto 5 d_A_blockSize_48 (by decide) ?_
        exact x_perm [0, 1, 2] rfl h
    · have h := h.2 c0
      refine x_iload_n 1 d_A_blockSize_25 rfl ?_
      refine x_bipush (v := (-4)) d_A_blockSize_26 (by decide) ?_
      refine x_icmp_eq 39 d_A_blockSize_28 (by decide) (fun c0 => ?_) (fun c0 => ?_)
      · have h := h.1 c0
        refine x_iload_n 3 d_A_blockSize_39 rfl ?_
        refine x_if_eq 45 d_A_blockSize_40 (by decide) (fun c0 => ?_) (fun c0 => ?_)
        · have h := h.1 c0
          obtain ⟨a5, ea5⟩ : ∃ z : Int32, z = x2 + 1 := ⟨_, rfl⟩
          have h := h a5 ea5
          refine x_iincE (L' := [(0, .ref 0), (1, .int x1), (2, .int a5), (3, .int r2)]) 2 [1, 2, 0, 3] d_A_blockSize_45 rfl ea5 (by decide) rfl ?_
          refine x_goto 5 d_A_blockSize_48 (by decide) ?_
          exact x_perm [0, 1, 2] rfl h
        · have h := h.2 c0
          refine x_iload_n 3 d_A_blockSize_43 rfl ?_
          refine x_istore_n (L' := [(0, .ref 0), (1, .int r2), (2, .int x2), (3, .int r2)]) [1, 0, 2, 3] d_A_blockSize_44 (by decide) rfl ?_
          obtain ⟨a6, ea6⟩ : ∃ z : Int32, z = x2 + 1 := ⟨_, rfl⟩
          have h := h a6 ea6
          refine x_iincE (L' := [(0, .ref 0), (1, .int r2), (2, .int a6), (3, .int r2)]) 2 [1, 2, 0, 3] d_A_blockSize_45 rfl ea6 (by decide) rfl ?_
          refine x_goto 5 d_A_blockSize_48 (by decide) ?_
          exact x_perm [0, 1, 2] rfl h
      · have h := h.2 c0
        refine x_iload_n 3 d_A_blockSize_31 rfl ?_
        refine x_iload_n 1 d_A_blockSize_32 rfl ?_
        refine x_icmp_eq 39 d_A_blockSize_33 (by decide) (fun c0 => ?_) (fun c0 => ?_)
        · have h := h.1 c0
          refine x_iload_n 3 d_A_blockSize_39 rfl ?_
          refine x_if_eq 45 d_A_blockSize_40 (by decide) (fun c0 => ?_) (fun c0 => ?_)
          · have h := h.1 c0
            obtain ⟨a7, ea7⟩ : ∃ z : Int32, z = x2 + 1 := ⟨_, rfl⟩
            have h := h a7 ea7
            refine x_iincE (L' := [(0, .ref 0), (1, .int x1), (2, .int a7), (3, .int r2)]) 2 [1, 2, 0, 3] d_A_blockSize_45 rfl ea7 (by decide) rfl ?_
            refine x_goto 5 d_A_blockSize_48 (by decide) ?_
            exact x_perm [0, 1, 2] rfl h
          · have h := h.2 c0
            refine x_iload_n 3 d_A_blockSize_43 rfl ?_
            refine x_istore_n (L' := [(0, .ref 0), (1, .int r2), (2, .int x2), (3, .int r2)]) [1, 0, 2, 3] d_A_blockSize_44 (by decide) rfl ?_
            obtain ⟨a8, ea8⟩ : ∃ z : Int32, z = x2 + 1 := ⟨_, rfl⟩
            have h := h a8 ea8
            refine x_iincE (L' := [(0, .ref 0), (1, .int r2), (2, .int a8), (3, .int r2)]) 2 [1, 2, 0, 3] d_A_blockSize_45 rfl ea8 (by decide) rfl ?_
            refine x_goto 5 d_A_blockSize_48 (by decide) ?_
            exact x_perm [0, 1, 2] rfl h
        · have h := h.2 c0
          refine x_bipush (v := (-4)) d_A_blockSize_36 (by decide) ?_
          exact x_retI d_A_blockSize_38 rfl ⟨rfl, rfl⟩ h
set_option maxHeartbeats 1000000 in
theorem r_A_candidates {w : Wd} {K : Int32 → Wd → Prop} (h : K (w.1 24 8) w) : RunI 1 M_A_candidates [.ref 0] w K := by
  refine runs_of (L := [(0, .ref 0)]) rfl (Nat.le_of_ble_eq_true rfl) rfl ?_
  refine x_aload_n 0 d_A_candidates_0 rfl ?_
  refine x_getR 10 8 24 d_A_candidates_1 fg_10_73 rfl rfl rfl (Nf_58 (by decide)) ?_
  refine x_getI 4 8 d_A_candidates_4 fg_10_302 rfl rfl (Nf_58 (by decide)) ?_
  exact x_retI d_A_candidates_7 rfl ⟨rfl, rfl⟩ h
set_option maxHeartbeats 1000000 in
theorem r_G_times {x1 x2 : Int32} {w : Wd} {K : Int32 → Wd → Prop} (h : E 1 M_G_times 8 [(0, .ref 1), (3, .int 0), (4, .int x1), (5, .int x2)] [] w (qI 1 K)) : RunI 1 M_G_times [.ref 1, .int x1, .int x2] w K := by
  refine runs_of (L := [(0, .ref 1), (1, .int x1), (2, .int x2)]) rfl (Nat.le_of_ble_eq_true rfl) rfl ?_
  refine x_iconst (v := 0) d_G_times_0 (by decide) ?_
  refine x_istore_n (L' := [(0, .ref 1), (1, .int x1), (2, .int x2), (3, .int 0)]) [1, 2, 3, 0] d_G_times_1 (by decide) rfl ?_
  refine x_iload_n 1 d_G_times_2 rfl ?_
  refine x_istore (L' := [(0, .ref 1), (1, .int x1), (2, .int x2), (3, .int 0), (4, .int x1)]) [1, 2, 3, 4, 0] d_G_times_3 (by decide) rfl ?_
  refine x_iload_n 2 d_G_times_5 rfl ?_
  refine x_istore (L' := [(0, .ref 1), (1, .int x1), (2, .int x2), (3, .int 0), (4, .int x1), (5, .int x2)]) [1, 2, 3, 4, 5, 0] d_G_times_6 (by decide) rfl ?_
  exact x_perm [0, 3, 4, 5] rfl h
set_option maxHeartbeats 1000000 in
theorem w_G_times_8 {x3 x4 x5 : Int32} {w : Wd} {K : Int32 → Wd → Prop} (h : (x5 ≤ 0 → K x3 w) ∧ (¬ x5 ≤ 0 → ((x5 &&& 1) = 0 → RunI 1 M_G_plus [.ref 1, .int x4, .int x4] w (fun r2 w1 => ∀ a3 : Int32, a3 = x5 >>> (1 &&& 31) → E 1 M_G_times 8 [(0, .ref 1), (3, .int x3), (4, .int r2), (5, .int a3)] [] w1 (qI 1 K))) ∧ (¬ (x5 &&& 1) = 0 → RunI 1 M_G_plus [.ref 1, .int x3, .int x4] w (fun r5 w4 => RunI 1 M_G_plus [.ref 1, .int x4, .int x4] w4 (fun r7 w6 => ∀ a8 : Int32, a8 = x5 >>> (1 &&& 31) → E 1 M_G_times 8 [(0, .ref 1), (3, .int r5), (4, .int r7), (5, .int a8)] [] w6 (qI 1 K)))))) : E 1 M_G_times 8 [(0, .ref 1), (3, .int x3), (4, .int x4), (5, .int x5)] [] w (qI 1 K) := by
  refine x_iload 3 d_G_times_8 rfl ?_
  refine x_if_le 47 d_G_times_10 (by decide) (fun c0 => ?_) (fun c0 => ?_)
  · have h := h.1 c0
    refine x_iload_n 1 d_G_times_47 rfl ?_
    exact x_retI d_G_times_48 rfl ⟨rfl, rfl⟩ h
  · have h := h.2 c0
    refine x_iload 3 d_G_times_13 rfl ?_
    refine x_iconst (v := 1) d_G_times_15 (by decide) ?_
    refine x_iand d_G_times_16 ?_
    refine x_if_eq 28 d_G_times_17 (by decide) (fun c0 => ?_) (fun c0 => ?_)
    · have h := h.1 c0
      refine x_aload_n 0 d_G_times_28 rfl ?_
      refine x_iload 2 d_G_times_29 rfl ?_
      refine x_iload 2 d_G_times_31 rfl ?_
      refine x_callVI (st := []) M_G_plus [.int x4, .int x4] d_G_times_33 ml_5_54 cv_G_plus rfl rfl (Nf_58 (by decide)) rfl (Nat.le_of_ble_eq_true rfl) ⟨Nat.le_of_ble_eq_true rfl, Nat.le_of_ble_eq_true rfl⟩ ⟨rfl, rfl⟩ h (fun r2 w1 h => ?_)
      refine x_istore (L' := [(0, .ref 1), (3, .int x3), (4, .int r2), (5, .int x5)]) [1, 2, 0, 3] d_G_times_36 (by decide) rfl ?_
      refine x_iload 3 d_G_times_38 rfl ?_
      refine x_iconst (v := 1) d_G_times_40 (by decide) ?_
      refine x_ishr d_G_times_41 ?_
      obtain ⟨a3, ea3⟩ : ∃ z : Int32, z = x5 >>> (1 &&& 31) := ⟨_, rfl⟩
      have h := h a3 ea3
      refine x_istoreE (L' := [(0, .ref 1), (3, .int x3), (4, .int r2), (5, .int a3)]) [1, 2, 3, 0] d_G_times_42 (by decide) ea3 rfl ?_
      refine x_goto 8 d_G_times_44 (by decide) ?_
      exact h
    · have h := h.2 c0
      refine x_aload_n 0 d_G_times_20 rfl ?_
      refine x_iload_n 1 d_G_times_21 rfl ?_
      refine x_iload 2 d_G_times_22 rfl ?_
      refine x_callVI (st := []) M_G_plus [.int x3, .int x4] d_G_times_24 ml_5_54 cv_G_plus rfl rfl (Nf_58 (by decide)) rfl (Nat.le_of_ble_eq_true rfl) ⟨Nat.le_of_ble_eq_true rfl, Nat.le_of_ble_eq_true rfl⟩ ⟨rfl, rfl⟩ h (fun r5 w4 h => ?_)
      refine x_istore_n (L' := [(0, .ref 1), (3, .int r5), (4, .int x4), (5, .int x5)]) [1, 0, 2, 3] d_G_times_27 (by decide) rfl ?_
      refine x_aload_n 0 d_G_times_28 rfl ?_
      refine x_iload 2 d_G_times_29 rfl ?_
      refine x_iload 2 d_G_times_31 rfl ?_
      refine x_callVI (st := []) M_G_plus [.int x4, .int x4] d_G_times_33 ml_5_54 cv_G_plus rfl rfl (Nf_58 (by decide)) rfl (Nat.le_of_ble_eq_true rfl) ⟨Nat.le_of_ble_eq_true rfl, Nat.le_of_ble_eq_true rfl⟩ ⟨rfl, rfl⟩ h (fun r7 w6 h => ?_)
      refine x_istore (L' := [(0, .ref 1), (3, .int r5), (4, .int r7), (5, .int x5)]) [1, 2, 0, 3] d_G_times_36 (by decide) rfl ?_
      refine x_iload 3 d_G_times_38 rfl ?_
      refine x_iconst (v := 1) d_G_times_40 (by decide) ?_
      refine x_ishr d_G_times_41 ?_
      obtain ⟨a8, ea8⟩ : ∃ z : Int32, z = x5 >>> (1 &&& 31) := ⟨_, rfl⟩
      have h := h a8 ea8
      refine x_istoreE (L' := [(0, .ref 1), (3, .int r5), (4, .int r7), (5, .int a8)]) [1, 2, 3, 0] d_G_times_42 (by decide) ea8 rfl ?_
      refine x_goto 8 d_G_times_44 (by decide) ?_
      exact h
set_option maxHeartbeats 1000000 in
theorem r_G_fillMultiples {p1 : Nat} (hk1 : kd p1 = .inl (0, 40)) (hp1 : p1 < Nf 1) {x1 : Int32} {w : Wd} {K : Wd → Prop} (h : E 1 M_G_fillMultiples 2 [(0, .ref 1), (1, .int x1), (2, .ref p1), (3, .int 0)] [] w (qV 1 K)) : RunV 1 M_G_fillMultiples [.ref 1, .int x1, .ref p1] w K := by
  refine runs_of (L := [(0, .ref 1), (1, .int x1), (2, .ref p1)]) rfl (Nat.le_of_ble_eq_true rfl) rfl ?_
  refine x_iconst (v := 0) d_G_fillMultiples_0 (by decide) ?_
  refine x_istore_n (L' := [(0, .ref 1), (1, .int x1), (2, .ref p1), (3, .int 0)]) [1, 2, 3, 0] d_G_fillMultiples_1 (by decide) rfl ?_
  exact h
set_option maxHeartbeats 1000000 in
theorem w_G_fillMultiples_2 {p1 : Nat} (hk1 : kd p1 = .inl (0, 40)) (hp1 : p1 < Nf 1) {x1 x3 : Int32} {w : Wd} {K : Wd → Prop} (h : ((w.1 1 2) ≤ x3 → K w) ∧ (¬ (w.1 1 2) ≤ x3 → RunI 1 M_G_times [.ref 1, .int x3, .int x1] w (fun r2 w1 => vp_in x3 40 ∧ ∀ w3 : Wd, w3 = upI w1 p1 x3.toNatClampNeg r2 → ∀ a4 : Int32, a4 = x3 + 1 → E 1 M_G_fillMultiples 2 [(0, .ref 1), (1, .int x1), (2, .ref p1), (3, .int a4)] [] w3 (qV 1 K)))) : E 1 M_G_fillMultiples 2 [(0, .ref 1), (1, .int x1), (2, .ref p1), (3, .int x3)] [] w (qV 1 K) := by
  refine x_iload_n 3 d_G_fillMultiples_2 rfl ?_
  refine x_aload_n 0 d_G_fillMultiples_3 rfl ?_
  refine x_getI 5 2 d_G_fillMultiples_4 fg_5_37 rfl rfl (Nf_58 (by decide)) ?_
  refine x_icmp_ge 25 d_G_fillMultiples_7 (by decide) (fun c0 => ?_) (fun c0 => ?_)
  · have h := h.1 c0
    exact x_retV d_G_fillMultiples_25 rfl ⟨rfl, rfl⟩ h
  · have h := h.2 c0
    refine x_aload_n 2 d_G_fillMultiples_10 rfl ?_
    refine x_iload_n 3 d_G_fillMultiples_11 rfl ?_
    refine x_aload_n 0 d_G_fillMultiples_12 rfl ?_
    refine x_iload_n 3 d_G_fillMultiples_13 rfl ?_
    refine x_iload_n 1 d_G_fillMultiples_14 rfl ?_
    refine x_callVI (st := [.int x3, .ref p1]) M_G_times [.int x3, .int x1] d_G_fillMultiples_15 ml_5_73 cv_G_times rfl rfl (Nf_58 (by decide)) rfl (Nat.le_of_ble_eq_true rfl) ⟨Nat.le_of_ble_eq_true rfl, Nat.le_of_ble_eq_true rfl⟩ ⟨rfl, rfl⟩ h (fun r2 w1 h => ?_)
    obtain ⟨h0, h⟩ := h
    refine x_iastE d_G_fillMultiples_18 hk1 hp1 h0 (fun w3 ew3 => ?_)
    have h := h w3 ew3
    obtain ⟨a4, ea4⟩ : ∃ z : Int32, z = x3 + 1 := ⟨_, rfl⟩
    have h := h a4 ea4
    refine x_iincE (L' := [(0, .ref 1), (1, .int x1), (2, .ref p1), (3, .int a4)]) 3 [1, 2, 3, 0] d_G_fillMultiples_19 rfl ea4 (by decide) rfl ?_
    refine x_goto 2 d_G_fillMultiples_22 (by decide) ?_
    exact h
set_option maxHeartbeats 1000000 in
theorem r_G_onward {x3 : Int32} {y1 : Int64} {w : Wd} {K : Int64 → Wd → Prop} (h : ∀ b1 : Int64, b1 = ((y1 &&& ((w.2 1 4) ^^^ ((-1)))) <<< ((1 : Int32).toInt64 &&& 63)) ||| (((y1 &&& (w.2 1 4)).toUInt64 >>> (((w.1 1 1) - 1).toInt64.toUInt64 &&& Int64.toUInt64 63)).toInt64) → vp_in x3 40 ∧ (((w.1 1 1) - 1) ≤ (w.1 3 x3.toNatClampNeg) → K (((b1 <<< ((w.1 1 1).toInt64 &&& 63)) ||| ((b1.toUInt64 >>> (((w.1 1 2) - (w.1 1 1)).toInt64.toUInt64 &&& Int64.toUInt64 63)).toInt64)) &&& (w.2 1 3)) w) ∧ (¬ ((w.1 1 1) - 1) ≤ (w.1 3 x3.toNatClampNeg) → K b1 w)) : RunL 1 M_G_onward [.ref 1, .long y1, .int x3] w K := by
  refine runs_of (L := [(0, .ref 1), (1, .long y1), (3, .int x3)]) rfl (Nat.le_of_ble_eq_true rfl) rfl ?_
  refine x_lload_n 1 d_G_onward_0 rfl ?_
  refine x_aload_n 0 d_G_onward_1 rfl ?_
  refine x_getL 5 4 d_G_onward_2 fg_5_44 rfl rfl (Nf_58 (by decide)) ?_
  refine x_ldc2 (v := (-1)) d_G_onward_5 mw_528 ?_
  refine x_lxor d_G_onward_8 ?_
  refine x_land d_G_onward_9 ?_
  refine x_iconst (v := 1) d_G_onward_10 (by decide) ?_
  refine x_lshl d_G_onward_11 ?_
  refine x_lload_n 1 d_G_onward_12 rfl ?_
  refine x_aload_n 0 d_G_onward_13 rfl ?_
  refine x_getL 5 4 d_G_onward_14 fg_5_44 rfl rfl (Nf_58 (by decide)) ?_
  refine x_land d_G_onward_17 ?_
  refine x_aload_n 0 d_G_onward_18 rfl ?_
  refine x_getI 5 1 d_G_onward_19 fg_5_34 rfl rfl (Nf_58 (by decide)) ?_
  refine x_iconst (v := 1) d_G_onward_22 (by decide) ?_
  refine x_isub d_G_onward_23 ?_
  refine x_lushr d_G_onward_24 ?_
  refine x_lor d_G_onward_25 ?_
  obtain ⟨b1, eb1⟩ : ∃ z : Int64, z = ((y1 &&& ((w.2 1 4) ^^^ ((-1)))) <<< ((1 : Int32).toInt64 &&& 63)) ||| (((y1 &&& (w.2 1 4)).toUInt64 >>> (((w.1 1 1) - 1).toInt64.toUInt64 &&& Int64.toUInt64 63)).toInt64) := ⟨_, rfl⟩
  have h := h b1 eb1
  refine x_lstoreE (L' := [(0, .ref 1), (1, .long y1), (3, .int x3), (4, .long b1)]) [1, 2, 3, 0] d_G_onward_26 (by decide) eb1 rfl ?_
  refine x_aload_n 0 d_G_onward_28 rfl ?_
  refine x_getR 5 7 3 d_G_onward_29 fg_5_15 rfl rfl rfl (Nf_58 (by decide)) ?_
  refine x_iload_n 2 d_G_onward_32 rfl ?_
  obtain ⟨h0, h⟩ := h
  refine x_iald d_G_onward_33 rfl (Nf_58 (by decide)) h0 ?_
  refine x_aload_n 0 d_G_onward_34 rfl ?_
  refine x_getI 5 1 d_G_onward_35 fg_5_34 rfl rfl (Nf_58 (by decide)) ?_
  refine x_iconst (v := 1) d_G_onward_38 (by decide) ?_
  refine x_isub d_G_onward_39 ?_
  refine x_icmp_ge 46 d_G_onward_40 (by decide) (fun c0 => ?_) (fun c0 => ?_)
  · have h := h.1 c0
    refine x_lload 3 d_G_onward_46 rfl ?_
    refine x_aload_n 0 d_G_onward_48 rfl ?_
    refine x_getI 5 1 d_G_onward_49 fg_5_34 rfl rfl (Nf_58 (by decide)) ?_
    refine x_lshl d_G_onward_52 ?_
    refine x_lload 3 d_G_onward_53 rfl ?_
    refine x_aload_n 0 d_G_onward_55 rfl ?_
    refine x_getI 5 2 d_G_onward_56 fg_5_37 rfl rfl (Nf_58 (by decide)) ?_
    refine x_aload_n 0 d_G_onward_59 rfl ?_
    refine x_getI 5 1 d_G_onward_60 fg_5_34 rfl rfl (Nf_58 (by decide)) ?_
    refine x_isub d_G_onward_63 ?_
    refine x_lushr d_G_onward_64 ?_
    refine x_lor d_G_onward_65 ?_
    refine x_aload_n 0 d_G_onward_66 rfl ?_
    refine x_getL 5 3 d_G_onward_67 fg_5_40 rfl rfl (Nf_58 (by decide)) ?_
    refine x_land d_G_onward_70 ?_
    exact x_retL d_G_onward_71 rfl ⟨rfl, rfl⟩ h
  · have h := h.2 c0
    refine x_lload 3 d_G_onward_43 rfl ?_
    exact x_retL d_G_onward_45 rfl ⟨rfl, rfl⟩ h
set_option maxHeartbeats 1000000 in
theorem r_G_leastTranslate {y1 : Int64} {w : Wd} {K : Int64 → Wd → Prop} (h : E 1 M_G_leastTranslate 8 [(0, .ref 1), (3, .long y1), (5, .long y1), (7, .int 0)] [] w (qL 1 K)) : RunL 1 M_G_leastTranslate [.ref 1, .long y1] w K := by
  refine runs_of (L := [(0, .ref 1), (1, .long y1)]) rfl (Nat.le_of_ble_eq_true rfl) rfl ?_
  refine x_lload_n 1 d_G_leastTranslate_0 rfl ?_
  refine x_lstore_n (L' := [(0, .ref 1), (1, .long y1), (3, .long y1)]) [1, 2, 0] d_G_leastTranslate_1 (by decide) rfl ?_
  refine x_lload_n 1 d_G_leastTranslate_2 rfl ?_
  refine x_lstore (L' := [(0, .ref 1), (1, .long y1), (3, .long y1), (5, .long y1)]) [1, 2, 3, 0] d_G_leastTranslate_3 (by decide) rfl ?_
  refine x_iconst (v := 0) d_G_leastTranslate_5 (by decide) ?_
  refine x_istore (L' := [(0, .ref 1), (1, .long y1), (3, .long y1), (5, .long y1), (7, .int 0)]) [1, 2, 3, 4, 0] d_G_leastTranslate_6 (by decide) rfl ?_
  exact x_perm [0, 2, 3, 4] rfl h
set_option maxHeartbeats 1000000 in
theorem w_G_leastTranslate_8 {x7 : Int32} {y3 y5 : Int64} {w : Wd} {K : Int64 → Wd → Prop} (h : ((w.1 1 2) ≤ x7 → K y3 w) ∧ (¬ (w.1 1 2) ≤ x7 → RunL 1 M_G_onward [.ref 1, .long y5, .int x7] w (fun r2 w1 => ∀ b3 : Int64, b3 = (if r2 < y3 then r2 else y3) → ∀ a4 : Int32, a4 = x7 + 1 → E 1 M_G_leastTranslate 8 [(0, .ref 1), (3, .long b3), (5, .long r2), (7, .int a4)] [] w1 (qL 1 K)))) : E 1 M_G_leastTranslate 8 [(0, .ref 1), (3, .long y3), (5, .long y5), (7, .int x7)] [] w (qL 1 K) := by
  refine x_iload 3 d_G_leastTranslate_8 rfl ?_
  refine x_aload_n 0 d_G_leastTranslate_10 rfl ?_
  refine x_getI 5 2 d_G_leastTranslate_11 fg_5_37 rfl rfl (Nf_58 (by decide)) ?_
  refine x_icmp_ge 40 d_G_leastTranslate_14 (by decide) (fun c0 => ?_) (fun c0 => ?_)
  · have h := h.1 c0
    refine x_lload_n 1 d_G_leastTranslate_40 rfl ?_
    exact x_retL d_G_leastTranslate_41 rfl ⟨rfl, rfl⟩ h
  · have h := h.2 c0
    refine x_aload_n 0 d_G_leastTranslate_17 rfl ?_
    refine x_lload 2 d_G_leastTranslate_18 rfl ?_
    refine x_iload 3 d_G_leastTranslate_20 rfl ?_
    refine x_callVL (st := []) M_G_onward [.long y5, .int x7] d_G_leastTranslate_22 ml_5_82 cv_G_onward rfl rfl (Nf_58 (by decide)) rfl (Nat.le_of_ble_eq_true rfl) ⟨Nat.le_of_ble_eq_true rfl, Nat.le_of_ble_eq_true rfl⟩ ⟨rfl, rfl⟩ h (fun r2 w1 h => ?_)
    refine x_lstore (L' := [(0, .ref 1), (3, .long y3), (5, .long r2), (7, .int x7)]) [1, 2, 0, 3] d_G_leastTranslate_25 (by decide) rfl ?_
    refine x_lload_n 1 d_G_leastTranslate_27 rfl ?_
    refine x_lload 2 d_G_leastTranslate_28 rfl ?_
    refine x_mminL d_G_leastTranslate_30 mth_5_86 (Nat.le_of_ble_eq_true rfl) ⟨Nat.le_of_ble_eq_true rfl, Nat.le_of_ble_eq_true rfl⟩ (Nat.zero_le _) (Nat.zero_le _) ?_
    obtain ⟨b3, eb3⟩ : ∃ z : Int64, z = (if r2 < y3 then r2 else y3) := ⟨_, rfl⟩
    have h := h b3 eb3
    refine x_lstore_nE (L' := [(0, .ref 1), (3, .long b3), (5, .long r2), (7, .int x7)]) [1, 0, 2, 3] d_G_leastTranslate_33 (by decide) eb3 rfl ?_
    obtain ⟨a4, ea4⟩ : ∃ z : Int32, z = x7 + 1 := ⟨_, rfl⟩
    have h := h a4 ea4
    refine x_iincE (L' := [(0, .ref 1), (3, .long b3), (5, .long r2), (7, .int a4)]) 3 [1, 2, 3, 0] d_G_leastTranslate_34 rfl ea4 (by decide) rfl ?_
    refine x_goto 8 d_G_leastTranslate_37 (by decide) ?_
    exact h
set_option maxHeartbeats 1000000 in
theorem r_K_insertAscending {p0 : Nat} (hk0 : kd p0 = .inl (1, 6)) (hp0 : p0 < Nf 1) {x1 : Int32} {y2 : Int64} {w : Wd} {K : Wd → Prop} (h : E 1 M_K_insertAscending 3 [(0, .ref p0), (2, .long y2), (4, .int x1)] [] w (qV 1 K)) : RunV 1 M_K_insertAscending [.ref p0, .int x1, .long y2] w K := by
  refine runs_of (L := [(0, .ref p0), (1, .int x1), (2, .long y2)]) rfl (Nat.le_of_ble_eq_true rfl) rfl ?_
  refine x_iload_n 1 d_K_insertAscending_0 rfl ?_
  refine x_istore (L' := [(0, .ref p0), (1, .int x1), (2, .long y2), (4, .int x1)]) [1, 2, 3, 0] d_K_insertAscending_1 (by decide) rfl ?_
  exact x_perm [0, 2, 3] rfl h
set_option maxHeartbeats 1000000 in
theorem w_K_insertAscending_3 {p0 : Nat} (hk0 : kd p0 = .inl (1, 6)) (hp0 : p0 < Nf 1) {x4 : Int32} {y2 : Int64} {w : Wd} {K : Wd → Prop} (h : (x4 ≤ 0 → vp_in x4 6 ∧ ∀ w1 : Wd, w1 = upL w p0 x4.toNatClampNeg y2 → K w1) ∧ (¬ x4 ≤ 0 → vp_in (x4 - 1) 6 ∧ ((w.2 p0 (x4 - 1).toNatClampNeg) ≤ y2 → vp_in x4 6 ∧ ∀ w2 : Wd, w2 = upL w p0 x4.toNatClampNeg y2 → K w2) ∧ (¬ (w.2 p0 (x4 - 1).toNatClampNeg) ≤ y2 → vp_in (x4 - 1) 6 ∧ vp_in x4 6 ∧ ∀ w3 : Wd, w3 = upL w p0 x4.toNatClampNeg (w.2 p0 (x4 - 1).toNatClampNeg) → ∀ a4 : Int32, a4 = x4 + (-1) → E 1 M_K_insertAscending 3 [(0, .ref p0), (2, .long y2), (4, .int a4)] [] w3 (qV 1 K)))) : E 1 M_K_insertAscending 3 [(0, .ref p0), (2, .long y2), (4, .int x4)] [] w (qV 1 K) := by
  refine x_iload 2 d_K_insertAscending_3 rfl ?_
  refine x_if_le 35 d_K_insertAscending_5 (by decide) (fun c0 => ?_) (fun c0 => ?_)
  · have h := h.1 c0
    refine x_aload_n 0 d_K_insertAscending_35 rfl ?_
    refine x_iload 2 d_K_insertAscending_36 rfl ?_
    refine x_lload_n 1 d_K_insertAscending_38 rfl ?_
    obtain ⟨h0, h⟩ := h
    refine x_lastE d_K_insertAscending_39 hk0 hp0 h0 (fun w1 ew1 => ?_)
    have h := h w1 ew1
    exact x_retV d_K_insertAscending_40 rfl ⟨rfl, rfl⟩ h
  · have h := h.2 c0
    refine x_aload_n 0 d_K_insertAscending_8 rfl ?_
    refine x_iload 2 d_K_insertAscending_9 rfl ?_
    refine x_iconst (v := 1) d_K_insertAscending_11 (by decide) ?_
    refine x_isub d_K_insertAscending_12 ?_
    obtain ⟨h0, h⟩ := h
    refine x_lald d_K_insertAscending_13 hk0 hp0 h0 ?_
    refine x_lload_n 1 d_K_insertAscending_14 rfl ?_
    refine x_lif_le 35 d_K_insertAscending_15 d_K_insertAscending_16 (by decide) (fun c0 => ?_) (fun c0 => ?_)
    · have h := h.1 c0
      refine x_aload_n 0 d_K_insertAscending_35 rfl ?_
      refine x_iload 2 d_K_insertAscending_36 rfl ?_
      refine x_lload_n 1 d_K_insertAscending_38 rfl ?_
      obtain ⟨h0, h⟩ := h
      refine x_lastE d_K_insertAscending_39 hk0 hp0 h0 (fun w2 ew2 => ?_)
      have h := h w2 ew2
      exact x_retV d_K_insertAscending_40 rfl ⟨rfl, rfl⟩ h
    · have h := h.2 c0
      refine x_aload_n 0 d_K_insertAscending_19 rfl ?_
      refine x_iload 2 d_K_insertAscending_20 rfl ?_
      refine x_aload_n 0 d_K_insertAscending_22 rfl ?_
      refine x_iload 2 d_K_insertAscending_23 rfl ?_
      refine x_iconst (v := 1) d_K_insertAscending_25 (by decide) ?_
      refine x_isub d_K_insertAscending_26 ?_
      obtain ⟨h0, h⟩ := h
      refine x_lald d_K_insertAscending_27 hk0 hp0 h0 ?_
      obtain ⟨h0, h⟩ := h
      refine x_lastE d_K_insertAscending_28 hk0 hp0 h0 (fun w3 ew3 => ?_)
      have h := h w3 ew3
      obtain ⟨a4, ea4⟩ : ∃ z : Int32, z = x4 + (-1) := ⟨_, rfl⟩
      have h := h a4 ea4
      refine x_iincE (L' := [(0, .ref p0), (2, .long y2), (4, .int a4)]) 2 [1, 2, 0] d_K_insertAscending_29 rfl ea4 (by decide) rfl ?_
      refine x_goto 3 d_K_insertAscending_32 (by decide) ?_
      exact h
set_option maxHeartbeats 1000000 in
theorem r_K_listImage {p0 : Nat} (hk0 : kd p0 = .inl (1, 6)) (hp0 : p0 < Nf 1) {p1 : Nat} (hk1 : kd p1 = .inl (1, 6)) (hp1 : p1 < Nf 1) {w : Wd} {K : Int32 → Wd → Prop} (h : E 1 M_K_listImage 5 [(0, .ref 14), (1, .ref p0), (2, .ref p1), (3, .int 0), (4, .int 0)] [] w (qI 1 K)) : RunI 1 M_K_listImage [.ref 14, .ref p0, .ref p1] w K := by
  refine runs_of (L := [(0, .ref 14), (1, .ref p0), (2, .ref p1)]) rfl (Nat.le_of_ble_eq_true rfl) rfl ?_
  refine x_iconst (v := 0) d_K_listImage_0 (by decide) ?_
  refine x_istore_n (L' := [(0, .ref 14), (1, .ref p0), (2, .ref p1), (3, .int 0)]) [1, 2, 3, 0] d_K_listImage_1 (by decide) rfl ?_
  refine x_iconst (v := 0) d_K_listImage_2 (by decide) ?_
  refine x_istore (L' := [(0, .ref 14), (1, .ref p0), (2, .ref p1), (3, .int 0), (4, .int 0)]) [1, 2, 3, 4, 0] d_K_listImage_3 (by decide) rfl ?_
  exact h
set_option maxHeartbeats 1000000 in
theorem w_K_listImage_5 {p0 : Nat} (hk0 : kd p0 = .inl (1, 6)) (hp0 : p0 < Nf 1) {p1 : Nat} (hk1 : kd p1 = .inl (1, 6)) (hp1 : p1 < Nf 1) {x3 x4 : Int32} {w : Wd} {K : Int32 → Wd → Prop} (h : (6 ≤ x4 → K x3 w) ∧ (¬ 6 ≤ x4 → vp_in x4 6 ∧ ((w.2 p0 x4.toNatClampNeg) = 0 → ∀ a1 : Int32, a1 = x4 + 1 → E 1 M_K_listImage 5 [(0, .ref 14), (1, .ref p0), (2, .ref p1), (3, .int x3), (4, .int a1)] [] w (qI 1 K)) ∧ (¬ (w.2 p0 x4.toNatClampNeg) = 0 → vp_in x4 6 ∧ RunL 1 M_G_mapped [.ref 1, .long (w.2 p0 x4.toNatClampNeg), .ref 15] w (fun r3 w2 => RunL 1 M_G_leastTranslate [.ref 1, .long r3] w2 (fun r5 w4 => RunV 1 M_K_insertAscending [.ref p1, .int x3, .long r5] w4 (fun w6 => ∀ a7 : Int32, a7 = x3 + 1 → ∀ a8 : Int32, a8 = x4 + 1 → E 1 M_K_listImage 5 [(0, .ref 14), (1, .ref p0), (2, .ref p1), (3, .int a7), (4, .int a8)] [] w6 (qI 1 K))))))) : E 1 M_K_listImage 5 [(0, .ref 14), (1, .ref p0), (2, .ref p1), (3, .int x3), (4, .int x4)] [] w (qI 1 K) := by
  refine x_iload 4 d_K_listImage_5 rfl ?_
  refine x_bipush (v := 6) d_K_listImage_7 (by decide) ?_
  refine x_icmp_ge 61 d_K_listImage_9 (by decide) (fun c0 => ?_) (fun c0 => ?_)
  · have h := h.1 c0
    refine x_iload_n 3 d_K_listImage_61 rfl ?_
    exact x_retI d_K_listImage_62 rfl ⟨rfl, rfl⟩ h
  · have h := h.2 c0
    refine x_aload_n 1 d_K_listImage_12 rfl ?_
    refine x_iload 4 d_K_listImage_13 rfl ?_
    obtain ⟨h0, h⟩ := h
    refine x_lald d_K_listImage_15 hk0 hp0 h0 ?_
    refine x_lconst (v := 0) d_K_listImage_16 (by decide) ?_
    refine x_lif_eq 55 d_K_listImage_17 d_K_listImage_18 (by decide) (fun c0 => ?_) (fun c0 => ?_)
    · have h := h.1 c0
      obtain ⟨a1, ea1⟩ : ∃ z : Int32, z = x4 + 1 := ⟨_, rfl⟩
      have h := h a1 ea1
      refine x_iincE (L' := [(0, .ref 14), (1, .ref p0), (2, .ref p1), (3, .int x3), (4, .int a1)]) 4 [1, 2, 3, 4, 0] d_K_listImage_55 rfl ea1 (by decide) rfl ?_
      refine x_goto 5 d_K_listImage_58 (by decide) ?_
      exact h
    · have h := h.2 c0
      refine x_aload_n 0 d_K_listImage_21 rfl ?_
      refine x_getR 7 0 1 d_K_listImage_22 fg_7_25 rfl rfl rfl (Nf_58 (by decide)) ?_
      refine x_aload_n 0 d_K_listImage_25 rfl ?_
      refine x_getR 7 0 1 d_K_listImage_26 fg_7_25 rfl rfl rfl (Nf_58 (by decide)) ?_
      refine x_aload_n 1 d_K_listImage_29 rfl ?_
      refine x_iload 4 d_K_listImage_30 rfl ?_
      obtain ⟨h0, h⟩ := h
      refine x_lald d_K_listImage_32 hk0 hp0 h0 ?_
      refine x_aload_n 0 d_K_listImage_33 rfl ?_
      refine x_getR 7 1 15 d_K_listImage_34 fg_7_9 rfl rfl rfl (Nf_58 (by decide)) ?_
      refine x_callVL (st := [.ref 1]) M_G_mapped [.long (w.2 p0 x4.toNatClampNeg), .ref 15] d_K_listImage_37 ml_7_42 cv_G_mapped rfl rfl (Nf_58 (by decide)) rfl (Nat.le_of_ble_eq_true rfl) ⟨Nat.le_of_ble_eq_true rfl, Nat.le_of_ble_eq_true rfl⟩ ⟨rfl, rfl⟩ h (fun r3 w2 h => ?_)
      refine x_callVL (st := []) M_G_leastTranslate [.long r3] d_K_listImage_40 ml_7_78 cv_G_leastTranslate rfl rfl (Nf_58 (by decide)) rfl (Nat.le_of_ble_eq_true rfl) ⟨Nat.le_of_ble_eq_true rfl, Nat.le_of_ble_eq_true rfl⟩ ⟨rfl, rfl⟩ h (fun r5 w4 h => ?_)
      refine x_lstore (L' := [(0, .ref 14), (1, .ref p0), (2, .ref p1), (3, .int x3), (4, .int x4), (5, .long r5)]) [1, 2, 3, 4, 5, 0] d_K_listImage_43 (by decide) rfl ?_
      refine x_aload_n 2 d_K_listImage_45 rfl ?_
      refine x_iload_n 3 d_K_listImage_46 rfl ?_
      refine x_lload 5 d_K_listImage_47 rfl ?_
      refine x_callSV (st := []) M_K_insertAscending [.ref p1, .int x3, .long r5] d_K_listImage_49 ml_7_82 cv_K_insertAscending rfl (Nat.le_of_ble_eq_true rfl) ⟨Nat.le_of_ble_eq_true rfl, Nat.le_of_ble_eq_true rfl⟩ ⟨rfl, rfl⟩ h (fun w6 h => ?_)
      obtain ⟨a7, ea7⟩ : ∃ z : Int32, z = x3 + 1 := ⟨_, rfl⟩
      have h := h a7 ea7
      refine x_iincE (L' := [(0, .ref 14), (1, .ref p0), (2, .ref p1), (3, .int a7), (4, .int x4), (5, .long r5)]) 3 [1, 2, 3, 0, 4, 5] d_K_listImage_52 rfl ea7 (by decide) rfl ?_
      obtain ⟨a8, ea8⟩ : ∃ z : Int32, z = x4 + 1 := ⟨_, rfl⟩
      have h := h a8 ea8
      refine x_iincE (L' := [(0, .ref 14), (1, .ref p0), (2, .ref p1), (3, .int a7), (4, .int a8), (5, .long r5)]) 4 [1, 2, 3, 4, 0, 5] d_K_listImage_55 rfl ea8 (by decide) rfl ?_
      refine x_goto 5 d_K_listImage_58 (by decide) ?_
      exact x_perm [0, 1, 2, 3, 4] rfl h
set_option maxHeartbeats 1000000 in
theorem r_K_listSame {p0 : Nat} (hk0 : kd p0 = .inl (1, 6)) (hp0 : p0 < Nf 1) {p1 : Nat} (hk1 : kd p1 = .inl (1, 6)) (hp1 : p1 < Nf 1) {w : Wd} {K : Int32 → Wd → Prop} (h : RunV 1 M_G_fillMultiples [.ref 1, .int 1, .ref 15] w (fun w1 => RunI 1 M_K_listImage [.ref 14, .ref p0, .ref p1] w1 (fun r3 w2 => K r3 w2))) : RunI 1 M_K_listSame [.ref 14, .ref p0, .ref p1] w K := by
  refine runs_of (L := [(0, .ref 14), (1, .ref p0), (2, .ref p1)]) rfl (Nat.le_of_ble_eq_true rfl) rfl ?_
  refine x_aload_n 0 d_K_listSame_0 rfl ?_
  refine x_getR 7 0 1 d_K_listSame_1 fg_7_25 rfl rfl rfl (Nf_58 (by decide)) ?_
  refine x_iconst (v := 1) d_K_listSame_4 (by decide) ?_
  refine x_aload_n 0 d_K_listSame_5 rfl ?_
  refine x_getR 7 1 15 d_K_listSame_6 fg_7_9 rfl rfl rfl (Nf_58 (by decide)) ?_
  refine x_callVV (st := []) M_G_fillMultiples [.int 1, .ref 15] d_K_listSame_9 ml_7_39 cv_G_fillMultiples rfl rfl (Nf_58 (by decide)) rfl (Nat.le_of_ble_eq_true rfl) ⟨Nat.le_of_ble_eq_true rfl, Nat.le_of_ble_eq_true rfl⟩ ⟨rfl, rfl⟩ h (fun w1 h => ?_)
  refine x_aload_n 0 d_K_listSame_12 rfl ?_
  refine x_aload_n 1 d_K_listSame_13 rfl ?_
  refine x_aload_n 2 d_K_listSame_14 rfl ?_
  refine x_callVI (st := []) M_K_listImage [.ref p0, .ref p1] d_K_listSame_15 ml_7_62 cv_K_listImage rfl rfl (Nf_58 (by decide)) rfl (Nat.le_of_ble_eq_true rfl) ⟨Nat.le_of_ble_eq_true rfl, Nat.le_of_ble_eq_true rfl⟩ ⟨rfl, rfl⟩ h (fun r3 w2 h => ?_)
  exact x_retI d_K_listSame_18 rfl ⟨rfl, rfl⟩ h
set_option maxHeartbeats 1000000 in
theorem r_J_compare {f : Nat} {y0 y2 : Int64} {w : Wd} {K : Int32 → Wd → Prop} (h : (y2 ≤ y0 → (¬ y0 = y2 → K 1 w) ∧ (y0 = y2 → K 0 w)) ∧ (¬ y2 ≤ y0 → K ((-1)) w)) : RunI f M_J_compare [.long y0, .long y2] w K := by
  refine runs_of (L := [(0, .long y0), (2, .long y2)]) rfl (Nat.le_of_ble_eq_true rfl) rfl ?_
  refine x_lload_n 0 d_J_compare_0 rfl ?_
  refine x_lload_n 1 d_J_compare_1 rfl ?_
  refine x_lif_ge 10 d_J_compare_2 d_J_compare_3 (by decide) (fun c0 => ?_) (fun c0 => ?_)
  · have h := h.1 c0
    refine x_lload_n 0 d_J_compare_10 rfl ?_
    refine x_lload_n 1 d_J_compare_11 rfl ?_
    refine x_lif_ne 20 d_J_compare_12 d_J_compare_13 (by decide) (fun c0 => ?_) (fun c0 => ?_)
    · have h := h.1 c0
      refine x_iconst (v := 1) d_J_compare_20 (by decide) ?_
      exact x_retI d_J_compare_21 rfl ⟨rfl, rfl⟩ h
    · have h := h.2 c0
      refine x_iconst (v := 0) d_J_compare_16 (by decide) ?_
      refine x_goto 21 d_J_compare_17 (by decide) ?_
      exact x_retI d_J_compare_21 rfl ⟨rfl, rfl⟩ h
  · have h := h.2 c0
    refine x_iconst (v := (-1)) d_J_compare_6 (by decide) ?_
    refine x_goto 21 d_J_compare_7 (by decide) ?_
    exact x_retI d_J_compare_21 rfl ⟨rfl, rfl⟩ h
set_option maxHeartbeats 1000000 in
theorem r_K_compareLists {p0 : Nat} (hk0 : kd p0 = .inl (1, 6)) (hp0 : p0 < Nf 1) {p1 : Nat} (hk1 : kd p1 = .inl (1, 6)) (hp1 : p1 < Nf 1) {x2 : Int32} {w : Wd} {K : Int32 → Wd → Prop} (h : E 1 M_K_compareLists 2 [(0, .ref p0), (1, .ref p1), (2, .int x2), (3, .int 0)] [] w (qI 1 K)) : RunI 1 M_K_compareLists [.ref p0, .ref p1, .int x2] w K := by
  refine runs_of (L := [(0, .ref p0), (1, .ref p1), (2, .int x2)]) rfl (Nat.le_of_ble_eq_true rfl) rfl ?_
  refine x_iconst (v := 0) d_K_compareLists_0 (by decide) ?_
  refine x_istore_n (L' := [(0, .ref p0), (1, .ref p1), (2, .int x2), (3, .int 0)]) [1, 2, 3, 0] d_K_compareLists_1 (by decide) rfl ?_
  exact h
set_option maxHeartbeats 1000000 in
theorem w_K_compareLists_2 {p0 : Nat} (hk0 : kd p0 = .inl (1, 6)) (hp0 : p0 < Nf 1) {p1 : Nat} (hk1 : kd p1 = .inl (1, 6)) (hp1 : p1 < Nf 1) {x2 x3 : Int32} {w : Wd} {K : Int32 → Wd → Prop} (h : (x2 ≤ x3 → K 0 w) ∧ (¬ x2 ≤ x3 → vp_in x3 6 ∧ vp_in x3 6 ∧ ((w.2 p0 x3.toNatClampNeg) = (w.2 p1 x3.toNatClampNeg) → ∀ a1 : Int32, a1 = x3 + 1 → E 1 M_K_compareLists 2 [(0, .ref p0), (1, .ref p1), (2, .int x2), (3, .int a1)] [] w (qI 1 K)) ∧ (¬ (w.2 p0 x3.toNatClampNeg) = (w.2 p1 x3.toNatClampNeg) → vp_in x3 6 ∧ vp_in x3 6 ∧ RunI 1 M_J_compare [.long (w.2 p0 x3.toNatClampNeg), .long (w.2 p1 x3.toNatClampNeg)] w (fun r3 w2 => K r3 w2)))) : E 1 M_K_compareLists 2 [(0, .ref p0), (1, .ref p1), (2, .int x2), (3, .int x3)] [] w (qI 1 K) := by
  refine x_iload_n 3 d_K_compareLists_2 rfl ?_
  refine x_iload_n 2 d_K_compareLists_3 rfl ?_
  refine x_icmp_ge 33 d_K_compareLists_4 (by decide) (fun c0 => ?_) (fun c0 => ?_)
  · have h := h.1 c0
    refine x_iconst (v := 0) d_K_compareLists_33 (by decide) ?_
    exact x_retI d_K_compareLists_34 rfl ⟨rfl, rfl⟩ h
  · have h := h.2 c0
    refine x_aload_n 0 d_K_compareLists_7 rfl ?_
    refine x_iload_n 3 d_K_compareLists_8 rfl ?_
    obtain ⟨h0, h⟩ := h
    refine x_lald d_K_compareLists_9 hk0 hp0 h0 ?_
    refine x_aload_n 1 d_K_compareLists_10 rfl ?_
    refine x_iload_n 3 d_K_compareLists_11 rfl ?_
    obtain ⟨h0, h⟩ := h
    refine x_lald d_K_compareLists_12 hk1 hp1 h0 ?_
    refine x_lif_eq 27 d_K_compareLists_13 d_K_compareLists_14 (by decide) (fun c0 => ?_) (fun c0 => ?_)
    · have h := h.1 c0
      obtain ⟨a1, ea1⟩ : ∃ z : Int32, z = x3 + 1 := ⟨_, rfl⟩
      have h := h a1 ea1
      refine x_iincE (L' := [(0, .ref p0), (1, .ref p1), (2, .int x2), (3, .int a1)]) 3 [1, 2, 3, 0] d_K_compareLists_27 rfl ea1 (by decide) rfl ?_
      refine x_goto 2 d_K_compareLists_30 (by decide) ?_
      exact h
    · have h := h.2 c0
      refine x_aload_n 0 d_K_compareLists_17 rfl ?_
      refine x_iload_n 3 d_K_compareLists_18 rfl ?_
      obtain ⟨h0, h⟩ := h
      refine x_lald d_K_compareLists_19 hk0 hp0 h0 ?_
      refine x_aload_n 1 d_K_compareLists_20 rfl ?_
      refine x_iload_n 3 d_K_compareLists_21 rfl ?_
      obtain ⟨h0, h⟩ := h
      refine x_lald d_K_compareLists_22 hk1 hp1 h0 ?_
      refine x_callSI (st := []) M_J_compare [.long (w.2 p0 x3.toNatClampNeg), .long (w.2 p1 x3.toNatClampNeg)] d_K_compareLists_23 ml_7_86 cv_J_compare rfl (Nat.le_of_ble_eq_true rfl) ⟨Nat.le_of_ble_eq_true rfl, Nat.le_of_ble_eq_true rfl⟩ ⟨rfl, rfl⟩ h (fun r3 w2 h => ?_)
      exact x_retI d_K_compareLists_26 rfl ⟨rfl, rfl⟩ h
set_option maxHeartbeats 1000000 in
theorem r_K_findLeast {w : Wd} {K : Int32 → Wd → Prop} (h : RunI 1 M_K_listSame [.ref 14, .ref 10, .ref 18] w (fun r2 w1 => E 1 M_K_findLeast 12 [(0, .ref 14), (1, .ref 10), (2, .int r2), (3, .int 0)] [] w1 (qI 1 K))) : RunI 1 M_K_findLeast [.ref 14, .ref 10] w K := by
  refine runs_of (L := [(0, .ref 14), (1, .ref 10)]) rfl (Nat.le_of_ble_eq_true rfl) rfl ?_
  refine x_aload_n 0 d_K_findLeast_0 rfl ?_
  refine x_aload_n 1 d_K_findLeast_1 rfl ?_
  refine x_aload_n 0 d_K_findLeast_2 rfl ?_
  refine x_getR 7 4 18 d_K_findLeast_3 fg_7_22 rfl rfl rfl (Nf_58 (by decide)) ?_
  refine x_callVI (st := []) M_K_listSame [.ref 10, .ref 18] d_K_findLeast_6 ml_7_46 cv_K_listSame rfl rfl (Nf_58 (by decide)) rfl (Nat.le_of_ble_eq_true rfl) ⟨Nat.le_of_ble_eq_true rfl, Nat.le_of_ble_eq_true rfl⟩ ⟨rfl, rfl⟩ h (fun r2 w1 h => ?_)
  refine x_istore_n (L' := [(0, .ref 14), (1, .ref 10), (2, .int r2)]) [1, 2, 0] d_K_findLeast_9 (by decide) rfl ?_
  refine x_iconst (v := 0) d_K_findLeast_10 (by decide) ?_
  refine x_istore_n (L' := [(0, .ref 14), (1, .ref 10), (2, .int r2), (3, .int 0)]) [1, 2, 3, 0] d_K_findLeast_11 (by decide) rfl ?_
  exact h
set_option maxHeartbeats 1000000 in
theorem w_K_findLeast_12 {x2 x3 : Int32} {w : Wd} {K : Int32 → Wd → Prop} (h : ((w.1 1 5) ≤ x3 → K x2 w) ∧ (¬ (w.1 1 5) ≤ x3 → RunV 1 M_G_fillAutomorphism [.ref 1, .int x3, .ref 15] w (fun w1 => RunI 1 M_K_listImage [.ref 14, .ref 10, .ref 17] w1 (fun r3 w2 => RunI 1 M_K_compareLists [.ref 17, .ref 18, .int x2] w2 (fun r5 w4 => (0 ≤ r5 → ∀ a6 : Int32, a6 = x3 + 1 → E 1 M_K_findLeast 12 [(0, .ref 14), (1, .ref 10), (2, .int x2), (3, .int a6)] [] w4 (qI 1 K)) ∧ (¬ 0 ≤ r5 → ((¬ (0 : Int32) < 0) ∧ (¬ (0 : Int32) < 0) ∧ (¬ (6 : Int32) < 0) ∧ (0 : Int32).toNatClampNeg + (6 : Int32).toNatClampNeg ≤ 6 ∧ (0 : Int32).toNatClampNeg + (6 : Int32).toNatClampNeg ≤ 6) ∧ ∀ w7 : Wd, w7 = cpL w4 17 18 (0 : Int32).toNatClampNeg (0 : Int32).toNatClampNeg (6 : Int32).toNatClampNeg → ∀ a8 : Int32, a8 = x3 + 1 → E 1 M_K_findLeast 12 [(0, .ref 14), (1, .ref 10), (2, .int x2), (3, .int a8)] [] w7 (qI 1 K))))))) : E 1 M_K_findLeast 12 [(0, .ref 14), (1, .ref 10), (2, .int x2), (3, .int x3)] [] w (qI 1 K) := by
  refine x_iload_n 3 d_K_findLeast_12 rfl ?_
  refine x_aload_n 0 d_K_findLeast_13 rfl ?_
  refine x_getR 7 0 1 d_K_findLeast_14 fg_7_25 rfl rfl rfl (Nf_58 (by decide)) ?_
  refine x_getI 5 5 d_K_findLeast_17 fg_7_69 rfl rfl (Nf_58 (by decide)) ?_
  refine x_icmp_ge 81 d_K_findLeast_20 (by decide) (fun c0 => ?_) (fun c0 => ?_)
  · have h := h.1 c0
    refine x_iload_n 2 d_K_findLeast_81 rfl ?_
    exact x_retI d_K_findLeast_82 rfl ⟨rfl, rfl⟩ h
  · have h := h.2 c0
    refine x_aload_n 0 d_K_findLeast_23 rfl ?_
    refine x_getR 7 0 1 d_K_findLeast_24 fg_7_25 rfl rfl rfl (Nf_58 (by decide)) ?_
    refine x_iload_n 3 d_K_findLeast_27 rfl ?_
    refine x_aload_n 0 d_K_findLeast_28 rfl ?_
    refine x_getR 7 1 15 d_K_findLeast_29 fg_7_9 rfl rfl rfl (Nf_58 (by decide)) ?_
    refine x_callVV (st := []) M_G_fillAutomorphism [.int x3, .ref 15] d_K_findLeast_32 ml_7_29 cv_G_fillAutomorphism rfl rfl (Nf_58 (by decide)) rfl (Nat.le_of_ble_eq_true rfl) ⟨Nat.le_of_ble_eq_true rfl, Nat.le_of_ble_eq_true rfl⟩ ⟨rfl, rfl⟩ h (fun w1 h => ?_)
    refine x_aload_n 0 d_K_findLeast_35 rfl ?_
    refine x_aload_n 1 d_K_findLeast_36 rfl ?_
    refine x_aload_n 0 d_K_findLeast_37 rfl ?_
    refine x_getR 7 3 17 d_K_findLeast_38 fg_7_19 rfl rfl rfl (Nf_58 (by decide)) ?_
    refine x_callVI (st := []) M_K_listImage [.ref 10, .ref 17] d_K_findLeast_41 ml_7_62 cv_K_listImage rfl rfl (Nf_58 (by decide)) rfl (Nat.le_of_ble_eq_true rfl) ⟨Nat.le_of_ble_eq_true rfl, Nat.le_of_ble_eq_true rfl⟩ ⟨rfl, rfl⟩ h (fun r3 w2 h => ?_)
    refine x_pop d_K_findLeast_44 rfl ?_
    refine x_aload_n 0 d_K_findLeast_45 rfl ?_
    refine x_getR 7 3 17 d_K_findLeast_46 fg_7_19 rfl rfl rfl (Nf_58 (by decide)) ?_
    refine x_aload_n 0 d_K_findLeast_49 rfl ?_
    refine x_getR 7 4 18 d_K_findLeast_50 fg_7_22 rfl rfl rfl (Nf_58 (by decide)) ?_
    refine x_iload_n 2 d_K_findLeast_53 rfl ?_
    refine x_callSI (st := []) M_K_compareLists [.ref 17, .ref 18, .int x2] d_K_findLeast_54 ml_7_65 cv_K_compareLists rfl (Nat.le_of_ble_eq_true rfl) ⟨Nat.le_of_ble_eq_true rfl, Nat.le_of_ble_eq_true rfl⟩ ⟨rfl, rfl⟩ h (fun r5 w4 h => ?_)
    refine x_if_ge 75 d_K_findLeast_57 (by decide) (fun c0 => ?_) (fun c0 => ?_)
    · have h := h.1 c0
      obtain ⟨a6, ea6⟩ : ∃ z : Int32, z = x3 + 1 := ⟨_, rfl⟩
      have h := h a6 ea6
      refine x_iincE (L' := [(0, .ref 14), (1, .ref 10), (2, .int x2), (3, .int a6)]) 3 [1, 2, 3, 0] d_K_findLeast_75 rfl ea6 (by decide) rfl ?_
      refine x_goto 12 d_K_findLeast_78 (by decide) ?_
      exact h
    · have h := h.2 c0
      refine x_aload_n 0 d_K_findLeast_60 rfl ?_
      refine x_getR 7 3 17 d_K_findLeast_61 fg_7_19 rfl rfl rfl (Nf_58 (by decide)) ?_
      refine x_iconst (v := 0) d_K_findLeast_64 (by decide) ?_
      refine x_aload_n 0 d_K_findLeast_65 rfl ?_
      refine x_getR 7 4 18 d_K_findLeast_66 fg_7_22 rfl rfl rfl (Nf_58 (by decide)) ?_
      refine x_iconst (v := 0) d_K_findLeast_69 (by decide) ?_
      refine x_bipush (v := 6) d_K_findLeast_70 (by decide) ?_
      obtain ⟨h0, h⟩ := h
      refine x_copyE d_K_findLeast_72 cp_7_72 rfl rfl (Nf_58 (by decide)) (Nf_58 (by decide)) h0 (Nat.le_of_ble_eq_true rfl) ⟨Nat.le_of_ble_eq_true rfl, Nat.le_of_ble_eq_true rfl⟩ (fun w7 ew7 => ?_)
      have h := h w7 ew7
      obtain ⟨a8, ea8⟩ : ∃ z : Int32, z = x3 + 1 := ⟨_, rfl⟩
      have h := h a8 ea8
      refine x_iincE (L' := [(0, .ref 14), (1, .ref 10), (2, .int x2), (3, .int a8)]) 3 [1, 2, 3, 0] d_K_findLeast_75 rfl ea8 (by decide) rfl ?_
      refine x_goto 12 d_K_findLeast_78 (by decide) ?_
      exact h
set_option maxHeartbeats 1000000 in
theorem r_A_canonical {x1 : Int32} {w : Wd} {K : Int64 → Wd → Prop} (h : (0 ≤ x1 → RunI 1 M_K_findLeast [.ref 14, .ref 10] w (fun r2 w1 => (r2 ≤ x1 → K ((-4)) w1) ∧ (¬ r2 ≤ x1 → vp_in x1 6 ∧ K (w1.2 18 x1.toNatClampNeg) w1))) ∧ (¬ 0 ≤ x1 → K ((-1)) w)) : RunL 1 M_A_canonical [.ref 0, .int x1] w K := by
  refine runs_of (L := [(0, .ref 0), (1, .int x1)]) rfl (Nat.le_of_ble_eq_true rfl) rfl ?_
  refine x_iload_n 1 d_A_canonical_0 rfl ?_
  refine x_if_ge 8 d_A_canonical_1 (by decide) (fun c0 => ?_) (fun c0 => ?_)
  · have h := h.1 c0
    refine x_aload_n 0 d_A_canonical_8 rfl ?_
    refine x_getR 10 5 14 d_A_canonical_9 fg_10_52 rfl rfl rfl (Nf_58 (by decide)) ?_
    refine x_aload_n 0 d_A_canonical_12 rfl ?_
    refine x_getR 10 1 10 d_A_canonical_13 fg_10_25 rfl rfl rfl (Nf_58 (by decide)) ?_
    refine x_callVI (st := []) M_K_findLeast [.ref 10] d_A_canonical_16 ml_10_245 cv_K_findLeast rfl rfl (Nf_58 (by decide)) rfl (Nat.le_of_ble_eq_true rfl) ⟨Nat.le_of_ble_eq_true rfl, Nat.le_of_ble_eq_true rfl⟩ ⟨rfl, rfl⟩ h (fun r2 w1 h => ?_)
    refine x_istore_n (L' := [(0, .ref 0), (1, .int x1), (2, .int r2)]) [1, 2, 0] d_A_canonical_19 (by decide) rfl ?_
    refine x_iload_n 1 d_A_canonical_20 rfl ?_
    refine x_iload_n 2 d_A_canonical_21 rfl ?_
    refine x_icmp_ge 37 d_A_canonical_22 (by decide) (fun c0 => ?_) (fun c0 => ?_)
    · have h := h.1 c0
      refine x_ldc2 (v := (-4)) d_A_canonical_37 mw_580 ?_
      exact x_retL d_A_canonical_40 rfl ⟨rfl, rfl⟩ h
    · have h := h.2 c0
      refine x_aload_n 0 d_A_canonical_25 rfl ?_
      refine x_getR 10 5 14 d_A_canonical_26 fg_10_52 rfl rfl rfl (Nf_58 (by decide)) ?_
      refine x_getR 7 4 18 d_A_canonical_29 fg_10_248 rfl rfl rfl (Nf_58 (by decide)) ?_
      refine x_iload_n 1 d_A_canonical_32 rfl ?_
      obtain ⟨h0, h⟩ := h
      refine x_lald d_A_canonical_33 rfl (Nf_58 (by decide)) h0 ?_
      refine x_goto 40 d_A_canonical_34 (by decide) ?_
      exact x_retL d_A_canonical_40 rfl ⟨rfl, rfl⟩ h
  · have h := h.2 c0
    refine x_ldc2 (v := (-1)) d_A_canonical_4 mw_467 ?_
    exact x_retL d_A_canonical_7 rfl ⟨rfl, rfl⟩ h
set_option maxHeartbeats 1000000 in
theorem r_A_order {w : Wd} {K : Int32 → Wd → Prop} (h : K (w.1 1 2) w) : RunI 1 M_A_order [.ref 0] w K := by
  refine runs_of (L := [(0, .ref 0)]) rfl (Nat.le_of_ble_eq_true rfl) rfl ?_
  refine x_aload_n 0 d_A_order_0 rfl ?_
  refine x_getR 10 0 1 d_A_order_1 fg_10_19 rfl rfl rfl (Nf_58 (by decide)) ?_
  refine x_getI 5 2 d_A_order_4 fg_10_102 rfl rfl (Nf_58 (by decide)) ?_
  exact x_retI d_A_order_7 rfl ⟨rfl, rfl⟩ h
set_option maxHeartbeats 1000000 in
theorem r_A_hole {w : Wd} {K : Int64 → Wd → Prop} (h : K (w.2 0 12) w) : RunL 1 M_A_hole [.ref 0] w K := by
  refine runs_of (L := [(0, .ref 0)]) rfl (Nat.le_of_ble_eq_true rfl) rfl ?_
  refine x_aload_n 0 d_A_hole_0 rfl ?_
  refine x_getL 10 12 d_A_hole_1 fg_10_94 rfl rfl (Nf_58 (by decide)) ?_
  exact x_retL d_A_hole_4 rfl ⟨rfl, rfl⟩ h
set_option maxHeartbeats 1000000 in
theorem r_J_fillI {f : Nat} {p0 n0 : Nat} (hk0 : kd p0 = .inl (0, n0)) (hp0 : p0 < Nf f) {x1 : Int32} {w : Wd} {K : Wd → Prop} (h : ∀ a1 : Int32, a1 = (Int32.ofNat n0) → E f M_J_fillI 5 [(0, .ref p0), (1, .int x1), (2, .int 0), (3, .int a1)] [] w (qV f K)) : RunV f M_J_fillI [.ref p0, .int x1] w K := by
  refine runs_of (L := [(0, .ref p0), (1, .int x1)]) rfl (Nat.le_of_ble_eq_true rfl) rfl ?_
  refine x_iconst (v := 0) d_J_fillI_0 (by decide) ?_
  refine x_istore_n (L' := [(0, .ref p0), (1, .int x1), (2, .int 0)]) [1, 2, 0] d_J_fillI_1 (by decide) rfl ?_
  refine x_aload_n 0 d_J_fillI_2 rfl ?_
  refine x_alen (v := (Int32.ofNat n0)) d_J_fillI_3 hk0 (by decide) hp0 rfl ?_
  obtain ⟨a1, ea1⟩ : ∃ z : Int32, z = (Int32.ofNat n0) := ⟨_, rfl⟩
  have h := h a1 ea1
  refine x_istore_nE (L' := [(0, .ref p0), (1, .int x1), (2, .int 0), (3, .int a1)]) [1, 2, 3, 0] d_J_fillI_4 (by decide) ea1 rfl ?_
  exact h
set_option maxHeartbeats 1000000 in
theorem w_J_fillI_5 {f : Nat} {p0 n0 : Nat} (hk0 : kd p0 = .inl (0, n0)) (hp0 : p0 < Nf f) {x1 x2 x3 : Int32} {w : Wd} {K : Wd → Prop} (h : (x3 ≤ x2 → K w) ∧ (¬ x3 ≤ x2 → vp_in x2 n0 ∧ ∀ w1 : Wd, w1 = upI w p0 x2.toNatClampNeg x1 → ∀ a2 : Int32, a2 = x2 + 1 → E f M_J_fillI 5 [(0, .ref p0), (1, .int x1), (2, .int a2), (3, .int x3)] [] w1 (qV f K))) : E f M_J_fillI 5 [(0, .ref p0), (1, .int x1), (2, .int x2), (3, .int x3)] [] w (qV f K) := by
  refine x_iload_n 2 d_J_fillI_5 rfl ?_
  refine x_iload_n 3 d_J_fillI_6 rfl ?_
  refine x_icmp_ge 20 d_J_fillI_7 (by decide) (fun c0 => ?_) (fun c0 => ?_)
  · have h := h.1 c0
    exact x_retV d_J_fillI_20 rfl ⟨rfl, rfl⟩ h
  · have h := h.2 c0
    refine x_aload_n 0 d_J_fillI_10 rfl ?_
    refine x_iload_n 2 d_J_fillI_11 rfl ?_
    refine x_iload_n 1 d_J_fillI_12 rfl ?_
    obtain ⟨h0, h⟩ := h
    refine x_iastE d_J_fillI_13 hk0 hp0 h0 (fun w1 ew1 => ?_)
    have h := h w1 ew1
    obtain ⟨a2, ea2⟩ : ∃ z : Int32, z = x2 + 1 := ⟨_, rfl⟩
    have h := h a2 ea2
    refine x_iincE (L' := [(0, .ref p0), (1, .int x1), (2, .int a2), (3, .int x3)]) 2 [1, 2, 0, 3] d_J_fillI_14 rfl ea2 (by decide) rfl ?_
    refine x_goto 5 d_J_fillI_17 (by decide) ?_
    exact h
set_option maxHeartbeats 1000000 in
theorem r_F_addCounts {x3 : Int32} {y1 : Int64} {w : Wd} {K : Wd → Prop} (h : E 1 M_F_addCounts 6 [(0, .ref 8), (1, .long y1), (3, .int x3), (4, .long y1), (6, .int 1)] [] w (qV 1 K)) : RunV 1 M_F_addCounts [.ref 8, .long y1, .int x3] w K := by
  refine runs_of (L := [(0, .ref 8), (1, .long y1), (3, .int x3)]) rfl (Nat.le_of_ble_eq_true rfl) rfl ?_
  refine x_lload_n 1 d_F_addCounts_0 rfl ?_
  refine x_lstore (L' := [(0, .ref 8), (1, .long y1), (3, .int x3), (4, .long y1)]) [1, 2, 3, 0] d_F_addCounts_1 (by decide) rfl ?_
  refine x_iconst (v := 1) d_F_addCounts_3 (by decide) ?_
  refine x_istore (L' := [(0, .ref 8), (1, .long y1), (3, .int x3), (4, .long y1), (6, .int 1)]) [1, 2, 3, 4, 0] d_F_addCounts_4 (by decide) rfl ?_
  exact h
set_option maxHeartbeats 1000000 in
theorem w_F_addCounts_6 {x3 x6 : Int32} {y1 y4 : Int64} {w : Wd} {K : Wd → Prop} (h : ((w.1 1 2) ≤ x6 → K w) ∧ (¬ (w.1 1 2) ≤ x6 → RunL 1 M_G_onward [.ref 1, .long y4, .int (x6 - 1)] w (fun r2 w1 => vp_in x6 40 ∧ RunI 1 M_J_bitCount [.long (y1 &&& r2)] w1 (fun r4 w3 => vp_in x6 40 ∧ ∀ w5 : Wd, w5 = upI w3 9 x6.toNatClampNeg ((w1.1 9 x6.toNatClampNeg) + (x3 * r4)) → ∀ a6 : Int32, a6 = x6 + 1 → E 1 M_F_addCounts 6 [(0, .ref 8), (1, .long y1), (3, .int x3), (4, .long r2), (6, .int a6)] [] w5 (qV 1 K))))) : E 1 M_F_addCounts 6 [(0, .ref 8), (1, .long y1), (3, .int x3), (4, .long y4), (6, .int x6)] [] w (qV 1 K) := by
  refine x_iload 4 d_F_addCounts_6 rfl ?_
  refine x_aload_n 0 d_F_addCounts_8 rfl ?_
  refine x_getR 1 0 1 d_F_addCounts_9 fg_1_15 rfl rfl rfl (Nf_58 (by decide)) ?_
  refine x_getI 5 2 d_F_addCounts_12 fg_1_29 rfl rfl (Nf_58 (by decide)) ?_
  refine x_icmp_ge 58 d_F_addCounts_15 (by decide) (fun c0 => ?_) (fun c0 => ?_)
  · have h := h.1 c0
    exact x_retV d_F_addCounts_58 rfl ⟨rfl, rfl⟩ h
  · have h := h.2 c0
    refine x_aload_n 0 d_F_addCounts_18 rfl ?_
    refine x_getR 1 0 1 d_F_addCounts_19 fg_1_15 rfl rfl rfl (Nf_58 (by decide)) ?_
    refine x_lload 3 d_F_addCounts_22 rfl ?_
    refine x_iload 4 d_F_addCounts_24 rfl ?_
    refine x_iconst (v := 1) d_F_addCounts_26 (by decide) ?_
    refine x_isub d_F_addCounts_27 ?_
    refine x_callVL (st := []) M_G_onward [.long y4, .int (x6 - 1)] d_F_addCounts_28 ml_1_35 cv_G_onward rfl rfl (Nf_58 (by decide)) rfl (Nat.le_of_ble_eq_true rfl) ⟨Nat.le_of_ble_eq_true rfl, Nat.le_of_ble_eq_true rfl⟩ ⟨rfl, rfl⟩ h (fun r2 w1 h => ?_)
    refine x_lstore (L' := [(0, .ref 8), (1, .long y1), (3, .int x3), (4, .long r2), (6, .int x6)]) [1, 2, 3, 0, 4] d_F_addCounts_31 (by decide) rfl ?_
    refine x_aload_n 0 d_F_addCounts_33 rfl ?_
    refine x_getR 1 1 9 d_F_addCounts_34 fg_1_9 rfl rfl rfl (Nf_58 (by decide)) ?_
    refine x_iload 4 d_F_addCounts_37 rfl ?_
    refine x_dup2 d_F_addCounts_39 rfl rfl ?_
    obtain ⟨h0, h⟩ := h
    refine x_iald d_F_addCounts_40 rfl (Nf_58 (by decide)) h0 ?_
    refine x_iload_n 2 d_F_addCounts_41 rfl ?_
    refine x_lload_n 1 d_F_addCounts_42 rfl ?_
    refine x_lload 3 d_F_addCounts_43 rfl ?_
    refine x_land d_F_addCounts_45 ?_
    refine x_callSI (st := [.int x3, .int (w1.1 9 x6.toNatClampNeg), .int x6, .ref 9]) M_J_bitCount [.long (y1 &&& r2)] d_F_addCounts_46 ml_1_39 cv_J_bitCount rfl (Nat.le_of_ble_eq_true rfl) ⟨Nat.le_of_ble_eq_true rfl, Nat.le_of_ble_eq_true rfl⟩ ⟨rfl, rfl⟩ h (fun r4 w3 h => ?_)
    refine x_imul d_F_addCounts_49 ?_
    refine x_iadd d_F_addCounts_50 ?_
    obtain ⟨h0, h⟩ := h
    refine x_iastE d_F_addCounts_51 rfl (Nf_58 (by decide)) h0 (fun w5 ew5 => ?_)
    have h := h w5 ew5
    obtain ⟨a6, ea6⟩ : ∃ z : Int32, z = x6 + 1 := ⟨_, rfl⟩
    have h := h a6 ea6
    refine x_iincE (L' := [(0, .ref 8), (1, .long y1), (3, .int x3), (4, .long r2), (6, .int a6)]) 4 [1, 2, 3, 4, 0] d_F_addCounts_52 rfl ea6 (by decide) rfl ?_
    refine x_goto 6 d_F_addCounts_55 (by decide) ?_
    exact h
set_option maxHeartbeats 1000000 in
theorem r_F_tally {w : Wd} {K : Wd → Prop} (h : RunV 1 M_J_fillI [.ref 9, .int 0] w (fun w1 => E 1 M_F_tally 10 [(0, .ref 8), (1, .ref 10), (2, .int 0)] [] w1 (qV 1 K))) : RunV 1 M_F_tally [.ref 8, .ref 10] w K := by
  refine runs_of (L := [(0, .ref 8), (1, .ref 10)]) rfl (Nat.le_of_ble_eq_true rfl) rfl ?_
  refine x_aload_n 0 d_F_tally_0 rfl ?_
  refine x_getR 1 1 9 d_F_tally_1 fg_1_9 rfl rfl rfl (Nf_58 (by decide)) ?_
  refine x_iconst (v := 0) d_F_tally_4 (by decide) ?_
  refine x_callSV (st := []) M_J_fillI [.ref 9, .int 0] d_F_tally_5 ml_1_19 cv_J_fillI rfl (Nat.le_of_ble_eq_true rfl) ⟨Nat.le_of_ble_eq_true rfl, Nat.le_of_ble_eq_true rfl⟩ ⟨rfl, rfl⟩ h (fun w1 h => ?_)
  refine x_iconst (v := 0) d_F_tally_8 (by decide) ?_
  refine x_istore_n (L' := [(0, .ref 8), (1, .ref 10), (2, .int 0)]) [1, 2, 0] d_F_tally_9 (by decide) rfl ?_
  exact h
set_option maxHeartbeats 1000000 in
theorem w_F_tally_10 {x2 : Int32} {w : Wd} {K : Wd → Prop} (h : (6 ≤ x2 → K w) ∧ (¬ 6 ≤ x2 → vp_in x2 6 ∧ RunV 1 M_F_addCounts [.ref 8, .long (w.2 10 x2.toNatClampNeg), .int 1] w (fun w1 => ∀ a2 : Int32, a2 = x2 + 1 → E 1 M_F_tally 10 [(0, .ref 8), (1, .ref 10), (2, .int a2)] [] w1 (qV 1 K)))) : E 1 M_F_tally 10 [(0, .ref 8), (1, .ref 10), (2, .int x2)] [] w (qV 1 K) := by
  refine x_iload_n 2 d_F_tally_10 rfl ?_
  refine x_bipush (v := 6) d_F_tally_11 (by decide) ?_
  refine x_icmp_ge 30 d_F_tally_13 (by decide) (fun c0 => ?_) (fun c0 => ?_)
  · have h := h.1 c0
    exact x_retV d_F_tally_30 rfl ⟨rfl, rfl⟩ h
  · have h := h.2 c0
    refine x_aload_n 0 d_F_tally_16 rfl ?_
    refine x_aload_n 1 d_F_tally_17 rfl ?_
    refine x_iload_n 2 d_F_tally_18 rfl ?_
    obtain ⟨h0, h⟩ := h
    refine x_lald d_F_tally_19 rfl (Nf_58 (by decide)) h0 ?_
    refine x_iconst (v := 1) d_F_tally_20 (by decide) ?_
    refine x_callVV (st := []) M_F_addCounts [.long (w.2 10 x2.toNatClampNeg), .int 1] d_F_tally_21 ml_1_25 cv_F_addCounts rfl rfl (Nf_58 (by decide)) rfl (Nat.le_of_ble_eq_true rfl) ⟨Nat.le_of_ble_eq_true rfl, Nat.le_of_ble_eq_true rfl⟩ ⟨rfl, rfl⟩ h (fun w1 h => ?_)
    obtain ⟨a2, ea2⟩ : ∃ z : Int32, z = x2 + 1 := ⟨_, rfl⟩
    have h := h a2 ea2
    refine x_iincE (L' := [(0, .ref 8), (1, .ref 10), (2, .int a2)]) 2 [1, 2, 0] d_F_tally_24 rfl ea2 (by decide) rfl ?_
    refine x_goto 10 d_F_tally_27 (by decide) ?_
    exact h
set_option maxHeartbeats 1000000 in
theorem r_G_isCoprime {x1 : Int32} {w : Wd} {K : Bool → Wd → Prop} (h : E 1 M_G_isCoprime 2 [(0, .ref 1), (1, .int x1), (2, .int 2)] [] w (qZ 1 K)) : RunZ 1 M_G_isCoprime [.ref 1, .int x1] w K := by
  refine runs_of (L := [(0, .ref 1), (1, .int x1)]) rfl (Nat.le_of_ble_eq_true rfl) rfl ?_
  refine x_iconst (v := 2) d_G_isCoprime_0 (by decide) ?_
  refine x_istore_n (L' := [(0, .ref 1), (1, .int x1), (2, .int 2)]) [1, 2, 0] d_G_isCoprime_1 (by decide) rfl ?_
  exact h
set_option maxHeartbeats 1000000 in
theorem w_G_isCoprime_2 {x1 x2 : Int32} {w : Wd} {K : Bool → Wd → Prop} (h : ((w.1 1 2) < x2 → K true w) ∧ (¬ (w.1 1 2) < x2 → (¬ x2 = 0) ∧ (¬ (x1 - x1 / x2 * x2) = 0 → ∀ a1 : Int32, a1 = x2 + 1 → E 1 M_G_isCoprime 2 [(0, .ref 1), (1, .int x1), (2, .int a1)] [] w (qZ 1 K)) ∧ ((x1 - x1 / x2 * x2) = 0 → (¬ x2 = 0) ∧ (¬ ((w.1 1 2) - (w.1 1 2) / x2 * x2) = 0 → ∀ a2 : Int32, a2 = x2 + 1 → E 1 M_G_isCoprime 2 [(0, .ref 1), (1, .int x1), (2, .int a2)] [] w (qZ 1 K)) ∧ (((w.1 1 2) - (w.1 1 2) / x2 * x2) = 0 → K false w)))) : E 1 M_G_isCoprime 2 [(0, .ref 1), (1, .int x1), (2, .int x2)] [] w (qZ 1 K) := by
  refine x_iload_n 2 d_G_isCoprime_2 rfl ?_
  refine x_aload_n 0 d_G_isCoprime_3 rfl ?_
  refine x_getI 5 2 d_G_isCoprime_4 fg_5_37 rfl rfl (Nf_58 (by decide)) ?_
  refine x_icmp_gt 33 d_G_isCoprime_7 (by decide) (fun c0 => ?_) (fun c0 => ?_)
  · have h := h.1 c0
    refine x_iconst (v := 1) d_G_isCoprime_33 (by decide) ?_
    exact x_retZ (z := true) d_G_isCoprime_34 rfl rfl ⟨rfl, rfl⟩ h
  · have h := h.2 c0
    refine x_iload_n 1 d_G_isCoprime_10 rfl ?_
    refine x_iload_n 2 d_G_isCoprime_11 rfl ?_
    obtain ⟨h0, h⟩ := h
    refine x_irem d_G_isCoprime_12 h0 ?_
    refine x_if_ne 27 d_G_isCoprime_13 (by decide) (fun c0 => ?_) (fun c0 => ?_)
    · have h := h.1 c0
      obtain ⟨a1, ea1⟩ : ∃ z : Int32, z = x2 + 1 := ⟨_, rfl⟩
      have h := h a1 ea1
      refine x_iincE (L' := [(0, .ref 1), (1, .int x1), (2, .int a1)]) 2 [1, 2, 0] d_G_isCoprime_27 rfl ea1 (by decide) rfl ?_
      refine x_goto 2 d_G_isCoprime_30 (by decide) ?_
      exact h
    · have h := h.2 c0
      refine x_aload_n 0 d_G_isCoprime_16 rfl ?_
      refine x_getI 5 2 d_G_isCoprime_17 fg_5_37 rfl rfl (Nf_58 (by decide)) ?_
      refine x_iload_n 2 d_G_isCoprime_20 rfl ?_
      obtain ⟨h0, h⟩ := h
      refine x_irem d_G_isCoprime_21 h0 ?_
      refine x_if_ne 27 d_G_isCoprime_22 (by decide) (fun c0 => ?_) (fun c0 => ?_)
      · have h := h.1 c0
        obtain ⟨a2, ea2⟩ : ∃ z : Int32, z = x2 + 1 := ⟨_, rfl⟩
        have h := h a2 ea2
        refine x_iincE (L' := [(0, .ref 1), (1, .int x1), (2, .int a2)]) 2 [1, 2, 0] d_G_isCoprime_27 rfl ea2 (by decide) rfl ?_
        refine x_goto 2 d_G_isCoprime_30 (by decide) ?_
        exact h
      · have h := h.2 c0
        refine x_iconst (v := 0) d_G_isCoprime_25 (by decide) ?_
        exact x_retZ (z := false) d_G_isCoprime_26 rfl rfl ⟨rfl, rfl⟩ h
