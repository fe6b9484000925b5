set_option maxHeartbeats 1000000 in
theorem r_N_isComplete {x1 : Int32} {w : Wd} {K : Bool → Wd → Prop} (h : E 1 M_N_isComplete 2 [(0, .ref 24), (1, .int x1), (2, .int 1)] [] w (qZ 1 K)) : RunZ 1 M_N_isComplete [.ref 24, .int x1] w K := by
  refine runs_of (L := [(0, .ref 24), (1, .int x1)]) rfl (Nat.le_of_ble_eq_true rfl) rfl ?_
  refine x_iconst (v := 1) d_N_isComplete_0 (by decide) ?_
  refine x_istore_n (L' := [(0, .ref 24), (1, .int x1), (2, .int 1)]) [1, 2, 0] d_N_isComplete_1 (by decide) rfl ?_
  exact h
set_option maxHeartbeats 1000000 in
theorem w_N_isComplete_2 {x1 x2 : Int32} {w : Wd} {K : Bool → Wd → Prop} (h : ((w.1 1 2) ≤ x2 → K true w) ∧ (¬ (w.1 1 2) ≤ x2 → vp_in ((x1 * 40) + x2) 200 ∧ vp_in x2 40 ∧ ((w.1 28 ((x1 * 40) + x2).toNatClampNeg) = (w.1 27 x2.toNatClampNeg) → ∀ a1 : Int32, a1 = x2 + 1 → E 1 M_N_isComplete 2 [(0, .ref 24), (1, .int x1), (2, .int a1)] [] w (qZ 1 K)) ∧ (¬ (w.1 28 ((x1 * 40) + x2).toNatClampNeg) = (w.1 27 x2.toNatClampNeg) → K false w))) : E 1 M_N_isComplete 2 [(0, .ref 24), (1, .int x1), (2, .int x2)] [] w (qZ 1 K) := by
  refine x_iload_n 2 d_N_isComplete_2 rfl ?_
  refine x_aload_n 0 d_N_isComplete_3 rfl ?_
  refine x_getR 4 0 1 d_N_isComplete_4 fg_4_34 rfl rfl rfl (Nf_58 (by decide)) ?_
  refine x_getI 5 2 d_N_isComplete_7 fg_4_48 rfl rfl (Nf_58 (by decide)) ?_
  refine x_icmp_ge 41 d_N_isComplete_10 (by decide) (fun c0 => ?_) (fun c0 => ?_)
  · have h := h.1 c0
    refine x_iconst (v := 1) d_N_isComplete_41 (by decide) ?_
    exact x_retZ (z := true) d_N_isComplete_42 rfl rfl ⟨rfl, rfl⟩ h
  · have h := h.2 c0
    refine x_aload_n 0 d_N_isComplete_13 rfl ?_
    refine x_getR 4 4 28 d_N_isComplete_14 fg_4_22 rfl rfl rfl (Nf_58 (by decide)) ?_
    refine x_iload_n 1 d_N_isComplete_17 rfl ?_
    refine x_bipush (v := 40) d_N_isComplete_18 (by decide) ?_
    refine x_imul d_N_isComplete_20 ?_
    refine x_iload_n 2 d_N_isComplete_21 rfl ?_
    refine x_iadd d_N_isComplete_22 ?_
    obtain ⟨h0, h⟩ := h
    refine x_iald d_N_isComplete_23 rfl (Nf_58 (by decide)) h0 ?_
    refine x_aload_n 0 d_N_isComplete_24 rfl ?_
    refine x_getR 4 3 27 d_N_isComplete_25 fg_4_19 rfl rfl rfl (Nf_58 (by decide)) ?_
    refine x_iload_n 2 d_N_isComplete_28 rfl ?_
    obtain ⟨h0, h⟩ := h
    refine x_iald d_N_isComplete_29 rfl (Nf_58 (by decide)) h0 ?_
    refine x_icmp_eq 35 d_N_isComplete_30 (by decide) (fun c0 => ?_) (fun c0 => ?_)
    · have h := h.1 c0
      obtain ⟨a1, ea1⟩ : ∃ z : Int32, z = x2 + 1 := ⟨_, rfl⟩
      have h := h a1 ea1
      refine x_iincE (L' := [(0, .ref 24), (1, .int x1), (2, .int a1)]) 2 [1, 2, 0] d_N_isComplete_35 rfl ea1 (by decide) rfl ?_
      refine x_goto 2 d_N_isComplete_38 (by decide) ?_
      exact h
    · have h := h.2 c0
      refine x_iconst (v := 0) d_N_isComplete_33 (by decide) ?_
      exact x_retZ (z := false) d_N_isComplete_34 rfl rfl ⟨rfl, rfl⟩ h
set_option maxHeartbeats 1000000 in
theorem r_N_noteSolution {x1 : Int32} {w : Wd} {K : Wd → Prop} (h : (¬ (w.1 24 10) = 0 → ∀ w1 : Wd, w1 = upI w 24 10 ((w.1 24 10) + 1) → K w1) ∧ ((w.1 24 10) = 0 → ((¬ (0 : Int32) < 0) ∧ (¬ (0 : Int32) < 0) ∧ (¬ x1 < 0) ∧ (0 : Int32).toNatClampNeg + x1.toNatClampNeg ≤ 4 ∧ (0 : Int32).toNatClampNeg + x1.toNatClampNeg ≤ 6) ∧ ∀ w2 : Wd, w2 = cpL w 30 31 (0 : Int32).toNatClampNeg (0 : Int32).toNatClampNeg x1.toNatClampNeg → ∀ w3 : Wd, w3 = upI w2 24 10 ((w2.1 24 10) + 1) → K w3)) : RunV 1 M_N_noteSolution [.ref 24, .int x1] w K := by
  refine runs_of (L := [(0, .ref 24), (1, .int x1)]) rfl (Nat.le_of_ble_eq_true rfl) rfl ?_
  refine x_aload_n 0 d_N_noteSolution_0 rfl ?_
  refine x_getI 4 10 d_N_noteSolution_1 fg_4_45 rfl rfl (Nf_58 (by decide)) ?_
  refine x_if_ne 21 d_N_noteSolution_4 (by decide) (fun c0 => ?_) (fun c0 => ?_)
  · have h := h.1 c0
    refine x_aload_n 0 d_N_noteSolution_21 rfl ?_
    refine x_dup d_N_noteSolution_22 rfl ?_
    refine x_getI 4 10 d_N_noteSolution_23 fg_4_45 rfl rfl (Nf_58 (by decide)) ?_
    refine x_iconst (v := 1) d_N_noteSolution_26 (by decide) ?_
    refine x_iadd d_N_noteSolution_27 ?_
    refine x_putIE 4 10 d_N_noteSolution_28 fp_4_45 rfl rfl (Nf_58 (by decide)) (fun w1 ew1 => ?_)
    have h := h w1 ew1
    exact x_retV d_N_noteSolution_31 rfl ⟨rfl, rfl⟩ h
  · have h := h.2 c0
    refine x_aload_n 0 d_N_noteSolution_7 rfl ?_
    refine x_getR 4 6 30 d_N_noteSolution_8 fg_4_28 rfl rfl rfl (Nf_58 (by decide)) ?_
    refine x_iconst (v := 0) d_N_noteSolution_11 (by decide) ?_
    refine x_aload_n 0 d_N_noteSolution_12 rfl ?_
    refine x_getR 4 7 31 d_N_noteSolution_13 fg_4_31 rfl rfl rfl (Nf_58 (by decide)) ?_
    refine x_iconst (v := 0) d_N_noteSolution_16 (by decide) ?_
    refine x_iload_n 1 d_N_noteSolution_17 rfl ?_
    obtain ⟨h0, h⟩ := h
    refine x_copyE d_N_noteSolution_18 cp_4_122 rfl rfl (Nf_58 (by decide)) (Nf_58 (by decide)) h0 (Nat.le_of_ble_eq_true rfl) ⟨Nat.le_of_ble_eq_true rfl, Nat.le_of_ble_eq_true rfl⟩ (fun w2 ew2 => ?_)
    have h := h w2 ew2
    refine x_aload_n 0 d_N_noteSolution_21 rfl ?_
    refine x_dup d_N_noteSolution_22 rfl ?_
    refine x_getI 4 10 d_N_noteSolution_23 fg_4_45 rfl rfl (Nf_58 (by decide)) ?_
    refine x_iconst (v := 1) d_N_noteSolution_26 (by decide) ?_
    refine x_iadd d_N_noteSolution_27 ?_
    refine x_putIE 4 10 d_N_noteSolution_28 fp_4_45 rfl rfl (Nf_58 (by decide)) (fun w3 ew3 => ?_)
    have h := h w3 ew3
    exact x_retV d_N_noteSolution_31 rfl ⟨rfl, rfl⟩ h
set_option maxHeartbeats 1000000 in
theorem r_N_tryNext {x1 x2 : Int32} {w : Wd} {K : Int32 → Wd → Prop} (h : vp_in x1 4 ∧ ∀ a1 : Int32, a1 = w.1 29 x1.toNatClampNeg → vp_in x1 4 ∧ vp_in x1 4 ∧ ∀ w2 : Wd, w2 = upI w 29 x1.toNatClampNeg ((w.1 29 x1.toNatClampNeg) + 1) → ∀ w3 : Wd, w3 = upI w2 24 9 ((w2.1 24 9) + 1) → vp_in a1 2130 ∧ vp_in x1 4 ∧ ∀ w4 : Wd, w4 = upL w3 30 x1.toNatClampNeg (w3.2 25 a1.toNatClampNeg) → vp_in a1 2130 ∧ RunZ 1 M_N_fits [.ref 24, .int x1, .long (w4.2 25 a1.toNatClampNeg)] w4 (fun z6 w5 => (z6 = true → (x2 ≤ (x1 + 1) → RunZ 1 M_N_isComplete [.ref 24, .int x2] w5 (fun z8 w7 => (z8 = false → K x1 w7) ∧ (z8 = true → RunV 1 M_N_noteSolution [.ref 24, .int x2] w7 (fun w9 => K x1 w9)))) ∧ (¬ x2 ≤ (x1 + 1) → vp_in (x1 + 1) 4 ∧ ∀ w10 : Wd, w10 = upI w5 29 (x1 + 1).toNatClampNeg a1 → K (x1 + 1) w10)) ∧ (z6 = false → K x1 w5))) : RunI 1 M_N_tryNext [.ref 24, .int x1, .int x2] w K := by
  refine runs_of (L := [(0, .ref 24), (1, .int x1), (2, .int x2)]) rfl (Nat.le_of_ble_eq_true rfl) rfl ?_
  refine x_aload_n 0 d_N_tryNext_0 rfl ?_
  refine x_getR 4 5 29 d_N_tryNext_1 fg_4_25 rfl rfl rfl (Nf_58 (by decide)) ?_
  refine x_iload_n 1 d_N_tryNext_4 rfl ?_
  obtain ⟨h0, h⟩ := h
  refine x_iald d_N_tryNext_5 rfl (Nf_58 (by decide)) h0 ?_
  obtain ⟨a1, ea1⟩ : ∃ z : Int32, z = w.1 29 x1.toNatClampNeg := ⟨_, rfl⟩
  have h := h a1 ea1
  refine x_istore_nE (L' := [(0, .ref 24), (1, .int x1), (2, .int x2), (3, .int a1)]) [1, 2, 3, 0] d_N_tryNext_6 (by decide) ea1 rfl ?_
  refine x_aload_n 0 d_N_tryNext_7 rfl ?_
  refine x_getR 4 5 29 d_N_tryNext_8 fg_4_25 rfl rfl rfl (Nf_58 (by decide)) ?_
  refine x_iload_n 1 d_N_tryNext_11 rfl ?_
  refine x_dup2 d_N_tryNext_12 rfl rfl ?_
  obtain ⟨h0, h⟩ := h
  refine x_iald d_N_tryNext_13 rfl (Nf_58 (by decide)) h0 ?_
  refine x_iconst (v := 1) d_N_tryNext_14 (by decide) ?_
  refine x_iadd d_N_tryNext_15 ?_
  obtain ⟨h0, h⟩ := h
  refine x_iastE d_N_tryNext_16 rfl (Nf_58 (by decide)) h0 (fun w2 ew2 => ?_)
  have h := h w2 ew2
  refine x_aload_n 0 d_N_tryNext_17 rfl ?_
  refine x_dup d_N_tryNext_18 rfl ?_
  refine x_getI 4 9 d_N_tryNext_19 fg_4_42 rfl rfl (Nf_58 (by decide)) ?_
  refine x_iconst (v := 1) d_N_tryNext_22 (by decide) ?_
  refine x_iadd d_N_tryNext_23 ?_
  refine x_putIE 4 9 d_N_tryNext_24 fp_4_42 rfl rfl (Nf_58 (by decide)) (fun w3 ew3 => ?_)
  have h := h w3 ew3
  refine x_aload_n 0 d_N_tryNext_27 rfl ?_
  refine x_getR 4 6 30 d_N_tryNext_28 fg_4_28 rfl rfl rfl (Nf_58 (by decide)) ?_
  refine x_iload_n 1 d_N_tryNext_31 rfl ?_
  refine x_aload_n 0 d_N_tryNext_32 rfl ?_
  refine x_getR 4 1 25 d_N_tryNext_33 fg_4_11 rfl rfl rfl (Nf_58 (by decide)) ?_
  refine x_iload_n 3 d_N_tryNext_36 rfl ?_
  obtain ⟨h0, h⟩ := h
  refine x_lald d_N_tryNext_37 rfl (Nf_58 (by decide)) h0 ?_
  obtain ⟨h0, h⟩ := h
  refine x_lastE d_N_tryNext_38 rfl (Nf_58 (by decide)) h0 (fun w4 ew4 => ?_)
  have h := h w4 ew4
  refine x_aload_n 0 d_N_tryNext_39 rfl ?_
  refine x_iload_n 1 d_N_tryNext_40 rfl ?_
  refine x_aload_n 0 d_N_tryNext_41 rfl ?_
  refine x_getR 4 1 25 d_N_tryNext_42 fg_4_11 rfl rfl rfl (Nf_58 (by decide)) ?_
  refine x_iload_n 3 d_N_tryNext_45 rfl ?_
  obtain ⟨h0, h⟩ := h
  refine x_lald d_N_tryNext_46 rfl (Nf_58 (by decide)) h0 ?_
  refine x_callVZ (st := []) M_N_fits [.int x1, .long (w4.2 25 a1.toNatClampNeg)] d_N_tryNext_47 ml_4_106 cv_N_fits rfl rfl (Nf_58 (by decide)) rfl (Nat.le_of_ble_eq_true rfl) ⟨Nat.le_of_ble_eq_true rfl, Nat.le_of_ble_eq_true rfl⟩ ⟨rfl, rfl⟩ h (fun z6 w5 h => ?_)
  refine x_zif_ne 55 d_N_tryNext_50 (by decide) (fun c0 => ?_) (fun c0 => ?_)
  · have h := h.1 c0
    refine x_iload_n 1 d_N_tryNext_55 rfl ?_
    refine x_iconst (v := 1) d_N_tryNext_56 (by decide) ?_
    refine x_iadd d_N_tryNext_57 ?_
    refine x_iload_n 2 d_N_tryNext_58 rfl ?_
    refine x_icmp_ge 75 d_N_tryNext_59 (by decide) (fun c0 => ?_) (fun c0 => ?_)
    · have h := h.1 c0
      refine x_aload_n 0 d_N_tryNext_75 rfl ?_
      refine x_iload_n 2 d_N_tryNext_76 rfl ?_
      refine x_callVZ (st := []) M_N_isComplete [.int x2] d_N_tryNext_77 ml_4_110 cv_N_isComplete rfl rfl (Nf_58 (by decide)) rfl (Nat.le_of_ble_eq_true rfl) ⟨Nat.le_of_ble_eq_true rfl, Nat.le_of_ble_eq_true rfl⟩ ⟨rfl, rfl⟩ h (fun z8 w7 h => ?_)
      refine x_zif_eq 88 d_N_tryNext_80 (by decide) (fun c0 => ?_) (fun c0 => ?_)
      · have h := h.1 c0
        refine x_iload_n 1 d_N_tryNext_88 rfl ?_
        exact x_retI d_N_tryNext_89 rfl ⟨rfl, rfl⟩ h
      · have h := h.2 c0
        refine x_aload_n 0 d_N_tryNext_83 rfl ?_
        refine x_iload_n 2 d_N_tryNext_84 rfl ?_
        refine x_callVV (st := []) M_N_noteSolution [.int x2] d_N_tryNext_85 ml_4_114 cv_N_noteSolution rfl rfl (Nf_58 (by decide)) rfl (Nat.le_of_ble_eq_true rfl) ⟨Nat.le_of_ble_eq_true rfl, Nat.le_of_ble_eq_true rfl⟩ ⟨rfl, rfl⟩ h (fun w9 h => ?_)
        refine x_iload_n 1 d_N_tryNext_88 rfl ?_
        exact x_retI d_N_tryNext_89 rfl ⟨rfl, rfl⟩ h
    · have h := h.2 c0
      refine x_aload_n 0 d_N_tryNext_62 rfl ?_
      refine x_getR 4 5 29 d_N_tryNext_63 fg_4_25 rfl rfl rfl (Nf_58 (by decide)) ?_
      refine x_iload_n 1 d_N_tryNext_66 rfl ?_
      refine x_iconst (v := 1) d_N_tryNext_67 (by decide) ?_
      refine x_iadd d_N_tryNext_68 ?_
      refine x_iload_n 3 d_N_tryNext_69 rfl ?_
      obtain ⟨h0, h⟩ := h
      refine x_iastE d_N_tryNext_70 rfl (Nf_58 (by decide)) h0 (fun w10 ew10 => ?_)
      have h := h w10 ew10
      refine x_iload_n 1 d_N_tryNext_71 rfl ?_
      refine x_iconst (v := 1) d_N_tryNext_72 (by decide) ?_
      refine x_iadd d_N_tryNext_73 ?_
      exact x_retI d_N_tryNext_74 rfl ⟨rfl, rfl⟩ h
  · have h := h.2 c0
    refine x_iload_n 1 d_N_tryNext_53 rfl ?_
    exact x_retI d_N_tryNext_54 rfl ⟨rfl, rfl⟩ h
set_option maxHeartbeats 1000000 in
theorem r_N_run {x1 x2 : Int32} {w : Wd} {K : Wd → Prop} (h : ∀ w1 : Wd, w1 = upI w 24 9 0 → ∀ w2 : Wd, w2 = upI w1 24 10 0 → RunV 1 M_J_fillL [.ref 31, .long 0] w2 (fun w3 => vp_in (0 : Int32) 4 ∧ ∀ w4 : Wd, w4 = upI w3 29 (0 : Int32).toNatClampNeg 0 → ∀ a5 : Int32, a5 = (2 * x2) + 1 → E 1 M_N_run 37 [(0, .ref 24), (1, .int x1), (2, .int x2), (3, .int 0), (4, .int a5), (5, .int 0)] [] w4 (qV 1 K))) : RunV 1 M_N_run [.ref 24, .int x1, .int x2] w K := by
  refine runs_of (L := [(0, .ref 24), (1, .int x1), (2, .int x2)]) rfl (Nat.le_of_ble_eq_true rfl) rfl ?_
  refine x_aload_n 0 d_N_run_0 rfl ?_
  refine x_iconst (v := 0) d_N_run_1 (by decide) ?_
  refine x_putIE 4 9 d_N_run_2 fp_4_42 rfl rfl (Nf_58 (by decide)) (fun w1 ew1 => ?_)
  have h := h w1 ew1
  refine x_aload_n 0 d_N_run_5 rfl ?_
  refine x_iconst (v := 0) d_N_run_6 (by decide) ?_
  refine x_putIE 4 10 d_N_run_7 fp_4_45 rfl rfl (Nf_58 (by decide)) (fun w2 ew2 => ?_)
  have h := h w2 ew2
  refine x_aload_n 0 d_N_run_10 rfl ?_
  refine x_getR 4 7 31 d_N_run_11 fg_4_31 rfl rfl rfl (Nf_58 (by decide)) ?_
  refine x_lconst (v := 0) d_N_run_14 (by decide) ?_
  refine x_callSV (st := []) M_J_fillL [.ref 31, .long 0] d_N_run_15 ml_4_96 cv_J_fillL rfl (Nat.le_of_ble_eq_true rfl) ⟨Nat.le_of_ble_eq_true rfl, Nat.le_of_ble_eq_true rfl⟩ ⟨rfl, rfl⟩ h (fun w3 h => ?_)
  refine x_aload_n 0 d_N_run_18 rfl ?_
  refine x_getR 4 5 29 d_N_run_19 fg_4_25 rfl rfl rfl (Nf_58 (by decide)) ?_
  refine x_iconst (v := 0) d_N_run_22 (by decide) ?_
  refine x_iconst (v := 0) d_N_run_23 (by decide) ?_
  obtain ⟨h0, h⟩ := h
  refine x_iastE d_N_run_24 rfl (Nf_58 (by decide)) h0 (fun w4 ew4 => ?_)
  have h := h w4 ew4
  refine x_iconst (v := 0) d_N_run_25 (by decide) ?_
  refine x_istore_n (L' := [(0, .ref 24), (1, .int x1), (2, .int x2), (3, .int 0)]) [1, 2, 3, 0] d_N_run_26 (by decide) rfl ?_
  refine x_iconst (v := 2) d_N_run_27 (by decide) ?_
  refine x_iload_n 2 d_N_run_28 rfl ?_
  refine x_imul d_N_run_29 ?_
  refine x_iconst (v := 1) d_N_run_30 (by decide) ?_
  refine x_iadd d_N_run_31 ?_
  obtain ⟨a5, ea5⟩ : ∃ z : Int32, z = (2 * x2) + 1 := ⟨_, rfl⟩
  have h := h a5 ea5
  refine x_istoreE (L' := [(0, .ref 24), (1, .int x1), (2, .int x2), (3, .int 0), (4, .int a5)]) [1, 2, 3, 4, 0] d_N_run_32 (by decide) ea5 rfl ?_
  refine x_iconst (v := 0) d_N_run_34 (by decide) ?_
  refine x_istore (L' := [(0, .ref 24), (1, .int x1), (2, .int x2), (3, .int 0), (4, .int a5), (5, .int 0)]) [1, 2, 3, 4, 5, 0] d_N_run_35 (by decide) rfl ?_
  exact h
set_option maxHeartbeats 1000000 in
theorem w_N_run_37 {x1 x2 x3 x4 x5 : Int32} {w : Wd} {K : Wd → Prop} (h : (x4 ≤ x5 → K w) ∧ (¬ x4 ≤ x5 → (x3 < 0 → K w) ∧ (¬ x3 < 0 → (x2 ≤ (w.1 24 9) → K w) ∧ (¬ x2 ≤ (w.1 24 9) → vp_in x3 4 ∧ ((w.1 24 8) ≤ (w.1 29 x3.toNatClampNeg) → ∀ a1 : Int32, a1 = x3 + (-1) → ∀ a2 : Int32, a2 = x5 + 1 → E 1 M_N_run 37 [(0, .ref 24), (1, .int x1), (2, .int x2), (3, .int a1), (4, .int x4), (5, .int a2)] [] w (qV 1 K)) ∧ (¬ (w.1 24 8) ≤ (w.1 29 x3.toNatClampNeg) → RunI 1 M_N_tryNext [.ref 24, .int x3, .int x1] w (fun r4 w3 => ∀ a5 : Int32, a5 = x5 + 1 → E 1 M_N_run 37 [(0, .ref 24), (1, .int x1), (2, .int x2), (3, .int r4), (4, .int x4), (5, .int a5)] [] w3 (qV 1 K))))))) : E 1 M_N_run 37 [(0, .ref 24), (1, .int x1), (2, .int x2), (3, .int x3), (4, .int x4), (5, .int x5)] [] w (qV 1 K) := by
  refine x_iload 5 d_N_run_37 rfl ?_
  refine x_iload 4 d_N_run_39 rfl ?_
  refine x_icmp_ge 88 d_N_run_41 (by decide) (fun c0 => ?_) (fun c0 => ?_)
  · have h := h.1 c0
    exact x_retV d_N_run_88 rfl ⟨rfl, rfl⟩ h
  · have h := h.2 c0
    refine x_iload_n 3 d_N_run_44 rfl ?_
    refine x_if_lt 88 d_N_run_45 (by decide) (fun c0 => ?_) (fun c0 => ?_)
    · have h := h.1 c0
      exact x_retV d_N_run_88 rfl ⟨rfl, rfl⟩ h
    · have h := h.2 c0
      refine x_aload_n 0 d_N_run_48 rfl ?_
      refine x_getI 4 9 d_N_run_49 fg_4_42 rfl rfl (Nf_58 (by decide)) ?_
      refine x_iload_n 2 d_N_run_52 rfl ?_
      refine x_icmp_ge 88 d_N_run_53 (by decide) (fun c0 => ?_) (fun c0 => ?_)
      · have h := h.1 c0
        exact x_retV d_N_run_88 rfl ⟨rfl, rfl⟩ h
      · have h := h.2 c0
        refine x_aload_n 0 d_N_run_56 rfl ?_
        refine x_getR 4 5 29 d_N_run_57 fg_4_25 rfl rfl rfl (Nf_58 (by decide)) ?_
        refine x_iload_n 3 d_N_run_60 rfl ?_
        obtain ⟨h0, h⟩ := h
        refine x_iald d_N_run_61 rfl (Nf_58 (by decide)) h0 ?_
        refine x_aload_n 0 d_N_run_62 rfl ?_
        refine x_getI 4 8 d_N_run_63 fg_4_38 rfl rfl (Nf_58 (by decide)) ?_
        refine x_icmp_ge 79 d_N_run_66 (by decide) (fun c0 => ?_) (fun c0 => ?_)
        · have h := h.1 c0
          obtain ⟨a1, ea1⟩ : ∃ z : Int32, z = x3 + (-1) := ⟨_, rfl⟩
          have h := h a1 ea1
          refine x_iincE (L' := [(0, .ref 24), (1, .int x1), (2, .int x2), (3, .int a1), (4, .int x4), (5, .int x5)]) 3 [1, 2, 3, 0, 4, 5] d_N_run_79 rfl ea1 (by decide) rfl ?_
          obtain ⟨a2, ea2⟩ : ∃ z : Int32, z = x5 + 1 := ⟨_, rfl⟩
          have h := h a2 ea2
          refine x_iincE (L' := [(0, .ref 24), (1, .int x1), (2, .int x2), (3, .int a1), (4, .int x4), (5, .int a2)]) 5 [1, 2, 3, 4, 5, 0] d_N_run_82 rfl ea2 (by decide) rfl ?_
          refine x_goto 37 d_N_run_85 (by decide) ?_
          exact h
        · have h := h.2 c0
          refine x_aload_n 0 d_N_run_69 rfl ?_
          refine x_iload_n 3 d_N_run_70 rfl ?_
          refine x_iload_n 1 d_N_run_71 rfl ?_
          refine x_callVI (st := []) M_N_tryNext [.int x3, .int x1] d_N_run_72 ml_4_102 cv_N_tryNext rfl rfl (Nf_58 (by decide)) rfl (Nat.le_of_ble_eq_true rfl) ⟨Nat.le_of_ble_eq_true rfl, Nat.le_of_ble_eq_true rfl⟩ ⟨rfl, rfl⟩ h (fun r4 w3 h => ?_)
          refine x_istore_n (L' := [(0, .ref 24), (1, .int x1), (2, .int x2), (3, .int r4), (4, .int x4), (5, .int x5)]) [1, 2, 3, 0, 4, 5] d_N_run_75 (by decide) rfl ?_
          refine x_goto 82 d_N_run_76 (by decide) ?_
          obtain ⟨a5, ea5⟩ : ∃ z : Int32, z = x5 + 1 := ⟨_, rfl⟩
          have h := h a5 ea5
          refine x_iincE (L' := [(0, .ref 24), (1, .int x1), (2, .int x2), (3, .int r4), (4, .int x4), (5, .int a5)]) 5 [1, 2, 3, 4, 5, 0] d_N_run_82 rfl ea5 (by decide) rfl ?_
          refine x_goto 37 d_N_run_85 (by decide) ?_
          exact h
set_option maxHeartbeats 1000000 in
theorem r_A_search {x1 x2 x3 x4 x5 : Int32} {w : Wd} {K : Int32 → Wd → Prop} (h : RunZ 1 M_A_isWithin [.int x1, .int 2, .int 5] w (fun z2 w1 => (z2 = false → K ((-1)) w1) ∧ (z2 = true → RunZ 1 M_A_isWithin [.int x2, .int 1, .int 9] w1 (fun z4 w3 => (z4 = false → K ((-1)) w3) ∧ (z4 = true → RunZ 1 M_A_isWithin [.int x3, .int 1, .int 4] w3 (fun z6 w5 => (z6 = true → RunZ 1 M_A_isWithin [.int x4, .int 1, .int ((w5.1 1 2) - 1)] w5 (fun z8 w7 => (z8 = false → K ((-1)) w7) ∧ (z8 = true → RunZ 1 M_A_isWithin [.int x5, .int 1, .int 5000] w7 (fun z10 w9 => (z10 = true → RunZ 1 M_G_isCoprime [.ref 1, .int x4] w9 (fun z12 w11 => (z12 = true → ((w11.1 1 2) ≤ 25 → RunV 1 M_N_setLimits [.ref 24, .long (w11.2 0 12), .int x2] w11 (fun w13 => RunV 1 M_N_listCandidates [.ref 24, .int x1, .int x4] w13 (fun w14 => RunV 1 M_N_run [.ref 24, .int x3, .int x5] w14 (fun w15 => K (w15.1 24 10) w15)))) ∧ (¬ (w11.1 1 2) ≤ 25 → K ((-3)) w11)) ∧ (z12 = false → K ((-1)) w11))) ∧ (z10 = false → K ((-1)) w9))))) ∧ (z6 = false → K ((-1)) w5))))))) : RunI 1 M_A_search [.ref 0, .int x1, .int x2, .int x3, .int x4, .int x5] w K := by
  refine runs_of (L := [(0, .ref 0), (1, .int x1), (2, .int x2), (3, .int x3), (4, .int x4), (5, .int x5)]) rfl (Nat.le_of_ble_eq_true rfl) rfl ?_
  refine x_iload_n 1 d_A_search_0 rfl ?_
  refine x_iconst (v := 2) d_A_search_1 (by decide) ?_
  refine x_iconst (v := 5) d_A_search_2 (by decide) ?_
  refine x_callSZ (st := []) M_A_isWithin [.int x1, .int 2, .int 5] d_A_search_3 ml_10_128 cv_A_isWithin rfl (Nat.le_of_ble_eq_true rfl) ⟨Nat.le_of_ble_eq_true rfl, Nat.le_of_ble_eq_true rfl⟩ ⟨rfl, rfl⟩ h (fun z2 w1 h => ?_)
  refine x_zif_eq 28 d_A_search_6 (by decide) (fun c0 => ?_) (fun c0 => ?_)
  · have h := h.1 c0
    refine x_iconst (v := (-1)) d_A_search_28 (by decide) ?_
    exact x_retI d_A_search_29 rfl ⟨rfl, rfl⟩ h
  · have h := h.2 c0
    refine x_iload_n 2 d_A_search_9 rfl ?_
    refine x_iconst (v := 1) d_A_search_10 (by decide) ?_
    refine x_bipush (v := 9) d_A_search_11 (by decide) ?_
    refine x_callSZ (st := []) M_A_isWithin [.int x2, .int 1, .int 9] d_A_search_13 ml_10_128 cv_A_isWithin rfl (Nat.le_of_ble_eq_true rfl) ⟨Nat.le_of_ble_eq_true rfl, Nat.le_of_ble_eq_true rfl⟩ ⟨rfl, rfl⟩ h (fun z4 w3 h => ?_)
    refine x_zif_eq 28 d_A_search_16 (by decide) (fun c0 => ?_) (fun c0 => ?_)
    · have h := h.1 c0
      refine x_iconst (v := (-1)) d_A_search_28 (by decide) ?_
      exact x_retI d_A_search_29 rfl ⟨rfl, rfl⟩ h
    · have h := h.2 c0
      refine x_iload_n 3 d_A_search_19 rfl ?_
      refine x_iconst (v := 1) d_A_search_20 (by decide) ?_
      refine x_iconst (v := 4) d_A_search_21 (by decide) ?_
      refine x_callSZ (st := []) M_A_isWithin [.int x3, .int 1, .int 4] d_A_search_22 ml_10_128 cv_A_isWithin rfl (Nat.le_of_ble_eq_true rfl) ⟨Nat.le_of_ble_eq_true rfl, Nat.le_of_ble_eq_true rfl⟩ ⟨rfl, rfl⟩ h (fun z6 w5 h => ?_)
      refine x_zif_ne 30 d_A_search_25 (by decide) (fun c0 => ?_) (fun c0 => ?_)
      · have h := h.1 c0
        refine x_iload 4 d_A_search_30 rfl ?_
        refine x_iconst (v := 1) d_A_search_32 (by decide) ?_
        refine x_aload_n 0 d_A_search_33 rfl ?_
        refine x_getR 10 0 1 d_A_search_34 fg_10_19 rfl rfl rfl (Nf_58 (by decide)) ?_
        refine x_getI 5 2 d_A_search_37 fg_10_102 rfl rfl (Nf_58 (by decide)) ?_
        refine x_iconst (v := 1) d_A_search_40 (by decide) ?_
        refine x_isub d_A_search_41 ?_
        refine x_callSZ (st := []) M_A_isWithin [.int x4, .int 1, .int ((w5.1 1 2) - 1)] d_A_search_42 ml_10_128 cv_A_isWithin rfl (Nat.le_of_ble_eq_true rfl) ⟨Nat.le_of_ble_eq_true rfl, Nat.le_of_ble_eq_true rfl⟩ ⟨rfl, rfl⟩ h (fun z8 w7 h => ?_)
        refine x_zif_eq 60 d_A_search_45 (by decide) (fun c0 => ?_) (fun c0 => ?_)
        · have h := h.1 c0
          refine x_iconst (v := (-1)) d_A_search_60 (by decide) ?_
          exact x_retI d_A_search_61 rfl ⟨rfl, rfl⟩ h
        · have h := h.2 c0
          refine x_iload 5 d_A_search_48 rfl ?_
          refine x_iconst (v := 1) d_A_search_50 (by decide) ?_
          refine x_sipush (v := 5000) d_A_search_51 (by decide) ?_
          refine x_callSZ (st := []) M_A_isWithin [.int x5, .int 1, .int 5000] d_A_search_54 ml_10_128 cv_A_isWithin rfl (Nat.le_of_ble_eq_true rfl) ⟨Nat.le_of_ble_eq_true rfl, Nat.le_of_ble_eq_true rfl⟩ ⟨rfl, rfl⟩ h (fun z10 w9 h => ?_)
          refine x_zif_ne 62 d_A_search_57 (by decide) (fun c0 => ?_) (fun c0 => ?_)
          · have h := h.1 c0
            refine x_aload_n 0 d_A_search_62 rfl ?_
            refine x_getR 10 0 1 d_A_search_63 fg_10_19 rfl rfl rfl (Nf_58 (by decide)) ?_
            refine x_iload 4 d_A_search_66 rfl ?_
            refine x_callVZ (st := []) M_G_isCoprime [.int x4] d_A_search_68 ml_10_179 cv_G_isCoprime rfl rfl (Nf_58 (by decide)) rfl (Nat.le_of_ble_eq_true rfl) ⟨Nat.le_of_ble_eq_true rfl, Nat.le_of_ble_eq_true rfl⟩ ⟨rfl, rfl⟩ h (fun z12 w11 h => ?_)
            refine x_zif_ne 76 d_A_search_71 (by decide) (fun c0 => ?_) (fun c0 => ?_)
            · have h := h.1 c0
              refine x_aload_n 0 d_A_search_76 rfl ?_
              refine x_getR 10 0 1 d_A_search_77 fg_10_19 rfl rfl rfl (Nf_58 (by decide)) ?_
              refine x_getI 5 2 d_A_search_80 fg_10_102 rfl rfl (Nf_58 (by decide)) ?_
              refine x_bipush (v := 25) d_A_search_83 (by decide) ?_
              refine x_icmp_le 91 d_A_search_85 (by decide) (fun c0 => ?_) (fun c0 => ?_)
              · have h := h.1 c0
                refine x_aload_n 0 d_A_search_91 rfl ?_
                refine x_getR 10 8 24 d_A_search_92 fg_10_73 rfl rfl rfl (Nf_58 (by decide)) ?_
                refine x_aload_n 0 d_A_search_95 rfl ?_
                refine x_getL 10 12 d_A_search_96 fg_10_94 rfl rfl (Nf_58 (by decide)) ?_
                refine x_iload_n 2 d_A_search_99 rfl ?_
                refine x_callVV (st := []) M_N_setLimits [.long (w11.2 0 12), .int x2] d_A_search_100 ml_10_286 cv_N_setLimits rfl rfl (Nf_58 (by decide)) rfl (Nat.le_of_ble_eq_true rfl) ⟨Nat.le_of_ble_eq_true rfl, Nat.le_of_ble_eq_true rfl⟩ ⟨rfl, rfl⟩ h (fun w13 h => ?_)
                refine x_aload_n 0 d_A_search_103 rfl ?_
                refine x_getR 10 8 24 d_A_search_104 fg_10_73 rfl rfl rfl (Nf_58 (by decide)) ?_
                refine x_iload_n 1 d_A_search_107 rfl ?_
                refine x_iload 4 d_A_search_108 rfl ?_
                refine x_callVV (st := []) M_N_listCandidates [.int x1, .int x4] d_A_search_110 ml_10_290 cv_N_listCandidates rfl rfl (Nf_58 (by decide)) rfl (Nat.le_of_ble_eq_true rfl) ⟨Nat.le_of_ble_eq_true rfl, Nat.le_of_ble_eq_true rfl⟩ ⟨rfl, rfl⟩ h (fun w14 h => ?_)
                refine x_aload_n 0 d_A_search_113 rfl ?_
                refine x_getR 10 8 24 d_A_search_114 fg_10_73 rfl rfl rfl (Nf_58 (by decide)) ?_
                refine x_iload_n 3 d_A_search_117 rfl ?_
                refine x_iload 5 d_A_search_118 rfl ?_
                refine x_callVV (st := []) M_N_run [.int x3, .int x5] d_A_search_120 ml_10_293 cv_N_run rfl rfl (Nf_58 (by decide)) rfl (Nat.le_of_ble_eq_true rfl) ⟨Nat.le_of_ble_eq_true rfl, Nat.le_of_ble_eq_true rfl⟩ ⟨rfl, rfl⟩ h (fun w15 h => ?_)
                refine x_aload_n 0 d_A_search_123 rfl ?_
                refine x_getR 10 8 24 d_A_search_124 fg_10_73 rfl rfl rfl (Nf_58 (by decide)) ?_
                refine x_getI 4 10 d_A_search_127 fg_10_296 rfl rfl (Nf_58 (by decide)) ?_
                exact x_retI d_A_search_130 rfl ⟨rfl, rfl⟩ h
              · have h := h.2 c0
                refine x_bipush (v := (-3)) d_A_search_88 (by decide) ?_
                exact x_retI d_A_search_90 rfl ⟨rfl, rfl⟩ h
            · have h := h.2 c0
              refine x_iconst (v := (-1)) d_A_search_74 (by decide) ?_
              exact x_retI d_A_search_75 rfl ⟨rfl, rfl⟩ h
          · have h := h.2 c0
            refine x_iconst (v := (-1)) d_A_search_60 (by decide) ?_
            exact x_retI d_A_search_61 rfl ⟨rfl, rfl⟩ h
      · have h := h.2 c0
        refine x_iconst (v := (-1)) d_A_search_28 (by decide) ?_
        exact x_retI d_A_search_29 rfl ⟨rfl, rfl⟩ h
set_option maxHeartbeats 1000000 in
theorem r_A_searchSteps {w : Wd} {K : Int32 → Wd → Prop} (h : K (w.1 24 9) w) : RunI 1 M_A_searchSteps [.ref 0] w K := by
  refine runs_of (L := [(0, .ref 0)]) rfl (Nat.le_of_ble_eq_true rfl) rfl ?_
  refine x_aload_n 0 d_A_searchSteps_0 rfl ?_
  refine x_getR 10 8 24 d_A_searchSteps_1 fg_10_73 rfl rfl rfl (Nf_58 (by decide)) ?_
  refine x_getI 4 9 d_A_searchSteps_4 fg_10_299 rfl rfl (Nf_58 (by decide)) ?_
  exact x_retI d_A_searchSteps_7 rfl ⟨rfl, rfl⟩ h
set_option maxHeartbeats 1000000 in
theorem r_G_isPossible {x0 x1 : Int32} {w : Wd} {K : Bool → Wd → Prop} (h : (x0 < 2 → K false w) ∧ (¬ x0 < 2 → (x1 < 1 → K false w) ∧ (¬ x1 < 1 → (40 < x0 → K false w) ∧ (¬ 40 < x0 → (40 < x1 → K false w) ∧ (¬ 40 < x1 → (40 < (x0 * x1) → K false w) ∧ (¬ 40 < (x0 * x1) → K true w)))))) : RunZ 1 M_G_isPossible [.int x0, .int x1] w K := by
  refine runs_of (L := [(0, .int x0), (1, .int x1)]) rfl (Nat.le_of_ble_eq_true rfl) rfl ?_
  refine x_iload_n 0 d_G_isPossible_0 rfl ?_
  refine x_iconst (v := 2) d_G_isPossible_1 (by decide) ?_
  refine x_icmp_lt 34 d_G_isPossible_2 (by decide) (fun c0 => ?_) (fun c0 => ?_)
  · have h := h.1 c0
    refine x_iconst (v := 0) d_G_isPossible_34 (by decide) ?_
    exact x_retZ (z := false) d_G_isPossible_35 rfl rfl ⟨rfl, rfl⟩ h
  · have h := h.2 c0
    refine x_iload_n 1 d_G_isPossible_5 rfl ?_
    refine x_iconst (v := 1) d_G_isPossible_6 (by decide) ?_
    refine x_icmp_lt 34 d_G_isPossible_7 (by decide) (fun c0 => ?_) (fun c0 => ?_)
    · have h := h.1 c0
      refine x_iconst (v := 0) d_G_isPossible_34 (by decide) ?_
      exact x_retZ (z := false) d_G_isPossible_35 rfl rfl ⟨rfl, rfl⟩ h
    · have h := h.2 c0
      refine x_iload_n 0 d_G_isPossible_10 rfl ?_
      refine x_bipush (v := 40) d_G_isPossible_11 (by decide) ?_
      refine x_icmp_gt 34 d_G_isPossible_13 (by decide) (fun c0 => ?_) (fun c0 => ?_)
      · have h := h.1 c0
        refine x_iconst (v := 0) d_G_isPossible_34 (by decide) ?_
        exact x_retZ (z := false) d_G_isPossible_35 rfl rfl ⟨rfl, rfl⟩ h
      · have h := h.2 c0
        refine x_iload_n 1 d_G_isPossible_16 rfl ?_
        refine x_bipush (v := 40) d_G_isPossible_17 (by decide) ?_
        refine x_icmp_gt 34 d_G_isPossible_19 (by decide) (fun c0 => ?_) (fun c0 => ?_)
        · have h := h.1 c0
          refine x_iconst (v := 0) d_G_isPossible_34 (by decide) ?_
          exact x_retZ (z := false) d_G_isPossible_35 rfl rfl ⟨rfl, rfl⟩ h
        · have h := h.2 c0
          refine x_iload_n 0 d_G_isPossible_22 rfl ?_
          refine x_iload_n 1 d_G_isPossible_23 rfl ?_
          refine x_imul d_G_isPossible_24 ?_
          refine x_bipush (v := 40) d_G_isPossible_25 (by decide) ?_
          refine x_icmp_gt 34 d_G_isPossible_27 (by decide) (fun c0 => ?_) (fun c0 => ?_)
          · have h := h.1 c0
            refine x_iconst (v := 0) d_G_isPossible_34 (by decide) ?_
            exact x_retZ (z := false) d_G_isPossible_35 rfl rfl ⟨rfl, rfl⟩ h
          · have h := h.2 c0
            refine x_iconst (v := 1) d_G_isPossible_30 (by decide) ?_
            refine x_goto 35 d_G_isPossible_31 (by decide) ?_
            exact x_retZ (z := true) d_G_isPossible_35 rfl rfl ⟨rfl, rfl⟩ h
set_option maxHeartbeats 1000000 in
theorem r_N_forget {w : Wd} {K : Wd → Prop} (h : ∀ w1 : Wd, w1 = upI w 24 8 0 → ∀ w2 : Wd, w2 = upI w1 24 9 0 → ∀ w3 : Wd, w3 = upI w2 24 10 0 → K w3) : RunV 1 M_N_forget [.ref 24] w K := by
  refine runs_of (L := [(0, .ref 24)]) rfl (Nat.le_of_ble_eq_true rfl) rfl ?_
  refine x_aload_n 0 d_N_forget_0 rfl ?_
  refine x_iconst (v := 0) d_N_forget_1 (by decide) ?_
  refine x_putIE 4 8 d_N_forget_2 fp_4_38 rfl rfl (Nf_58 (by decide)) (fun w1 ew1 => ?_)
  have h := h w1 ew1
  refine x_aload_n 0 d_N_forget_5 rfl ?_
  refine x_iconst (v := 0) d_N_forget_6 (by decide) ?_
  refine x_putIE 4 9 d_N_forget_7 fp_4_42 rfl rfl (Nf_58 (by decide)) (fun w2 ew2 => ?_)
  have h := h w2 ew2
  refine x_aload_n 0 d_N_forget_10 rfl ?_
  refine x_iconst (v := 0) d_N_forget_11 (by decide) ?_
  refine x_putIE 4 10 d_N_forget_12 fp_4_45 rfl rfl (Nf_58 (by decide)) (fun w3 ew3 => ?_)
  have h := h w3 ew3
  exact x_retV d_N_forget_15 rfl ⟨rfl, rfl⟩ h
set_option maxHeartbeats 1000000 in
theorem r_A_setGroup {x1 x2 : Int32} {w : Wd} {K : Int32 → Wd → Prop} (h : RunZ 1 M_G_isPossible [.int x1, .int x2] w (fun z2 w1 => (z2 = true → ∀ a3 : Int32, a3 = w1.1 1 2 → RunV 1 M_G_become [.ref 1, .int x1, .int x2] w1 (fun w4 => ∀ w5 : Wd, w5 = upL w4 0 12 1 → RunV 1 M_J_fillL [.ref 10, .long 0] w5 (fun w6 => RunV 1 M_H_forget [.ref 11] w6 (fun w7 => RunV 1 M_N_forget [.ref 24] w7 (fun w8 => ∀ w9 : Wd, w9 = upI w8 35 2 0 → ∀ w10 : Wd, w10 = upI w9 37 2 0 → K a3 w10))))) ∧ (z2 = false → K ((-1)) w1))) : RunI 1 M_A_setGroup [.ref 0, .int x1, .int x2] w K := by
  refine runs_of (L := [(0, .ref 0), (1, .int x1), (2, .int x2)]) rfl (Nat.le_of_ble_eq_true rfl) rfl ?_
  refine x_iload_n 1 d_A_setGroup_0 rfl ?_
  refine x_iload_n 2 d_A_setGroup_1 rfl ?_
  refine x_callSZ (st := []) M_G_isPossible [.int x1, .int x2] d_A_setGroup_2 ml_10_98 cv_G_isPossible rfl (Nat.le_of_ble_eq_true rfl) ⟨Nat.le_of_ble_eq_true rfl, Nat.le_of_ble_eq_true rfl⟩ ⟨rfl, rfl⟩ h (fun z2 w1 h => ?_)
  refine x_zif_ne 10 d_A_setGroup_5 (by decide) (fun c0 => ?_) (fun c0 => ?_)
  · have h := h.1 c0
    refine x_aload_n 0 d_A_setGroup_10 rfl ?_
    refine x_getR 10 0 1 d_A_setGroup_11 fg_10_19 rfl rfl rfl (Nf_58 (by decide)) ?_
    refine x_getI 5 2 d_A_setGroup_14 fg_10_102 rfl rfl (Nf_58 (by decide)) ?_
    obtain ⟨a3, ea3⟩ : ∃ z : Int32, z = w1.1 1 2 := ⟨_, rfl⟩
    have h := h a3 ea3
    refine x_istore_nE (L' := [(0, .ref 0), (1, .int x1), (2, .int x2), (3, .int a3)]) [1, 2, 3, 0] d_A_setGroup_17 (by decide) ea3 rfl ?_
    refine x_aload_n 0 d_A_setGroup_18 rfl ?_
    refine x_getR 10 0 1 d_A_setGroup_19 fg_10_19 rfl rfl rfl (Nf_58 (by decide)) ?_
    refine x_iload_n 1 d_A_setGroup_22 rfl ?_
    refine x_iload_n 2 d_A_setGroup_23 rfl ?_
    refine x_callVV (st := []) M_G_become [.int x1, .int x2] d_A_setGroup_24 ml_10_10 cv_G_become rfl rfl (Nf_58 (by decide)) rfl (Nat.le_of_ble_eq_true rfl) ⟨Nat.le_of_ble_eq_true rfl, Nat.le_of_ble_eq_true rfl⟩ ⟨rfl, rfl⟩ h (fun w4 h => ?_)
    refine x_aload_n 0 d_A_setGroup_27 rfl ?_
    refine x_lconst (v := 1) d_A_setGroup_28 (by decide) ?_
    refine x_putLE 10 12 d_A_setGroup_29 fp_10_94 rfl rfl (Nf_58 (by decide)) (fun w5 ew5 => ?_)
    have h := h w5 ew5
    refine x_aload_n 0 d_A_setGroup_32 rfl ?_
    refine x_getR 10 1 10 d_A_setGroup_33 fg_10_25 rfl rfl rfl (Nf_58 (by decide)) ?_
    refine x_lconst (v := 0) d_A_setGroup_36 (by decide) ?_
    refine x_callSV (st := []) M_J_fillL [.ref 10, .long 0] d_A_setGroup_37 ml_10_106 cv_J_fillL rfl (Nat.le_of_ble_eq_true rfl) ⟨Nat.le_of_ble_eq_true rfl, Nat.le_of_ble_eq_true rfl⟩ ⟨rfl, rfl⟩ h (fun w6 h => ?_)
    refine x_aload_n 0 d_A_setGroup_40 rfl ?_
    refine x_getR 10 2 11 d_A_setGroup_41 fg_10_32 rfl rfl rfl (Nf_58 (by decide)) ?_
    refine x_callVV (st := []) M_H_forget [] d_A_setGroup_44 ml_10_112 cv_H_forget rfl rfl (Nf_58 (by decide)) rfl (Nat.le_of_ble_eq_true rfl) ⟨Nat.le_of_ble_eq_true rfl, Nat.le_of_ble_eq_true rfl⟩ ⟨rfl, rfl⟩ h (fun w7 h => ?_)
    refine x_aload_n 0 d_A_setGroup_47 rfl ?_
    refine x_getR 10 8 24 d_A_setGroup_48 fg_10_73 rfl rfl rfl (Nf_58 (by decide)) ?_
    refine x_callVV (st := []) M_N_forget [] d_A_setGroup_51 ml_10_115 cv_N_forget rfl rfl (Nf_58 (by decide)) rfl (Nat.le_of_ble_eq_true rfl) ⟨Nat.le_of_ble_eq_true rfl, Nat.le_of_ble_eq_true rfl⟩ ⟨rfl, rfl⟩ h (fun w8 h => ?_)
    refine x_aload_n 0 d_A_setGroup_54 rfl ?_
    refine x_getR 10 10 35 d_A_setGroup_55 fg_10_87 rfl rfl rfl (Nf_58 (by decide)) ?_
    refine x_iconst (v := 0) d_A_setGroup_58 (by decide) ?_
    refine x_putZE 8 2 d_A_setGroup_59 fp_10_116 rfl rfl (Nf_58 (by decide)) (by decide) (fun w9 ew9 => ?_)
    have h := h w9 ew9
    refine x_aload_n 0 d_A_setGroup_62 rfl ?_
    refine x_getR 10 11 37 d_A_setGroup_63 fg_10_91 rfl rfl rfl (Nf_58 (by decide)) ?_
    refine x_iconst (v := 0) d_A_setGroup_66 (by decide) ?_
    refine x_putZE 8 2 d_A_setGroup_67 fp_10_116 rfl rfl (Nf_58 (by decide)) (by decide) (fun w10 ew10 => ?_)
    have h := h w10 ew10
    refine x_iload_n 3 d_A_setGroup_70 rfl ?_
    exact x_retI d_A_setGroup_71 rfl ⟨rfl, rfl⟩ h
  · have h := h.2 c0
    refine x_iconst (v := (-1)) d_A_setGroup_8 (by decide) ?_
    exact x_retI d_A_setGroup_9 rfl ⟨rfl, rfl⟩ h
set_option maxHeartbeats 1000000 in
theorem r_G_subgroup {x1 x2 : Int32} {w : Wd} {K : Int64 → Wd → Prop} (h : E 1 M_G_subgroup 8 [(0, .ref 1), (1, .int x1), (2, .int x2), (3, .long 0), (5, .int 0), (6, .int 0)] [] w (qL 1 K)) : RunL 1 M_G_subgroup [.ref 1, .int x1, .int x2] w K := by
  refine runs_of (L := [(0, .ref 1), (1, .int x1), (2, .int x2)]) rfl (Nat.le_of_ble_eq_true rfl) rfl ?_
  refine x_lconst (v := 0) d_G_subgroup_0 (by decide) ?_
  refine x_lstore_n (L' := [(0, .ref 1), (1, .int x1), (2, .int x2), (3, .long 0)]) [1, 2, 3, 0] d_G_subgroup_1 (by decide) rfl ?_
  refine x_iconst (v := 0) d_G_subgroup_2 (by decide) ?_
  refine x_istore (L' := [(0, .ref 1), (1, .int x1), (2, .int x2), (3, .long 0), (5, .int 0)]) [1, 2, 3, 4, 0] d_G_subgroup_3 (by decide) rfl ?_
  refine x_iconst (v := 0) d_G_subgroup_5 (by decide) ?_
  refine x_istore (L' := [(0, .ref 1), (1, .int x1), (2, .int x2), (3, .long 0), (5, .int 0), (6, .int 0)]) [1, 2, 3, 4, 5, 0] d_G_subgroup_6 (by decide) rfl ?_
  exact h
set_option maxHeartbeats 1000000 in
theorem w_G_subgroup_8 {x1 x2 x5 x6 : Int32} {y3 : Int64} {w : Wd} {K : Int64 → Wd → Prop} (h : vp_in x1 40 ∧ ((w.1 4 x1.toNatClampNeg) ≤ x6 → K y3 w) ∧ (¬ (w.1 4 x1.toNatClampNeg) ≤ x6 → E 1 M_G_subgroup 26 [(0, .ref 1), (1, .int x1), (2, .int x2), (3, .long y3), (5, .int x5), (6, .int x6), (7, .int x5), (8, .int 0)] [] w (qL 1 K))) : E 1 M_G_subgroup 8 [(0, .ref 1), (1, .int x1), (2, .int x2), (3, .long y3), (5, .int x5), (6, .int x6)] [] w (qL 1 K) := by
  refine x_iload 5 d_G_subgroup_8 rfl ?_
  refine x_aload_n 0 d_G_subgroup_10 rfl ?_
  refine x_getR 5 8 4 d_G_subgroup_11 fg_5_18 rfl rfl rfl (Nf_58 (by decide)) ?_
  refine x_iload_n 1 d_G_subgroup_14 rfl ?_
  obtain ⟨h0, h⟩ := h
  refine x_iald d_G_subgroup_15 rfl (Nf_58 (by decide)) h0 ?_
  refine x_icmp_ge 74 d_G_subgroup_16 (by decide) (fun c0 => ?_) (fun c0 => ?_)
  · have h := h.1 c0
    refine x_lload_n 3 d_G_subgroup_74 rfl ?_
    exact x_retL d_G_subgroup_75 rfl ⟨rfl, rfl⟩ h
  · have h := h.2 c0
    refine x_iload 4 d_G_subgroup_19 rfl ?_
    refine x_istore (L' := [(0, .ref 1), (1, .int x1), (2, .int x2), (3, .long y3), (5, .int x5), (6, .int x6), (7, .int x5)]) [1, 2, 3, 4, 5, 6, 0] d_G_subgroup_21 (by decide) rfl ?_
    refine x_iconst (v := 0) d_G_subgroup_23 (by decide) ?_
    refine x_istore (L' := [(0, .ref 1), (1, .int x1), (2, .int x2), (3, .long y3), (5, .int x5), (6, .int x6), (7, .int x5), (8, .int 0)]) [1, 2, 3, 4, 5, 6, 7, 0] d_G_subgroup_24 (by decide) rfl ?_
    exact h
set_option maxHeartbeats 1000000 in
theorem w_G_subgroup_26 {x1 x2 x5 x6 x7 x8 : Int32} {y3 : Int64} {w : Wd} {K : Int64 → Wd → Prop} (h : vp_in x2 40 ∧ ((w.1 4 x2.toNatClampNeg) ≤ x8 → RunI 1 M_G_plus [.ref 1, .int x5, .int x1] w (fun r2 w1 => ∀ a3 : Int32, a3 = x6 + 1 → E 1 M_G_subgroup 8 [(0, .ref 1), (1, .int x1), (2, .int x2), (3, .long y3), (5, .int r2), (6, .int a3)] [] w1 (qL 1 K))) ∧ (¬ (w.1 4 x2.toNatClampNeg) ≤ x8 → ∀ b4 : Int64, b4 = y3 ||| (1 <<< (x7.toInt64 &&& 63)) → RunI 1 M_G_plus [.ref 1, .int x7, .int x2] w (fun r6 w5 => ∀ a7 : Int32, a7 = x8 + 1 → E 1 M_G_subgroup 26 [(0, .ref 1), (1, .int x1), (2, .int x2), (3, .long b4), (5, .int x5), (6, .int x6), (7, .int r6), (8, .int a7)] [] w5 (qL 1 K)))) : E 1 M_G_subgroup 26 [(0, .ref 1), (1, .int x1), (2, .int x2), (3, .long y3), (5, .int x5), (6, .int x6), (7, .int x7), (8, .int x8)] [] w (qL 1 K) := by
  refine x_iload 7 d_G_subgroup_26 rfl ?_
  refine x_aload_n 0 d_G_subgroup_28 rfl ?_
  refine x_getR 5 8 4 d_G_subgroup_29 fg_5_18 rfl rfl rfl (Nf_58 (by decide)) ?_
  refine x_iload_n 2 d_G_subgroup_32 rfl ?_
  obtain ⟨h0, h⟩ := h
  refine x_iald d_G_subgroup_33 rfl (Nf_58 (by decide)) h0 ?_
  refine x_icmp_ge 59 d_G_subgroup_34 (by decide) (fun c0 => ?_) (fun c0 => ?_)
  · have h := h.1 c0
    refine x_aload_n 0 d_G_subgroup_59 rfl ?_
    refine x_iload 4 d_G_subgroup_60 rfl ?_
    refine x_iload_n 1 d_G_subgroup_62 rfl ?_
    refine x_callVI (st := []) M_G_plus [.int x5, .int x1] d_G_subgroup_63 ml_5_54 cv_G_plus rfl rfl (Nf_58 (by decide)) rfl (Nat.le_of_ble_eq_true rfl) ⟨Nat.le_of_ble_eq_true rfl, Nat.le_of_ble_eq_true rfl⟩ ⟨rfl, rfl⟩ h (fun r2 w1 h => ?_)
    refine x_istore (L' := [(0, .ref 1), (1, .int x1), (2, .int x2), (3, .long y3), (5, .int r2), (6, .int x6), (7, .int x7), (8, .int x8)]) [1, 2, 3, 4, 0, 5, 6, 7] d_G_subgroup_66 (by decide) rfl ?_
    obtain ⟨a3, ea3⟩ : ∃ z : Int32, z = x6 + 1 := ⟨_, rfl⟩
    have h := h a3 ea3
    refine x_iincE (L' := [(0, .ref 1), (1, .int x1), (2, .int x2), (3, .long y3), (5, .int r2), (6, .int a3), (7, .int x7), (8, .int x8)]) 5 [1, 2, 3, 4, 5, 0, 6, 7] d_G_subgroup_68 rfl ea3 (by decide) rfl ?_
    refine x_goto 8 d_G_subgroup_71 (by decide) ?_
    exact x_perm [0, 1, 2, 3, 4, 5] rfl h
  · have h := h.2 c0
    refine x_lload_n 3 d_G_subgroup_37 rfl ?_
    refine x_lconst (v := 1) d_G_subgroup_38 (by decide) ?_
    refine x_iload 6 d_G_subgroup_39 rfl ?_
    refine x_lshl d_G_subgroup_41 ?_
    refine x_lor d_G_subgroup_42 ?_
    obtain ⟨b4, eb4⟩ : ∃ z : Int64, z = y3 ||| (1 <<< (x7.toInt64 &&& 63)) := ⟨_, rfl⟩
    have h := h b4 eb4
    refine x_lstore_nE (L' := [(0, .ref 1), (1, .int x1), (2, .int x2), (3, .long b4), (5, .int x5), (6, .int x6), (7, .int x7), (8, .int x8)]) [1, 2, 3, 0, 4, 5, 6, 7] d_G_subgroup_43 (by decide) eb4 rfl ?_
    refine x_aload_n 0 d_G_subgroup_44 rfl ?_
    refine x_iload 6 d_G_subgroup_45 rfl ?_
    refine x_iload_n 2 d_G_subgroup_47 rfl ?_
    refine x_callVI (st := []) M_G_plus [.int x7, .int x2] d_G_subgroup_48 ml_5_54 cv_G_plus rfl rfl (Nf_58 (by decide)) rfl (Nat.le_of_ble_eq_true rfl) ⟨Nat.le_of_ble_eq_true rfl, Nat.le_of_ble_eq_true rfl⟩ ⟨rfl, rfl⟩ h (fun r6 w5 h => ?_)
    refine x_istore (L' := [(0, .ref 1), (1, .int x1), (2, .int x2), (3, .long b4), (5, .int x5), (6, .int x6), (7, .int r6), (8, .int x8)]) [1, 2, 3, 4, 5, 6, 0, 7] d_G_subgroup_51 (by decide) rfl ?_
    obtain ⟨a7, ea7⟩ : ∃ z : Int32, z = x8 + 1 := ⟨_, rfl⟩
    have h := h a7 ea7
    refine x_iincE (L' := [(0, .ref 1), (1, .int x1), (2, .int x2), (3, .long b4), (5, .int x5), (6, .int x6), (7, .int r6), (8, .int a7)]) 7 [1, 2, 3, 4, 5, 6, 7, 0] d_G_subgroup_53 rfl ea7 (by decide) rfl ?_
    refine x_goto 26 d_G_subgroup_56 (by decide) ?_
    exact h
set_option maxHeartbeats 1000000 in
theorem r_A_setHole {x1 x2 : Int32} {w : Wd} {K : Int32 → Wd → Prop} (h : RunZ 1 M_A_isElement [.ref 0, .int x1] w (fun z2 w1 => (z2 = false → K ((-1)) w1) ∧ (z2 = true → RunZ 1 M_A_isElement [.ref 0, .int x2] w1 (fun z4 w3 => (z4 = true → RunL 1 M_G_subgroup [.ref 1, .int x1, .int x2] w3 (fun r6 w5 => ∀ w7 : Wd, w7 = upL w5 0 12 r6 → RunV 1 M_H_forget [.ref 11] w7 (fun w8 => RunI 1 M_J_bitCount [.long (w8.2 0 12)] w8 (fun r10 w9 => K r10 w9)))) ∧ (z4 = false → K ((-1)) w3))))) : RunI 1 M_A_setHole [.ref 0, .int x1, .int x2] w K := by
  refine runs_of (L := [(0, .ref 0), (1, .int x1), (2, .int x2)]) rfl (Nat.le_of_ble_eq_true rfl) rfl ?_
  refine x_aload_n 0 d_A_setHole_0 rfl ?_
  refine x_iload_n 1 d_A_setHole_1 rfl ?_
  refine x_callVZ (st := []) M_A_isElement [.int x1] d_A_setHole_2 ml_10_120 cv_A_isElement rfl rfl (Nf_58 (by decide)) rfl (Nat.le_of_ble_eq_true rfl) ⟨Nat.le_of_ble_eq_true rfl, Nat.le_of_ble_eq_true rfl⟩ ⟨rfl, rfl⟩ h (fun z2 w1 h => ?_)
  refine x_zif_eq 16 d_A_setHole_5 (by decide) (fun c0 => ?_) (fun c0 => ?_)
  · have h := h.1 c0
    refine x_iconst (v := (-1)) d_A_setHole_16 (by decide) ?_
    exact x_retI d_A_setHole_17 rfl ⟨rfl, rfl⟩ h
  · have h := h.2 c0
    refine x_aload_n 0 d_A_setHole_8 rfl ?_
    refine x_iload_n 2 d_A_setHole_9 rfl ?_
    refine x_callVZ (st := []) M_A_isElement [.int x2] d_A_setHole_10 ml_10_120 cv_A_isElement rfl rfl (Nf_58 (by decide)) rfl (Nat.le_of_ble_eq_true rfl) ⟨Nat.le_of_ble_eq_true rfl, Nat.le_of_ble_eq_true rfl⟩ ⟨rfl, rfl⟩ h (fun z4 w3 h => ?_)
    refine x_zif_ne 18 d_A_setHole_13 (by decide) (fun c0 => ?_) (fun c0 => ?_)
    · have h := h.1 c0
      refine x_aload_n 0 d_A_setHole_18 rfl ?_
      refine x_aload_n 0 d_A_setHole_19 rfl ?_
      refine x_getR 10 0 1 d_A_setHole_20 fg_10_19 rfl rfl rfl (Nf_58 (by decide)) ?_
      refine x_iload_n 1 d_A_setHole_23 rfl ?_
      refine x_iload_n 2 d_A_setHole_24 rfl ?_
      refine x_callVL (st := [.ref 0]) M_G_subgroup [.int x1, .int x2] d_A_setHole_25 ml_10_148 cv_G_subgroup rfl rfl (Nf_58 (by decide)) rfl (Nat.le_of_ble_eq_true rfl) ⟨Nat.le_of_ble_eq_true rfl, Nat.le_of_ble_eq_true rfl⟩ ⟨rfl, rfl⟩ h (fun r6 w5 h => ?_)
      refine x_putLE 10 12 d_A_setHole_28 fp_10_94 rfl rfl (Nf_58 (by decide)) (fun w7 ew7 => ?_)
      have h := h w7 ew7
      refine x_aload_n 0 d_A_setHole_31 rfl ?_
      refine x_getR 10 2 11 d_A_setHole_32 fg_10_32 rfl rfl rfl (Nf_58 (by decide)) ?_
      refine x_callVV (st := []) M_H_forget [] d_A_setHole_35 ml_10_112 cv_H_forget rfl rfl (Nf_58 (by decide)) rfl (Nat.le_of_ble_eq_true rfl) ⟨Nat.le_of_ble_eq_true rfl, Nat.le_of_ble_eq_true rfl⟩ ⟨rfl, rfl⟩ h (fun w8 h => ?_)
      refine x_aload_n 0 d_A_setHole_38 rfl ?_
      refine x_getL 10 12 d_A_setHole_39 fg_10_94 rfl rfl (Nf_58 (by decide)) ?_
      refine x_callSI (st := []) M_J_bitCount [.long (w8.2 0 12)] d_A_setHole_42 ml_10_152 cv_J_bitCount rfl (Nat.le_of_ble_eq_true rfl) ⟨Nat.le_of_ble_eq_true rfl, Nat.le_of_ble_eq_true rfl⟩ ⟨rfl, rfl⟩ h (fun r10 w9 h => ?_)
      exact x_retI d_A_setHole_45 rfl ⟨rfl, rfl⟩ h
    · have h := h.2 c0
      refine x_iconst (v := (-1)) d_A_setHole_16 (by decide) ?_
      exact x_retI d_A_setHole_17 rfl ⟨rfl, rfl⟩ h
set_option maxHeartbeats 1000000 in
theorem r_G_translate {x3 : Int32} {y1 : Int64} {w : Wd} {K : Int64 → Wd → Prop} (h : E 1 M_G_translate 6 [(0, .ref 1), (1, .long y1), (3, .int x3), (4, .long 0), (6, .int 0)] [] w (qL 1 K)) : RunL 1 M_G_translate [.ref 1, .long y1, .int x3] w K := by
  refine runs_of (L := [(0, .ref 1), (1, .long y1), (3, .int x3)]) rfl (Nat.le_of_ble_eq_true rfl) rfl ?_
  refine x_lconst (v := 0) d_G_translate_0 (by decide) ?_
  refine x_lstore (L' := [(0, .ref 1), (1, .long y1), (3, .int x3), (4, .long 0)]) [1, 2, 3, 0] d_G_translate_1 (by decide) rfl ?_
  refine x_iconst (v := 0) d_G_translate_3 (by decide) ?_
  refine x_istore (L' := [(0, .ref 1), (1, .long y1), (3, .int x3), (4, .long 0), (6, .int 0)]) [1, 2, 3, 4, 0] d_G_translate_4 (by decide) rfl ?_
  exact h
set_option maxHeartbeats 1000000 in
theorem w_G_translate_6 {x3 x6 : Int32} {y1 y4 : Int64} {w : Wd} {K : Int64 → Wd → Prop} (h : ((w.1 1 2) ≤ x6 → K y4 w) ∧ (¬ (w.1 1 2) ≤ x6 → RunZ 1 M_A_holds [.long y1, .int x6] w (fun z2 w1 => (z2 = false → ∀ a3 : Int32, a3 = x6 + 1 → E 1 M_G_translate 6 [(0, .ref 1), (1, .long y1), (3, .int x3), (4, .long y4), (6, .int a3)] [] w1 (qL 1 K)) ∧ (z2 = true → RunI 1 M_G_plus [.ref 1, .int x6, .int x3] w1 (fun r5 w4 => ∀ b6 : Int64, b6 = y4 ||| (1 <<< (r5.toInt64 &&& 63)) → ∀ a7 : Int32, a7 = x6 + 1 → E 1 M_G_translate 6 [(0, .ref 1), (1, .long y1), (3, .int x3), (4, .long b6), (6, .int a7)] [] w4 (qL 1 K)))))) : E 1 M_G_translate 6 [(0, .ref 1), (1, .long y1), (3, .int x3), (4, .long y4), (6, .int x6)] [] w (qL 1 K) := by
  refine x_iload 4 d_G_translate_6 rfl ?_
  refine x_aload_n 0 d_G_translate_8 rfl ?_
  refine x_getI 5 2 d_G_translate_9 fg_5_37 rfl rfl (Nf_58 (by decide)) ?_
  refine x_icmp_ge 44 d_G_translate_12 (by decide) (fun c0 => ?_) (fun c0 => ?_)
  · have h := h.1 c0
    refine x_lload 3 d_G_translate_44 rfl ?_
    exact x_retL d_G_translate_46 rfl ⟨rfl, rfl⟩ h
  · have h := h.2 c0
    refine x_lload_n 1 d_G_translate_15 rfl ?_
    refine x_iload 4 d_G_translate_16 rfl ?_
    refine x_callSZ (st := []) M_A_holds [.long y1, .int x6] d_G_translate_18 ml_5_76 cv_A_holds rfl (Nat.le_of_ble_eq_true rfl) ⟨Nat.le_of_ble_eq_true rfl, Nat.le_of_ble_eq_true rfl⟩ ⟨rfl, rfl⟩ h (fun z2 w1 h => ?_)
    refine x_zif_eq 38 d_G_translate_21 (by decide) (fun c0 => ?_) (fun c0 => ?_)
    · have h := h.1 c0
      obtain ⟨a3, ea3⟩ : ∃ z : Int32, z = x6 + 1 := ⟨_, rfl⟩
      have h := h a3 ea3
      refine x_iincE (L' := [(0, .ref 1), (1, .long y1), (3, .int x3), (4, .long y4), (6, .int a3)]) 4 [1, 2, 3, 4, 0] d_G_translate_38 rfl ea3 (by decide) rfl ?_
      refine x_goto 6 d_G_translate_41 (by decide) ?_
      exact h
    · have h := h.2 c0
      refine x_lload 3 d_G_translate_24 rfl ?_
      refine x_lconst (v := 1) d_G_translate_26 (by decide) ?_
      refine x_aload_n 0 d_G_translate_27 rfl ?_
      refine x_iload 4 d_G_translate_28 rfl ?_
      refine x_iload_n 2 d_G_translate_30 rfl ?_
      refine x_callVI (st := [.long 1, .long y4]) M_G_plus [.int x6, .int x3] d_G_translate_31 ml_5_54 cv_G_plus rfl rfl (Nf_58 (by decide)) rfl (Nat.le_of_ble_eq_true rfl) ⟨Nat.le_of_ble_eq_true rfl, Nat.le_of_ble_eq_true rfl⟩ ⟨rfl, rfl⟩ h (fun r5 w4 h => ?_)
      refine x_lshl d_G_translate_34 ?_
      refine x_lor d_G_translate_35 ?_
      obtain ⟨b6, eb6⟩ : ∃ z : Int64, z = y4 ||| (1 <<< (r5.toInt64 &&& 63)) := ⟨_, rfl⟩
      have h := h b6 eb6
      refine x_lstoreE (L' := [(0, .ref 1), (1, .long y1), (3, .int x3), (4, .long b6), (6, .int x6)]) [1, 2, 3, 0, 4] d_G_translate_36 (by decide) eb6 rfl ?_
      obtain ⟨a7, ea7⟩ : ∃ z : Int32, z = x6 + 1 := ⟨_, rfl⟩
      have h := h a7 ea7
      refine x_iincE (L' := [(0, .ref 1), (1, .long y1), (3, .int x3), (4, .long b6), (6, .int a7)]) 4 [1, 2, 3, 4, 0] d_G_translate_38 rfl ea7 (by decide) rfl ?_
      refine x_goto 6 d_G_translate_41 (by decide) ?_
      exact h
set_option maxHeartbeats 1000000 in
theorem r_A_shift {x1 x2 : Int32} {w : Wd} {K : Int32 → Wd → Prop} (h : RunZ 1 M_A_isBlock [.int x1] w (fun z2 w1 => (z2 = false → K ((-1)) w1) ∧ (z2 = true → RunZ 1 M_A_isElement [.ref 0, .int x2] w1 (fun z4 w3 => (z4 = true → RunV 1 M_H_note [.ref 11, .ref 10] w3 (fun w5 => vp_in x1 6 ∧ RunL 1 M_G_translate [.ref 1, .long (w5.2 10 x1.toNatClampNeg), .int x2] w5 (fun r7 w6 => vp_in x1 6 ∧ ∀ w8 : Wd, w8 = upL w6 10 x1.toNatClampNeg r7 → vp_in x1 6 ∧ RunI 1 M_J_bitCount [.long (w8.2 10 x1.toNatClampNeg)] w8 (fun r10 w9 => K r10 w9)))) ∧ (z4 = false → K ((-1)) w3))))) : RunI 1 M_A_shift [.ref 0, .int x1, .int x2] w K := by
  refine runs_of (L := [(0, .ref 0), (1, .int x1), (2, .int x2)]) rfl (Nat.le_of_ble_eq_true rfl) rfl ?_
  refine x_iload_n 1 d_A_shift_0 rfl ?_
  refine x_callSZ (st := []) M_A_isBlock [.int x1] d_A_shift_1 ml_10_158 cv_A_isBlock rfl (Nat.le_of_ble_eq_true rfl) ⟨Nat.le_of_ble_eq_true rfl, Nat.le_of_ble_eq_true rfl⟩ ⟨rfl, rfl⟩ h (fun z2 w1 h => ?_)
  refine x_zif_eq 15 d_A_shift_4 (by decide) (fun c0 => ?_) (fun c0 => ?_)
  · have h := h.1 c0
    refine x_iconst (v := (-1)) d_A_shift_15 (by decide) ?_
    exact x_retI d_A_shift_16 rfl ⟨rfl, rfl⟩ h
  · have h := h.2 c0
    refine x_aload_n 0 d_A_shift_7 rfl ?_
    refine x_iload_n 2 d_A_shift_8 rfl ?_
    refine x_callVZ (st := []) M_A_isElement [.int x2] d_A_shift_9 ml_10_120 cv_A_isElement rfl rfl (Nf_58 (by decide)) rfl (Nat.le_of_ble_eq_true rfl) ⟨Nat.le_of_ble_eq_true rfl, Nat.le_of_ble_eq_true rfl⟩ ⟨rfl, rfl⟩ h (fun z4 w3 h => ?_)
    refine x_zif_ne 17 d_A_shift_12 (by decide) (fun c0 => ?_) (fun c0 => ?_)
    · have h := h.1 c0
      refine x_aload_n 0 d_A_shift_17 rfl ?_
      refine x_getR 10 2 11 d_A_shift_18 fg_10_32 rfl rfl rfl (Nf_58 (by decide)) ?_
      refine x_aload_n 0 d_A_shift_21 rfl ?_
      refine x_getR 10 1 10 d_A_shift_22 fg_10_25 rfl rfl rfl (Nf_58 (by decide)) ?_
      refine x_callVV (st := []) M_H_note [.ref 10] d_A_shift_25 ml_10_165 cv_H_note rfl rfl (Nf_58 (by decide)) rfl (Nat.le_of_ble_eq_true rfl) ⟨Nat.le_of_ble_eq_true rfl, Nat.le_of_ble_eq_true rfl⟩ ⟨rfl, rfl⟩ h (fun w5 h => ?_)
      refine x_aload_n 0 d_A_shift_28 rfl ?_
      refine x_getR 10 1 10 d_A_shift_29 fg_10_25 rfl rfl rfl (Nf_58 (by decide)) ?_
      refine x_iload_n 1 d_A_shift_32 rfl ?_
      refine x_aload_n 0 d_A_shift_33 rfl ?_
      refine x_getR 10 0 1 d_A_shift_34 fg_10_19 rfl rfl rfl (Nf_58 (by decide)) ?_
      refine x_aload_n 0 d_A_shift_37 rfl ?_
      refine x_getR 10 1 10 d_A_shift_38 fg_10_25 rfl rfl rfl (Nf_58 (by decide)) ?_
      refine x_iload_n 1 d_A_shift_41 rfl ?_
      obtain ⟨h0, h⟩ := h
      refine x_lald d_A_shift_42 rfl (Nf_58 (by decide)) h0 ?_
      refine x_iload_n 2 d_A_shift_43 rfl ?_
      refine x_callVL (st := [.int x1, .ref 10]) M_G_translate [.long (w5.2 10 x1.toNatClampNeg), .int x2] d_A_shift_44 ml_10_171 cv_G_translate rfl rfl (Nf_58 (by decide)) rfl (Nat.le_of_ble_eq_true rfl) ⟨Nat.le_of_ble_eq_true rfl, Nat.le_of_ble_eq_true rfl⟩ ⟨rfl, rfl⟩ h (fun r7 w6 h => ?_)
      obtain ⟨h0, h⟩ := h
      refine x_lastE d_A_shift_47 rfl (Nf_58 (by decide)) h0 (fun w8 ew8 => ?_)
      have h := h w8 ew8
      refine x_aload_n 0 d_A_shift_48 rfl ?_
      refine x_getR 10 1 10 d_A_shift_49 fg_10_25 rfl rfl rfl (Nf_58 (by decide)) ?_
      refine x_iload_n 1 d_A_shift_52 rfl ?_
      obtain ⟨h0, h⟩ := h
      refine x_lald d_A_shift_53 rfl (Nf_58 (by decide)) h0 ?_
      refine x_callSI (st := []) M_J_bitCount [.long (w8.2 10 x1.toNatClampNeg)] d_A_shift_54 ml_10_152 cv_J_bitCount rfl (Nat.le_of_ble_eq_true rfl) ⟨Nat.le_of_ble_eq_true rfl, Nat.le_of_ble_eq_true rfl⟩ ⟨rfl, rfl⟩ h (fun r10 w9 h => ?_)
      exact x_retI d_A_shift_57 rfl ⟨rfl, rfl⟩ h
    · have h := h.2 c0
      refine x_iconst (v := (-1)) d_A_shift_15 (by decide) ?_
      exact x_retI d_A_shift_16 rfl ⟨rfl, rfl⟩ h
set_option maxHeartbeats 1000000 in
theorem r_G_fixingTranslates {y1 : Int64} {w : Wd} {K : Int32 → Wd → Prop} (h : E 1 M_G_fixingTranslates 8 [(0, .ref 1), (1, .long y1), (3, .int 0), (4, .long y1), (6, .int 0)] [] w (qI 1 K)) : RunI 1 M_G_fixingTranslates [.ref 1, .long y1] w K := by
  refine runs_of (L := [(0, .ref 1), (1, .long y1)]) rfl (Nat.le_of_ble_eq_true rfl) rfl ?_
  refine x_iconst (v := 0) d_G_fixingTranslates_0 (by decide) ?_
  refine x_istore_n (L' := [(0, .ref 1), (1, .long y1), (3, .int 0)]) [1, 2, 0] d_G_fixingTranslates_1 (by decide) rfl ?_
  refine x_lload_n 1 d_G_fixingTranslates_2 rfl ?_
  refine x_lstore (L' := [(0, .ref 1), (1, .long y1), (3, .int 0), (4, .long y1)]) [1, 2, 3, 0] d_G_fixingTranslates_3 (by decide) rfl ?_
  refine x_iconst (v := 0) d_G_fixingTranslates_5 (by decide) ?_
  refine x_istore (L' := [(0, .ref 1), (1, .long y1), (3, .int 0), (4, .long y1), (6, .int 0)]) [1, 2, 3, 4, 0] d_G_fixingTranslates_6 (by decide) rfl ?_
  exact h
set_option maxHeartbeats 1000000 in
theorem w_G_fixingTranslates_8 {x3 x6 : Int32} {y1 y4 : Int64} {w : Wd} {K : Int32 → Wd → Prop} (h : ((w.1 1 2) ≤ x6 → K x3 w) ∧ (¬ (w.1 1 2) ≤ x6 → RunL 1 M_G_onward [.ref 1, .long y4, .int x6] w (fun r2 w1 => (¬ r2 = y1 → ∀ a3 : Int32, a3 = x6 + 1 → E 1 M_G_fixingTranslates 8 [(0, .ref 1), (1, .long y1), (3, .int x3), (4, .long r2), (6, .int a3)] [] w1 (qI 1 K)) ∧ (r2 = y1 → ∀ a4 : Int32, a4 = x3 + 1 → ∀ a5 : Int32, a5 = x6 + 1 → E 1 M_G_fixingTranslates 8 [(0, .ref 1), (1, .long y1), (3, .int a4), (4, .long r2), (6, .int a5)] [] w1 (qI 1 K))))) : E 1 M_G_fixingTranslates 8 [(0, .ref 1), (1, .long y1), (3, .int x3), (4, .long y4), (6, .int x6)] [] w (qI 1 K) := by
  refine x_iload 4 d_G_fixingTranslates_8 rfl ?_
  refine x_aload_n 0 d_G_fixingTranslates_10 rfl ?_
  refine x_getI 5 2 d_G_fixingTranslates_11 fg_5_37 rfl rfl (Nf_58 (by decide)) ?_
  refine x_icmp_ge 43 d_G_fixingTranslates_14 (by decide) (fun c0 => ?_) (fun c0 => ?_)
  · have h := h.1 c0
    refine x_iload_n 2 d_G_fixingTranslates_43 rfl ?_
    exact x_retI d_G_fixingTranslates_44 rfl ⟨rfl, rfl⟩ h
  · have h := h.2 c0
    refine x_aload_n 0 d_G_fixingTranslates_17 rfl ?_
    refine x_lload 3 d_G_fixingTranslates_18 rfl ?_
    refine x_iload 4 d_G_fixingTranslates_20 rfl ?_
    refine x_callVL (st := []) M_G_onward [.long y4, .int x6] d_G_fixingTranslates_22 ml_5_82 cv_G_onward rfl rfl (Nf_58 (by decide)) rfl (Nat.le_of_ble_eq_true rfl) ⟨Nat.le_of_ble_eq_true rfl, Nat.le_of_ble_eq_true rfl⟩ ⟨rfl, rfl⟩ h (fun r2 w1 h => ?_)
    refine x_lstore (L' := [(0, .ref 1), (1, .long y1), (3, .int x3), (4, .long r2), (6, .int x6)]) [1, 2, 3, 0, 4] d_G_fixingTranslates_25 (by decide) rfl ?_
    refine x_lload 3 d_G_fixingTranslates_27 rfl ?_
    refine x_lload_n 1 d_G_fixingTranslates_29 rfl ?_
    refine x_lif_ne 37 d_G_fixingTranslates_30 d_G_fixingTranslates_31 (by decide) (fun c0 => ?_) (fun c0 => ?_)
    · have h := h.1 c0
      obtain ⟨a3, ea3⟩ : ∃ z : Int32, z = x6 + 1 := ⟨_, rfl⟩
      have h := h a3 ea3
      refine x_iincE (L' := [(0, .ref 1), (1, .long y1), (3, .int x3), (4, .long r2), (6, .int a3)]) 4 [1, 2, 3, 4, 0] d_G_fixingTranslates_37 rfl ea3 (by decide) rfl ?_
      refine x_goto 8 d_G_fixingTranslates_40 (by decide) ?_
      exact h
    · have h := h.2 c0
      obtain ⟨a4, ea4⟩ : ∃ z : Int32, z = x3 + 1 := ⟨_, rfl⟩
      have h := h a4 ea4
      refine x_iincE (L' := [(0, .ref 1), (1, .long y1), (3, .int a4), (4, .long r2), (6, .int x6)]) 2 [1, 2, 0, 3, 4] d_G_fixingTranslates_34 rfl ea4 (by decide) rfl ?_
      obtain ⟨a5, ea5⟩ : ∃ z : Int32, z = x6 + 1 := ⟨_, rfl⟩
      have h := h a5 ea5
      refine x_iincE (L' := [(0, .ref 1), (1, .long y1), (3, .int a4), (4, .long r2), (6, .int a5)]) 4 [1, 2, 3, 4, 0] d_G_fixingTranslates_37 rfl ea5 (by decide) rfl ?_
      refine x_goto 8 d_G_fixingTranslates_40 (by decide) ?_
      exact h
set_option maxHeartbeats 1000000 in
theorem r_A_stabilizer {x1 : Int32} {w : Wd} {K : Int32 → Wd → Prop} (h : RunZ 1 M_A_isBlock [.int x1] w (fun z2 w1 => (z2 = true → vp_in x1 6 ∧ (¬ (w1.2 10 x1.toNatClampNeg) = 0 → vp_in x1 6 ∧ RunI 1 M_G_fixingTranslates [.ref 1, .long (w1.2 10 x1.toNatClampNeg)] w1 (fun r4 w3 => K r4 w3)) ∧ ((w1.2 10 x1.toNatClampNeg) = 0 → K ((-4)) w1)) ∧ (z2 = false → K ((-1)) w1))) : RunI 1 M_A_stabilizer [.ref 0, .int x1] w K := by
  refine runs_of (L := [(0, .ref 0), (1, .int x1)]) rfl (Nat.le_of_ble_eq_true rfl) rfl ?_
  refine x_iload_n 1 d_A_stabilizer_0 rfl ?_
  refine x_callSZ (st := []) M_A_isBlock [.int x1] d_A_stabilizer_1 ml_10_158 cv_A_isBlock rfl (Nat.le_of_ble_eq_true rfl) ⟨Nat.le_of_ble_eq_true rfl, Nat.le_of_ble_eq_true rfl⟩ ⟨rfl, rfl⟩ h (fun z2 w1 h => ?_)
  refine x_zif_ne 9 d_A_stabilizer_4 (by decide) (fun c0 => ?_) (fun c0 => ?_)
  · have h := h.1 c0
    refine x_aload_n 0 d_A_stabilizer_9 rfl ?_
    refine x_getR 10 1 10 d_A_stabilizer_10 fg_10_25 rfl rfl rfl (Nf_58 (by decide)) ?_
    refine x_iload_n 1 d_A_stabilizer_13 rfl ?_
    obtain ⟨h0, h⟩ := h
    refine x_lald d_A_stabilizer_14 rfl (Nf_58 (by decide)) h0 ?_
    refine x_lconst (v := 0) d_A_stabilizer_15 (by decide) ?_
    refine x_lif_ne 25 d_A_stabilizer_16 d_A_stabilizer_17 (by decide) (fun c0 => ?_) (fun c0 => ?_)
    · have h := h.1 c0
      refine x_aload_n 0 d_A_stabilizer_25 rfl ?_
      refine x_getR 10 0 1 d_A_stabilizer_26 fg_10_19 rfl rfl rfl (Nf_58 (by decide)) ?_
      refine x_aload_n 0 d_A_stabilizer_29 rfl ?_
      refine x_getR 10 1 10 d_A_stabilizer_30 fg_10_25 rfl rfl rfl (Nf_58 (by decide)) ?_
      refine x_iload_n 1 d_A_stabilizer_33 rfl ?_
      obtain ⟨h0, h⟩ := h
      refine x_lald d_A_stabilizer_34 rfl (Nf_58 (by decide)) h0 ?_
      refine x_callVI (st := []) M_G_fixingTranslates [.long (w1.2 10 x1.toNatClampNeg)] d_A_stabilizer_35 ml_10_217 cv_G_fixingTranslates rfl rfl (Nf_58 (by decide)) rfl (Nat.le_of_ble_eq_true rfl) ⟨Nat.le_of_ble_eq_true rfl, Nat.le_of_ble_eq_true rfl⟩ ⟨rfl, rfl⟩ h (fun r4 w3 h => ?_)
      exact x_retI d_A_stabilizer_38 rfl ⟨rfl, rfl⟩ h
    · have h := h.2 c0
      refine x_bipush (v := (-4)) d_A_stabilizer_20 (by decide) ?_
      refine x_goto 38 d_A_stabilizer_22 (by decide) ?_
      exact x_retI d_A_stabilizer_38 rfl ⟨rfl, rfl⟩ h
  · have h := h.2 c0
    refine x_iconst (v := (-1)) d_A_stabilizer_7 (by decide) ?_
    exact x_retI d_A_stabilizer_8 rfl ⟨rfl, rfl⟩ h
set_option maxHeartbeats 1000000 in
theorem r_A_sum {x1 x2 : Int32} {w : Wd} {K : Int32 → Wd → Prop} (h : RunZ 1 M_A_isElement [.ref 0, .int x1] w (fun z2 w1 => (z2 = false → K ((-1)) w1) ∧ (z2 = true → RunZ 1 M_A_isElement [.ref 0, .int x2] w1 (fun z4 w3 => (z4 = true → RunI 1 M_G_plus [.ref 1, .int x1, .int x2] w3 (fun r6 w5 => K r6 w5)) ∧ (z4 = false → K ((-1)) w3))))) : RunI 1 M_A_sum [.ref 0, .int x1, .int x2] w K := by
  refine runs_of (L := [(0, .ref 0), (1, .int x1), (2, .int x2)]) rfl (Nat.le_of_ble_eq_true rfl) rfl ?_
  refine x_aload_n 0 d_A_sum_0 rfl ?_
  refine x_iload_n 1 d_A_sum_1 rfl ?_
  refine x_callVZ (st := []) M_A_isElement [.int x1] d_A_sum_2 ml_10_120 cv_A_isElement rfl rfl (Nf_58 (by decide)) rfl (Nat.le_of_ble_eq_true rfl) ⟨Nat.le_of_ble_eq_true rfl, Nat.le_of_ble_eq_true rfl⟩ ⟨rfl, rfl⟩ h (fun z2 w1 h => ?_)
  refine x_zif_eq 16 d_A_sum_5 (by decide) (fun c0 => ?_) (fun c0 => ?_)
  · have h := h.1 c0
    refine x_iconst (v := (-1)) d_A_sum_16 (by decide) ?_
    exact x_retI d_A_sum_17 rfl ⟨rfl, rfl⟩ h
  · have h := h.2 c0
    refine x_aload_n 0 d_A_sum_8 rfl ?_
    refine x_iload_n 2 d_A_sum_9 rfl ?_
    refine x_callVZ (st := []) M_A_isElement [.int x2] d_A_sum_10 ml_10_120 cv_A_isElement rfl rfl (Nf_58 (by decide)) rfl (Nat.le_of_ble_eq_true rfl) ⟨Nat.le_of_ble_eq_true rfl, Nat.le_of_ble_eq_true rfl⟩ ⟨rfl, rfl⟩ h (fun z4 w3 h => ?_)
    refine x_zif_ne 18 d_A_sum_13 (by decide) (fun c0 => ?_) (fun c0 => ?_)
    · have h := h.1 c0
      refine x_aload_n 0 d_A_sum_18 rfl ?_
      refine x_getR 10 0 1 d_A_sum_19 fg_10_19 rfl rfl rfl (Nf_58 (by decide)) ?_
      refine x_iload_n 1 d_A_sum_22 rfl ?_
      refine x_iload_n 2 d_A_sum_23 rfl ?_
      refine x_callVI (st := []) M_G_plus [.int x1, .int x2] d_A_sum_24 ml_10_124 cv_G_plus rfl rfl (Nf_58 (by decide)) rfl (Nat.le_of_ble_eq_true rfl) ⟨Nat.le_of_ble_eq_true rfl, Nat.le_of_ble_eq_true rfl⟩ ⟨rfl, rfl⟩ h (fun r6 w5 h => ?_)
      exact x_retI d_A_sum_27 rfl ⟨rfl, rfl⟩ h
    · have h := h.2 c0
      refine x_iconst (v := (-1)) d_A_sum_16 (by decide) ?_
      exact x_retI d_A_sum_17 rfl ⟨rfl, rfl⟩ h
set_option maxHeartbeats 1000000 in
theorem r_A_take {x1 x2 : Int32} {w : Wd} {K : Int32 → Wd → Prop} (h : RunZ 1 M_A_isBlock [.int x1] w (fun z2 w1 => (z2 = false → K ((-1)) w1) ∧ (z2 = true → RunZ 1 M_A_isElement [.ref 0, .int x2] w1 (fun z4 w3 => (z4 = true → vp_in x1 6 ∧ RunZ 1 M_A_holds [.long (w3.2 10 x1.toNatClampNeg), .int x2] w3 (fun z6 w5 => (z6 = true → RunV 1 M_H_note [.ref 11, .ref 10] w5 (fun w7 => vp_in x1 6 ∧ vp_in x1 6 ∧ ∀ w8 : Wd, w8 = upL w7 10 x1.toNatClampNeg ((w7.2 10 x1.toNatClampNeg) &&& ((1 <<< (x2.toInt64 &&& 63)) ^^^ ((-1)))) → vp_in x1 6 ∧ RunI 1 M_J_bitCount [.long (w8.2 10 x1.toNatClampNeg)] w8 (fun r10 w9 => K r10 w9))) ∧ (z6 = false → K ((-3)) w5))) ∧ (z4 = false → K ((-1)) w3))))) : RunI 1 M_A_take [.ref 0, .int x1, .int x2] w K := by
  refine runs_of (L := [(0, .ref 0), (1, .int x1), (2, .int x2)]) rfl (Nat.le_of_ble_eq_true rfl) rfl ?_
  refine x_iload_n 1 d_A_take_0 rfl ?_
  refine x_callSZ (st := []) M_A_isBlock [.int x1] d_A_take_1 ml_10_158 cv_A_isBlock rfl (Nat.le_of_ble_eq_true rfl) ⟨Nat.le_of_ble_eq_true rfl, Nat.le_of_ble_eq_true rfl⟩ ⟨rfl, rfl⟩ h (fun z2 w1 h => ?_)
  refine x_zif_eq 15 d_A_take_4 (by decide) (fun c0 => ?_) (fun c0 => ?_)
  · have h := h.1 c0
    refine x_iconst (v := (-1)) d_A_take_15 (by decide) ?_
    exact x_retI d_A_take_16 rfl ⟨rfl, rfl⟩ h
  · have h := h.2 c0
    refine x_aload_n 0 d_A_take_7 rfl ?_
    refine x_iload_n 2 d_A_take_8 rfl ?_
    refine x_callVZ (st := []) M_A_isElement [.int x2] d_A_take_9 ml_10_120 cv_A_isElement rfl rfl (Nf_58 (by decide)) rfl (Nat.le_of_ble_eq_true rfl) ⟨Nat.le_of_ble_eq_true rfl, Nat.le_of_ble_eq_true rfl⟩ ⟨rfl, rfl⟩ h (fun z4 w3 h => ?_)
    refine x_zif_ne 17 d_A_take_12 (by decide) (fun c0 => ?_) (fun c0 => ?_)
    · have h := h.1 c0
      refine x_aload_n 0 d_A_take_17 rfl ?_
      refine x_getR 10 1 10 d_A_take_18 fg_10_25 rfl rfl rfl (Nf_58 (by decide)) ?_
      refine x_iload_n 1 d_A_take_21 rfl ?_
      obtain ⟨h0, h⟩ := h
      refine x_lald d_A_take_22 rfl (Nf_58 (by decide)) h0 ?_
      refine x_iload_n 2 d_A_take_23 rfl ?_
      refine x_callSZ (st := []) M_A_holds [.long (w3.2 10 x1.toNatClampNeg), .int x2] d_A_take_24 ml_10_161 cv_A_holds rfl (Nat.le_of_ble_eq_true rfl) ⟨Nat.le_of_ble_eq_true rfl, Nat.le_of_ble_eq_true rfl⟩ ⟨rfl, rfl⟩ h (fun z6 w5 h => ?_)
      refine x_zif_ne 33 d_A_take_27 (by decide) (fun c0 => ?_) (fun c0 => ?_)
      · have h := h.1 c0
        refine x_aload_n 0 d_A_take_33 rfl ?_
        refine x_getR 10 2 11 d_A_take_34 fg_10_32 rfl rfl rfl (Nf_58 (by decide)) ?_
        refine x_aload_n 0 d_A_take_37 rfl ?_
        refine x_getR 10 1 10 d_A_take_38 fg_10_25 rfl rfl rfl (Nf_58 (by decide)) ?_
        refine x_callVV (st := []) M_H_note [.ref 10] d_A_take_41 ml_10_165 cv_H_note rfl rfl (Nf_58 (by decide)) rfl (Nat.le_of_ble_eq_true rfl) ⟨Nat.le_of_ble_eq_true rfl, Nat.le_of_ble_eq_true rfl⟩ ⟨rfl, rfl⟩ h (fun w7 h => ?_)
        refine x_aload_n 0 d_A_take_44 rfl ?_
        refine x_getR 10 1 10 d_A_take_45 fg_10_25 rfl rfl rfl (Nf_58 (by decide)) ?_
        refine x_iload_n 1 d_A_take_48 rfl ?_
        refine x_dup2 d_A_take_49 rfl rfl ?_
        obtain ⟨h0, h⟩ := h
        refine x_lald d_A_take_50 rfl (Nf_58 (by decide)) h0 ?_
        refine x_lconst (v := 1) d_A_take_51 (by decide) ?_
        refine x_iload_n 2 d_A_take_52 rfl ?_
        refine x_lshl d_A_take_53 ?_
        refine x_ldc2 (v := (-1)) d_A_take_54 mw_467 ?_
        refine x_lxor d_A_take_57 ?_
        refine x_land d_A_take_58 ?_
        obtain ⟨h0, h⟩ := h
        refine x_lastE d_A_take_59 rfl (Nf_58 (by decide)) h0 (fun w8 ew8 => ?_)
        have h := h w8 ew8
        refine x_aload_n 0 d_A_take_60 rfl ?_
        refine x_getR 10 1 10 d_A_take_61 fg_10_25 rfl rfl rfl (Nf_58 (by decide)) ?_
        refine x_iload_n 1 d_A_take_64 rfl ?_
        obtain ⟨h0, h⟩ := h
        refine x_lald d_A_take_65 rfl (Nf_58 (by decide)) h0 ?_
        refine x_callSI (st := []) M_J_bitCount [.long (w8.2 10 x1.toNatClampNeg)] d_A_take_66 ml_10_152 cv_J_bitCount rfl (Nat.le_of_ble_eq_true rfl) ⟨Nat.le_of_ble_eq_true rfl, Nat.le_of_ble_eq_true rfl⟩ ⟨rfl, rfl⟩ h (fun r10 w9 h => ?_)
        exact x_retI d_A_take_69 rfl ⟨rfl, rfl⟩ h
      · have h := h.2 c0
        refine x_bipush (v := (-3)) d_A_take_30 (by decide) ?_
        exact x_retI d_A_take_32 rfl ⟨rfl, rfl⟩ h
    · have h := h.2 c0
      refine x_iconst (v := (-1)) d_A_take_15 (by decide) ?_
      exact x_retI d_A_take_16 rfl ⟨rfl, rfl⟩ h
set_option maxHeartbeats 1000000 in
theorem r_A_takeSolution {w : Wd} {K : Int32 → Wd → Prop} (h : (¬ (w.1 24 10) = 0 → RunV 1 M_H_note [.ref 11, .ref 10] w (fun w1 => ((¬ (0 : Int32) < 0) ∧ (¬ (0 : Int32) < 0) ∧ (¬ (6 : Int32) < 0) ∧ (0 : Int32).toNatClampNeg + (6 : Int32).toNatClampNeg ≤ 6 ∧ (0 : Int32).toNatClampNeg + (6 : Int32).toNatClampNeg ≤ 6) ∧ ∀ w2 : Wd, w2 = cpL w1 31 10 (0 : Int32).toNatClampNeg (0 : Int32).toNatClampNeg (6 : Int32).toNatClampNeg → RunI 1 M_A_filledBlocks [.ref 0] w2 (fun r4 w3 => K r4 w3))) ∧ ((w.1 24 10) = 0 → K ((-3)) w)) : RunI 1 M_A_takeSolution [.ref 0] w K := by
  refine runs_of (L := [(0, .ref 0)]) rfl (Nat.le_of_ble_eq_true rfl) rfl ?_
  refine x_aload_n 0 d_A_takeSolution_0 rfl ?_
  refine x_getR 10 8 24 d_A_takeSolution_1 fg_10_73 rfl rfl rfl (Nf_58 (by decide)) ?_
  refine x_getI 4 10 d_A_takeSolution_4 fg_10_296 rfl rfl (Nf_58 (by decide)) ?_
  refine x_if_ne 13 d_A_takeSolution_7 (by decide) (fun c0 => ?_) (fun c0 => ?_)
  · have h := h.1 c0
    refine x_aload_n 0 d_A_takeSolution_13 rfl ?_
    refine x_getR 10 2 11 d_A_takeSolution_14 fg_10_32 rfl rfl rfl (Nf_58 (by decide)) ?_
    refine x_aload_n 0 d_A_takeSolution_17 rfl ?_
    refine x_getR 10 1 10 d_A_takeSolution_18 fg_10_25 rfl rfl rfl (Nf_58 (by decide)) ?_
    refine x_callVV (st := []) M_H_note [.ref 10] d_A_takeSolution_21 ml_10_165 cv_H_note rfl rfl (Nf_58 (by decide)) rfl (Nat.le_of_ble_eq_true rfl) ⟨Nat.le_of_ble_eq_true rfl, Nat.le_of_ble_eq_true rfl⟩ ⟨rfl, rfl⟩ h (fun w1 h => ?_)
    refine x_aload_n 0 d_A_takeSolution_24 rfl ?_
    refine x_getR 10 8 24 d_A_takeSolution_25 fg_10_73 rfl rfl rfl (Nf_58 (by decide)) ?_
    refine x_getR 4 7 31 d_A_takeSolution_28 fg_10_305 rfl rfl rfl (Nf_58 (by decide)) ?_
    refine x_iconst (v := 0) d_A_takeSolution_31 (by decide) ?_
    refine x_aload_n 0 d_A_takeSolution_32 rfl ?_
    refine x_getR 10 1 10 d_A_takeSolution_33 fg_10_25 rfl rfl rfl (Nf_58 (by decide)) ?_
    refine x_iconst (v := 0) d_A_takeSolution_36 (by decide) ?_
    refine x_bipush (v := 6) d_A_takeSolution_37 (by decide) ?_
    obtain ⟨h0, h⟩ := h
    refine x_copyE d_A_takeSolution_39 cp_10_308 rfl rfl (Nf_58 (by decide)) (Nf_58 (by decide)) h0 (Nat.le_of_ble_eq_true rfl) ⟨Nat.le_of_ble_eq_true rfl, Nat.le_of_ble_eq_true rfl⟩ (fun w2 ew2 => ?_)
    have h := h w2 ew2
    refine x_aload_n 0 d_A_takeSolution_42 rfl ?_
    refine x_callVI (st := []) M_A_filledBlocks [] d_A_takeSolution_43 ml_10_314 cv_A_filledBlocks rfl rfl (Nf_58 (by decide)) rfl (Nat.le_of_ble_eq_true rfl) ⟨Nat.le_of_ble_eq_true rfl, Nat.le_of_ble_eq_true rfl⟩ ⟨rfl, rfl⟩ h (fun r4 w3 h => ?_)
    exact x_retI d_A_takeSolution_46 rfl ⟨rfl, rfl⟩ h
  · have h := h.2 c0
    refine x_bipush (v := (-3)) d_A_takeSolution_10 (by decide) ?_
    exact x_retI d_A_takeSolution_12 rfl ⟨rfl, rfl⟩ h
set_option maxHeartbeats 1000000 in
theorem r_H_bringBack {w : Wd} {K : Wd → Prop} (h : ((w.1 11 1) ≤ 0 → K w) ∧ (¬ (w.1 11 1) ≤ 0 → ∀ w1 : Wd, w1 = upI w 11 1 ((w.1 11 1) - 1) → ((¬ ((w1.1 11 1) * 6) < 0) ∧ (¬ (0 : Int32) < 0) ∧ (¬ (6 : Int32) < 0) ∧ ((w1.1 11 1) * 6).toNatClampNeg + (6 : Int32).toNatClampNeg ≤ 30 ∧ (0 : Int32).toNatClampNeg + (6 : Int32).toNatClampNeg ≤ 6) ∧ ∀ w2 : Wd, w2 = cpL w1 12 10 ((w1.1 11 1) * 6).toNatClampNeg (0 : Int32).toNatClampNeg (6 : Int32).toNatClampNeg → K w2)) : RunV 1 M_H_bringBack [.ref 11, .ref 10] w K := by
  refine runs_of (L := [(0, .ref 11), (1, .ref 10)]) rfl (Nat.le_of_ble_eq_true rfl) rfl ?_
  refine x_aload_n 0 d_H_bringBack_0 rfl ?_
  refine x_getI 6 1 d_H_bringBack_1 fg_6_15 rfl rfl (Nf_58 (by decide)) ?_
  refine x_if_le 35 d_H_bringBack_4 (by decide) (fun c0 => ?_) (fun c0 => ?_)
  · have h := h.1 c0
    exact x_retV d_H_bringBack_35 rfl ⟨rfl, rfl⟩ h
  · have h := h.2 c0
    refine x_aload_n 0 d_H_bringBack_7 rfl ?_
    refine x_dup d_H_bringBack_8 rfl ?_
    refine x_getI 6 1 d_H_bringBack_9 fg_6_15 rfl rfl (Nf_58 (by decide)) ?_
    refine x_iconst (v := 1) d_H_bringBack_12 (by decide) ?_
    refine x_isub d_H_bringBack_13 ?_
    refine x_putIE 6 1 d_H_bringBack_14 fp_6_15 rfl rfl (Nf_58 (by decide)) (fun w1 ew1 => ?_)
    have h := h w1 ew1
    refine x_aload_n 0 d_H_bringBack_17 rfl ?_
    refine x_getR 6 0 12 d_H_bringBack_18 fg_6_11 rfl rfl rfl (Nf_58 (by decide)) ?_
    refine x_aload_n 0 d_H_bringBack_21 rfl ?_
    refine x_getI 6 1 d_H_bringBack_22 fg_6_15 rfl rfl (Nf_58 (by decide)) ?_
    refine x_bipush (v := 6) d_H_bringBack_25 (by decide) ?_
    refine x_imul d_H_bringBack_27 ?_
    refine x_aload_n 1 d_H_bringBack_28 rfl ?_
    refine x_iconst (v := 0) d_H_bringBack_29 (by decide) ?_
    refine x_bipush (v := 6) d_H_bringBack_30 (by decide) ?_
    obtain ⟨h0, h⟩ := h
    refine x_copyE d_H_bringBack_32 cp_6_19 rfl rfl (Nf_58 (by decide)) (Nf_58 (by decide)) h0 (Nat.le_of_ble_eq_true rfl) ⟨Nat.le_of_ble_eq_true rfl, Nat.le_of_ble_eq_true rfl⟩ (fun w2 ew2 => ?_)
    have h := h w2 ew2
    exact x_retV d_H_bringBack_35 rfl ⟨rfl, rfl⟩ h
set_option maxHeartbeats 1000000 in
theorem r_A_undo {w : Wd} {K : Int32 → Wd → Prop} (h : (¬ (w.1 11 1) = 0 → RunV 1 M_H_bringBack [.ref 11, .ref 10] w (fun w1 => K (w1.1 11 1) w1)) ∧ ((w.1 11 1) = 0 → K ((-3)) w)) : RunI 1 M_A_undo [.ref 0] w K := by
  refine runs_of (L := [(0, .ref 0)]) rfl (Nat.le_of_ble_eq_true rfl) rfl ?_
  refine x_aload_n 0 d_A_undo_0 rfl ?_
  refine x_getR 10 2 11 d_A_undo_1 fg_10_32 rfl rfl rfl (Nf_58 (by decide)) ?_
  refine x_getI 6 1 d_A_undo_4 fg_10_205 rfl rfl (Nf_58 (by decide)) ?_
  refine x_if_ne 13 d_A_undo_7 (by decide) (fun c0 => ?_) (fun c0 => ?_)
  · have h := h.1 c0
    refine x_aload_n 0 d_A_undo_13 rfl ?_
    refine x_getR 10 2 11 d_A_undo_14 fg_10_32 rfl rfl rfl (Nf_58 (by decide)) ?_
    refine x_aload_n 0 d_A_undo_17 rfl ?_
    refine x_getR 10 1 10 d_A_undo_18 fg_10_25 rfl rfl rfl (Nf_58 (by decide)) ?_
    refine x_callVV (st := []) M_H_bringBack [.ref 10] d_A_undo_21 ml_10_208 cv_H_bringBack rfl rfl (Nf_58 (by decide)) rfl (Nat.le_of_ble_eq_true rfl) ⟨Nat.le_of_ble_eq_true rfl, Nat.le_of_ble_eq_true rfl⟩ ⟨rfl, rfl⟩ h (fun w1 h => ?_)
    refine x_aload_n 0 d_A_undo_24 rfl ?_
    refine x_getR 10 2 11 d_A_undo_25 fg_10_32 rfl rfl rfl (Nf_58 (by decide)) ?_
    refine x_getI 6 1 d_A_undo_28 fg_10_205 rfl rfl (Nf_58 (by decide)) ?_
    exact x_retI d_A_undo_31 rfl ⟨rfl, rfl⟩ h
  · have h := h.2 c0
    refine x_bipush (v := (-3)) d_A_undo_10 (by decide) ?_
    exact x_retI d_A_undo_12 rfl ⟨rfl, rfl⟩ h
set_option maxHeartbeats 1000000 in
theorem r_B_in {y0 y2 y4 : Int64} {w : Wd} {K : Bool → Wd → Prop} (h : (y0 < y2 → K false w) ∧ (¬ y0 < y2 → (y4 < y0 → K false w) ∧ (¬ y4 < y0 → K true w))) : RunZ 1 M_B_in [.long y0, .long y2, .long y4] w K := by
  refine runs_of (L := [(0, .long y0), (2, .long y2), (4, .long y4)]) rfl (Nat.le_of_ble_eq_true rfl) rfl ?_
  refine x_lload_n 0 d_B_in_0 rfl ?_
  refine x_lload_n 1 d_B_in_1 rfl ?_
  refine x_lif_lt 17 d_B_in_2 d_B_in_3 (by decide) (fun c0 => ?_) (fun c0 => ?_)
  · have h := h.1 c0
    refine x_iconst (v := 0) d_B_in_17 (by decide) ?_
    exact x_retZ (z := false) d_B_in_18 rfl rfl ⟨rfl, rfl⟩ h
  · have h := h.2 c0
    refine x_lload_n 0 d_B_in_6 rfl ?_
    refine x_lload 2 d_B_in_7 rfl ?_
    refine x_lif_gt 17 d_B_in_9 d_B_in_10 (by decide) (fun c0 => ?_) (fun c0 => ?_)
    · have h := h.1 c0
      refine x_iconst (v := 0) d_B_in_17 (by decide) ?_
      exact x_retZ (z := false) d_B_in_18 rfl rfl ⟨rfl, rfl⟩ h
    · have h := h.2 c0
      refine x_iconst (v := 1) d_B_in_13 (by decide) ?_
      refine x_goto 18 d_B_in_14 (by decide) ?_
      exact x_retZ (z := true) d_B_in_18 rfl rfl ⟨rfl, rfl⟩ h
set_option maxHeartbeats 1000000 in
theorem r_B_append {x1 : Int32} {w : Wd} {K : Int32 → Wd → Prop} (h : RunZ 1 M_B_in [.long x1.toInt64, .long 32, .long 126] w (fun z2 w1 => (z2 = true → (¬ (w1.1 39 10) = 160 → vp_in (w1.1 39 10) 160 ∧ ∀ w3 : Wd, w3 = upI w1 44 (w1.1 39 10).toNatClampNeg x1 → ∀ w4 : Wd, w4 = upI w3 39 10 ((w3.1 39 10) + 1) → K (w4.1 39 10) w4) ∧ ((w1.1 39 10) = 160 → K ((-2)) w1)) ∧ (z2 = false → K ((-1)) w1))) : RunI 1 M_B_append [.ref 39, .int x1] w K := by
  refine runs_of (L := [(0, .ref 39), (1, .int x1)]) rfl (Nat.le_of_ble_eq_true rfl) rfl ?_
  refine x_iload_n 1 d_B_append_0 rfl ?_
  refine x_i2l d_B_append_1 ?_
  refine x_ldc2 (v := 32) d_B_append_2 mw_1344 ?_
  refine x_ldc2 (v := 126) d_B_append_5 mw_1345 ?_
  refine x_callSZ (st := []) M_B_in [.long x1.toInt64, .long 32, .long 126] d_B_append_8 ml_11_83 cv_B_in rfl (Nat.le_of_ble_eq_true rfl) ⟨Nat.le_of_ble_eq_true rfl, Nat.le_of_ble_eq_true rfl⟩ ⟨rfl, rfl⟩ h (fun z2 w1 h => ?_)
  refine x_zif_ne 16 d_B_append_11 (by decide) (fun c0 => ?_) (fun c0 => ?_)
  · have h := h.1 c0
    refine x_aload_n 0 d_B_append_16 rfl ?_
    refine x_getI 11 10 d_B_append_17 fg_11_245 rfl rfl (Nf_58 (by decide)) ?_
    refine x_sipush (v := 160) d_B_append_20 (by decide) ?_
    refine x_icmp_ne 29 d_B_append_23 (by decide) (fun c0 => ?_) (fun c0 => ?_)
    · have h := h.1 c0
      refine x_aload_n 0 d_B_append_29 rfl ?_
      refine x_getR 11 9 44 d_B_append_30 fg_11_37 rfl rfl rfl (Nf_58 (by decide)) ?_
      refine x_aload_n 0 d_B_append_33 rfl ?_
      refine x_getI 11 10 d_B_append_34 fg_11_245 rfl rfl (Nf_58 (by decide)) ?_
      refine x_iload_n 1 d_B_append_37 rfl ?_
      obtain ⟨h0, h⟩ := h
      refine x_iastE d_B_append_38 rfl (Nf_58 (by decide)) h0 (fun w3 ew3 => ?_)
      have h := h w3 ew3
      refine x_aload_n 0 d_B_append_39 rfl ?_
      refine x_dup d_B_append_40 rfl ?_
      refine x_getI 11 10 d_B_append_41 fg_11_245 rfl rfl (Nf_58 (by decide)) ?_
      refine x_iconst (v := 1) d_B_append_44 (by decide) ?_
      refine x_iadd d_B_append_45 ?_
      refine x_putIE 11 10 d_B_append_46 fp_11_245 rfl rfl (Nf_58 (by decide)) (fun w4 ew4 => ?_)
      have h := h w4 ew4
      refine x_aload_n 0 d_B_append_49 rfl ?_
      refine x_getI 11 10 d_B_append_50 fg_11_245 rfl rfl (Nf_58 (by decide)) ?_
      exact x_retI d_B_append_53 rfl ⟨rfl, rfl⟩ h
    · have h := h.2 c0
      refine x_bipush (v := (-2)) d_B_append_26 (by decide) ?_
      exact x_retI d_B_append_28 rfl ⟨rfl, rfl⟩ h
  · have h := h.2 c0
    refine x_iconst (v := (-1)) d_B_append_14 (by decide) ?_
    exact x_retI d_B_append_15 rfl ⟨rfl, rfl⟩ h
set_option maxHeartbeats 1000000 in
theorem r_B_isNumber {x1 : Int32} {w : Wd} {K : Bool → Wd → Prop} (h : RunZ 1 M_B_in [.long x1.toInt64, .long 0, .long (((w.1 39 11) - 1).toInt64)] w (fun z2 w1 => K z2 w1)) : RunZ 1 M_B_isNumber [.ref 39, .int x1] w K := by
  refine runs_of (L := [(0, .ref 39), (1, .int x1)]) rfl (Nat.le_of_ble_eq_true rfl) rfl ?_
  refine x_iload_n 1 d_B_isNumber_0 rfl ?_
  refine x_i2l d_B_isNumber_1 ?_
  refine x_lconst (v := 0) d_B_isNumber_2 (by decide) ?_
  refine x_aload_n 0 d_B_isNumber_3 rfl ?_
  refine x_getI 11 11 d_B_isNumber_4 fg_11_98 rfl rfl (Nf_58 (by decide)) ?_
  refine x_iconst (v := 1) d_B_isNumber_7 (by decide) ?_
  refine x_isub d_B_isNumber_8 ?_
  refine x_i2l d_B_isNumber_9 ?_
  refine x_callSZ (st := []) M_B_in [.long x1.toInt64, .long 0, .long (((w.1 39 11) - 1).toInt64)] d_B_isNumber_10 ml_11_83 cv_B_in rfl (Nat.le_of_ble_eq_true rfl) ⟨Nat.le_of_ble_eq_true rfl, Nat.le_of_ble_eq_true rfl⟩ ⟨rfl, rfl⟩ h (fun z2 w1 h => ?_)
  exact x_retZ d_B_isNumber_13 rfl rfl ⟨rfl, rfl⟩ h
set_option maxHeartbeats 1000000 in
theorem r_B_notes {w : Wd} {K : Wd → Prop} (h : (¬ (w.1 39 6) = 5 → E 1 M_B_notes 44 [(0, .ref 39), (1, .int 0)] [] w (qV 1 K)) ∧ ((w.1 39 6) = 5 → E 1 M_B_notes 10 [(0, .ref 39), (1, .int 0)] [] w (qV 1 K))) : RunV 1 M_B_notes [.ref 39] w K := by
  refine runs_of (L := [(0, .ref 39)]) rfl (Nat.le_of_ble_eq_true rfl) rfl ?_
  refine x_aload_n 0 d_B_notes_0 rfl ?_
  refine x_getI 11 6 d_B_notes_1 fg_11_109 rfl rfl (Nf_58 (by decide)) ?_
  refine x_iconst (v := 5) d_B_notes_4 (by decide) ?_
  refine x_icmp_ne 42 d_B_notes_5 (by decide) (fun c0 => ?_) (fun c0 => ?_)
  · have h := h.1 c0
    refine x_iconst (v := 0) d_B_notes_42 (by decide) ?_
    refine x_istore_n (L' := [(0, .ref 39), (1, .int 0)]) [1, 0] d_B_notes_43 (by decide) rfl ?_
    exact h
  · have h := h.2 c0
    refine x_iconst (v := 0) d_B_notes_8 (by decide) ?_
    refine x_istore_n (L' := [(0, .ref 39), (1, .int 0)]) [1, 0] d_B_notes_9 (by decide) rfl ?_
    exact h
set_option maxHeartbeats 1000000 in
theorem w_B_notes_44 {x1 : Int32} {w : Wd} {K : Wd → Prop} (h : (6 ≤ x1 → ∀ w1 : Wd, w1 = upI w 39 6 ((w.1 39 6) + 1) → K w1) ∧ (¬ 6 ≤ x1 → vp_in x1 6 ∧ vp_in ((6 * (w.1 39 6)) + x1) 30 ∧ ∀ w2 : Wd, w2 = upL w 41 ((6 * (w.1 39 6)) + x1).toNatClampNeg (w.2 40 x1.toNatClampNeg) → ∀ a3 : Int32, a3 = x1 + 1 → E 1 M_B_notes 44 [(0, .ref 39), (1, .int a3)] [] w2 (qV 1 K))) : E 1 M_B_notes 44 [(0, .ref 39), (1, .int x1)] [] w (qV 1 K) := by
  refine x_iload_n 1 d_B_notes_44 rfl ?_
  refine x_bipush (v := 6) d_B_notes_45 (by decide) ?_
  refine x_icmp_ge 76 d_B_notes_47 (by decide) (fun c0 => ?_) (fun c0 => ?_)
  · have h := h.1 c0
    refine x_aload_n 0 d_B_notes_76 rfl ?_
    refine x_dup d_B_notes_77 rfl ?_
    refine x_getI 11 6 d_B_notes_78 fg_11_109 rfl rfl (Nf_58 (by decide)) ?_
    refine x_iconst (v := 1) d_B_notes_81 (by decide) ?_
    refine x_iadd d_B_notes_82 ?_
    refine x_putIE 11 6 d_B_notes_83 fp_11_109 rfl rfl (Nf_58 (by decide)) (fun w1 ew1 => ?_)
    have h := h w1 ew1
    exact x_retV d_B_notes_86 rfl ⟨rfl, rfl⟩ h
  · have h := h.2 c0
    refine x_aload_n 0 d_B_notes_50 rfl ?_
    refine x_getR 11 5 41 d_B_notes_51 fg_11_27 rfl rfl rfl (Nf_58 (by decide)) ?_
    refine x_bipush (v := 6) d_B_notes_54 (by decide) ?_
    refine x_aload_n 0 d_B_notes_56 rfl ?_
    refine x_getI 11 6 d_B_notes_57 fg_11_109 rfl rfl (Nf_58 (by decide)) ?_
    refine x_imul d_B_notes_60 ?_
    refine x_iload_n 1 d_B_notes_61 rfl ?_
    refine x_iadd d_B_notes_62 ?_
    refine x_aload_n 0 d_B_notes_63 rfl ?_
    refine x_getR 11 4 40 d_B_notes_64 fg_11_23 rfl rfl rfl (Nf_58 (by decide)) ?_
    refine x_iload_n 1 d_B_notes_67 rfl ?_
    obtain ⟨h0, h⟩ := h
    refine x_lald d_B_notes_68 rfl (Nf_58 (by decide)) h0 ?_
    obtain ⟨h0, h⟩ := h
    refine x_lastE d_B_notes_69 rfl (Nf_58 (by decide)) h0 (fun w2 ew2 => ?_)
    have h := h w2 ew2
    obtain ⟨a3, ea3⟩ : ∃ z : Int32, z = x1 + 1 := ⟨_, rfl⟩
    have h := h a3 ea3
    refine x_iincE (L' := [(0, .ref 39), (1, .int a3)]) 1 [1, 0] d_B_notes_70 rfl ea3 (by decide) rfl ?_
    refine x_goto 44 d_B_notes_73 (by decide) ?_
    exact h
set_option maxHeartbeats 1000000 in
theorem w_B_notes_10 {x1 : Int32} {w : Wd} {K : Wd → Prop} (h : (24 ≤ x1 → ∀ w1 : Wd, w1 = upI w 39 6 4 → E 1 M_B_notes 44 [(0, .ref 39), (1, .int 0)] [] w1 (qV 1 K)) ∧ (¬ 24 ≤ x1 → vp_in (x1 + 6) 30 ∧ vp_in x1 30 ∧ ∀ w2 : Wd, w2 = upL w 41 x1.toNatClampNeg (w.2 41 (x1 + 6).toNatClampNeg) → ∀ a3 : Int32, a3 = x1 + 1 → E 1 M_B_notes 10 [(0, .ref 39), (1, .int a3)] [] w2 (qV 1 K))) : E 1 M_B_notes 10 [(0, .ref 39), (1, .int x1)] [] w (qV 1 K) := by
  refine x_iload_n 1 d_B_notes_10 rfl ?_
  refine x_bipush (v := 24) d_B_notes_11 (by decide) ?_
  refine x_icmp_ge 37 d_B_notes_13 (by decide) (fun c0 => ?_) (fun c0 => ?_)
  · have h := h.1 c0
    refine x_aload_n 0 d_B_notes_37 rfl ?_
    refine x_iconst (v := 4) d_B_notes_38 (by decide) ?_
    refine x_putIE 11 6 d_B_notes_39 fp_11_109 rfl rfl (Nf_58 (by decide)) (fun w1 ew1 => ?_)
    have h := h w1 ew1
    refine x_iconst (v := 0) d_B_notes_42 (by decide) ?_
    refine x_istore_n (L' := [(0, .ref 39), (1, .int 0)]) [1, 0] d_B_notes_43 (by decide) rfl ?_
    exact h
  · have h := h.2 c0
    refine x_aload_n 0 d_B_notes_16 rfl ?_
    refine x_getR 11 5 41 d_B_notes_17 fg_11_27 rfl rfl rfl (Nf_58 (by decide)) ?_
    refine x_iload_n 1 d_B_notes_20 rfl ?_
    refine x_aload_n 0 d_B_notes_21 rfl ?_
    refine x_getR 11 5 41 d_B_notes_22 fg_11_27 rfl rfl rfl (Nf_58 (by decide)) ?_
    refine x_iload_n 1 d_B_notes_25 rfl ?_
    refine x_bipush (v := 6) d_B_notes_26 (by decide) ?_
    refine x_iadd d_B_notes_28 ?_
    obtain ⟨h0, h⟩ := h
    refine x_lald d_B_notes_29 rfl (Nf_58 (by decide)) h0 ?_
    obtain ⟨h0, h⟩ := h
    refine x_lastE d_B_notes_30 rfl (Nf_58 (by decide)) h0 (fun w2 ew2 => ?_)
    have h := h w2 ew2
    obtain ⟨a3, ea3⟩ : ∃ z : Int32, z = x1 + 1 := ⟨_, rfl⟩
    have h := h a3 ea3
    refine x_iincE (L' := [(0, .ref 39), (1, .int a3)]) 1 [1, 0] d_B_notes_31 rfl ea3 (by decide) rfl ?_
    refine x_goto 10 d_B_notes_34 (by decide) ?_
    exact h
set_option maxHeartbeats 1000000 in
theorem r_B_has {x2 : Int32} {y0 : Int64} {w : Wd} {K : Bool → Wd → Prop} (h : (¬ ((y0 >>> (x2.toInt64 &&& 63)) &&& 1) = 1 → K false w) ∧ (((y0 >>> (x2.toInt64 &&& 63)) &&& 1) = 1 → K true w)) : RunZ 1 M_B_has [.long y0, .int x2] w K := by
  refine runs_of (L := [(0, .long y0), (2, .int x2)]) rfl (Nat.le_of_ble_eq_true rfl) rfl ?_
  refine x_lload_n 0 d_B_has_0 rfl ?_
  refine x_iload_n 1 d_B_has_1 rfl ?_
  refine x_lshr d_B_has_2 ?_
  refine x_lconst (v := 1) d_B_has_3 (by decide) ?_
  refine x_land d_B_has_4 ?_
  refine x_lconst (v := 1) d_B_has_5 (by decide) ?_
  refine x_lif_ne 14 d_B_has_6 d_B_has_7 (by decide) (fun c0 => ?_) (fun c0 => ?_)
  · have h := h.1 c0
    refine x_iconst (v := 0) d_B_has_14 (by decide) ?_
    exact x_retZ (z := false) d_B_has_15 rfl rfl ⟨rfl, rfl⟩ h
  · have h := h.2 c0
    refine x_iconst (v := 1) d_B_has_10 (by decide) ?_
    refine x_goto 15 d_B_has_11 (by decide) ?_
    exact x_retZ (z := true) d_B_has_15 rfl rfl ⟨rfl, rfl⟩ h
set_option maxHeartbeats 1000000 in
theorem r_B_times {x1 x2 : Int32} {w : Wd} {K : Int32 → Wd → Prop} (h : (¬ (w.1 39 1) = 0) ∧ (¬ (w.1 39 0) = 0) ∧ (¬ (w.1 39 1) = 0) ∧ (¬ (w.1 39 1) = 0) ∧ K (((w.1 39 1) * ((x1 * (x2 / (w.1 39 1))) - (x1 * (x2 / (w.1 39 1))) / (w.1 39 0) * (w.1 39 0))) + ((x1 * (x2 - x2 / (w.1 39 1) * (w.1 39 1))) - (x1 * (x2 - x2 / (w.1 39 1) * (w.1 39 1))) / (w.1 39 1) * (w.1 39 1))) w) : RunI 1 M_B_times [.ref 39, .int x1, .int x2] w K := by
  refine runs_of (L := [(0, .ref 39), (1, .int x1), (2, .int x2)]) rfl (Nat.le_of_ble_eq_true rfl) rfl ?_
  refine x_aload_n 0 d_B_times_0 rfl ?_
  refine x_getI 11 1 d_B_times_1 fg_11_13 rfl rfl (Nf_58 (by decide)) ?_
  refine x_iload_n 1 d_B_times_4 rfl ?_
  refine x_iload_n 2 d_B_times_5 rfl ?_
  refine x_aload_n 0 d_B_times_6 rfl ?_
  refine x_getI 11 1 d_B_times_7 fg_11_13 rfl rfl (Nf_58 (by decide)) ?_
  obtain ⟨h0, h⟩ := h
  refine x_idiv d_B_times_10 h0 ?_
  refine x_imul d_B_times_11 ?_
  refine x_aload_n 0 d_B_times_12 rfl ?_
  refine x_getI 11 0 d_B_times_13 fg_11_7 rfl rfl (Nf_58 (by decide)) ?_
  obtain ⟨h0, h⟩ := h
  refine x_irem d_B_times_16 h0 ?_
  refine x_imul d_B_times_17 ?_
  refine x_iload_n 1 d_B_times_18 rfl ?_
  refine x_iload_n 2 d_B_times_19 rfl ?_
  refine x_aload_n 0 d_B_times_20 rfl ?_
  refine x_getI 11 1 d_B_times_21 fg_11_13 rfl rfl (Nf_58 (by decide)) ?_
  obtain ⟨h0, h⟩ := h
  refine x_irem d_B_times_24 h0 ?_
  refine x_imul d_B_times_25 ?_
  refine x_aload_n 0 d_B_times_26 rfl ?_
  refine x_getI 11 1 d_B_times_27 fg_11_13 rfl rfl (Nf_58 (by decide)) ?_
  obtain ⟨h0, h⟩ := h
  refine x_irem d_B_times_30 h0 ?_
  refine x_iadd d_B_times_31 ?_
  exact x_retI d_B_times_32 rfl ⟨rfl, rfl⟩ h
set_option maxHeartbeats 1000000 in
theorem r_B_plus {x1 x2 : Int32} {w : Wd} {K : Int32 → Wd → Prop} (h : (¬ (w.1 39 1) = 0) ∧ (¬ (w.1 39 1) = 0) ∧ (¬ (w.1 39 0) = 0) ∧ (¬ (w.1 39 1) = 0) ∧ (¬ (w.1 39 1) = 0) ∧ (¬ (w.1 39 1) = 0) ∧ K (((w.1 39 1) * (((x1 / (w.1 39 1)) + (x2 / (w.1 39 1))) - ((x1 / (w.1 39 1)) + (x2 / (w.1 39 1))) / (w.1 39 0) * (w.1 39 0))) + (((x1 - x1 / (w.1 39 1) * (w.1 39 1)) + (x2 - x2 / (w.1 39 1) * (w.1 39 1))) - ((x1 - x1 / (w.1 39 1) * (w.1 39 1)) + (x2 - x2 / (w.1 39 1) * (w.1 39 1))) / (w.1 39 1) * (w.1 39 1))) w) : RunI 1 M_B_plus [.ref 39, .int x1, .int x2] w K := by
  refine runs_of (L := [(0, .ref 39), (1, .int x1), (2, .int x2)]) rfl (Nat.le_of_ble_eq_true rfl) rfl ?_
  refine x_aload_n 0 d_B_plus_0 rfl ?_
  refine x_getI 11 1 d_B_plus_1 fg_11_13 rfl rfl (Nf_58 (by decide)) ?_
  refine x_iload_n 1 d_B_plus_4 rfl ?_
  refine x_aload_n 0 d_B_plus_5 rfl ?_
  refine x_getI 11 1 d_B_plus_6 fg_11_13 rfl rfl (Nf_58 (by decide)) ?_
  obtain ⟨h0, h⟩ := h
  refine x_idiv d_B_plus_9 h0 ?_
  refine x_iload_n 2 d_B_plus_10 rfl ?_
  refine x_aload_n 0 d_B_plus_11 rfl ?_
  refine x_getI 11 1 d_B_plus_12 fg_11_13 rfl rfl (Nf_58 (by decide)) ?_
  obtain ⟨h0, h⟩ := h
  refine x_idiv d_B_plus_15 h0 ?_
  refine x_iadd d_B_plus_16 ?_
  refine x_aload_n 0 d_B_plus_17 rfl ?_
  refine x_getI 11 0 d_B_plus_18 fg_11_7 rfl rfl (Nf_58 (by decide)) ?_
  obtain ⟨h0, h⟩ := h
  refine x_irem d_B_plus_21 h0 ?_
  refine x_imul d_B_plus_22 ?_
  refine x_iload_n 1 d_B_plus_23 rfl ?_
  refine x_aload_n 0 d_B_plus_24 rfl ?_
  refine x_getI 11 1 d_B_plus_25 fg_11_13 rfl rfl (Nf_58 (by decide)) ?_
  obtain ⟨h0, h⟩ := h
  refine x_irem d_B_plus_28 h0 ?_
  refine x_iload_n 2 d_B_plus_29 rfl ?_
  refine x_aload_n 0 d_B_plus_30 rfl ?_
  refine x_getI 11 1 d_B_plus_31 fg_11_13 rfl rfl (Nf_58 (by decide)) ?_
  obtain ⟨h0, h⟩ := h
  refine x_irem d_B_plus_34 h0 ?_
  refine x_iadd d_B_plus_35 ?_
  refine x_aload_n 0 d_B_plus_36 rfl ?_
  refine x_getI 11 1 d_B_plus_37 fg_11_13 rfl rfl (Nf_58 (by decide)) ?_
  obtain ⟨h0, h⟩ := h
  refine x_irem d_B_plus_40 h0 ?_
  refine x_iadd d_B_plus_41 ?_
  exact x_retI d_B_plus_42 rfl ⟨rfl, rfl⟩ h
set_option maxHeartbeats 1000000 in
theorem r_B_maps {x1 x2 x3 : Int32} {w : Wd} {K : Int32 → Wd → Prop} (h : (¬ (w.1 39 1) = 0) ∧ RunI 1 M_B_times [.ref 39, .int (x3 / (w.1 39 1)), .int x1] w (fun r2 w1 => (¬ (w1.1 39 1) = 0) ∧ RunI 1 M_B_times [.ref 39, .int (x3 - x3 / (w1.1 39 1) * (w1.1 39 1)), .int x2] w1 (fun r4 w3 => RunI 1 M_B_plus [.ref 39, .int r2, .int r4] w3 (fun r6 w5 => K r6 w5)))) : RunI 1 M_B_maps [.ref 39, .int x1, .int x2, .int x3] w K := by
  refine runs_of (L := [(0, .ref 39), (1, .int x1), (2, .int x2), (3, .int x3)]) rfl (Nat.le_of_ble_eq_true rfl) rfl ?_
  refine x_aload_n 0 d_B_maps_0 rfl ?_
  refine x_aload_n 0 d_B_maps_1 rfl ?_
  refine x_iload_n 3 d_B_maps_2 rfl ?_
  refine x_aload_n 0 d_B_maps_3 rfl ?_
  refine x_getI 11 1 d_B_maps_4 fg_11_13 rfl rfl (Nf_58 (by decide)) ?_
  obtain ⟨h0, h⟩ := h
  refine x_idiv d_B_maps_7 h0 ?_
  refine x_iload_n 1 d_B_maps_8 rfl ?_
  refine x_callVI (st := [.ref 39]) M_B_times [.int (x3 / (w.1 39 1)), .int x1] d_B_maps_9 ml_11_87 cv_B_times rfl rfl (Nf_58 (by decide)) rfl (Nat.le_of_ble_eq_true rfl) ⟨Nat.le_of_ble_eq_true rfl, Nat.le_of_ble_eq_true rfl⟩ ⟨rfl, rfl⟩ h (fun r2 w1 h => ?_)
  refine x_aload_n 0 d_B_maps_12 rfl ?_
  refine x_iload_n 3 d_B_maps_13 rfl ?_
  refine x_aload_n 0 d_B_maps_14 rfl ?_
  refine x_getI 11 1 d_B_maps_15 fg_11_13 rfl rfl (Nf_58 (by decide)) ?_
  obtain ⟨h0, h⟩ := h
  refine x_irem d_B_maps_18 h0 ?_
  refine x_iload_n 2 d_B_maps_19 rfl ?_
  refine x_callVI (st := [.int r2, .ref 39]) M_B_times [.int (x3 - x3 / (w1.1 39 1) * (w1.1 39 1)), .int x2] d_B_maps_20 ml_11_87 cv_B_times rfl rfl (Nf_58 (by decide)) rfl (Nat.le_of_ble_eq_true rfl) ⟨Nat.le_of_ble_eq_true rfl, Nat.le_of_ble_eq_true rfl⟩ ⟨rfl, rfl⟩ h (fun r4 w3 h => ?_)
  refine x_callVI (st := []) M_B_plus [.int r2, .int r4] d_B_maps_23 ml_11_91 cv_B_plus rfl rfl (Nf_58 (by decide)) rfl (Nat.le_of_ble_eq_true rfl) ⟨Nat.le_of_ble_eq_true rfl, Nat.le_of_ble_eq_true rfl⟩ ⟨rfl, rfl⟩ h (fun r6 w5 h => ?_)
  exact x_retI d_B_maps_26 rfl ⟨rfl, rfl⟩ h
set_option maxHeartbeats 1000000 in
theorem r_B_imageOf {x3 x4 : Int32} {y1 : Int64} {w : Wd} {K : Int64 → Wd → Prop} (h : E 1 M_B_imageOf 6 [(0, .ref 39), (1, .long y1), (3, .int x3), (4, .int x4), (5, .long 0), (7, .int 0)] [] w (qL 1 K)) : RunL 1 M_B_imageOf [.ref 39, .long y1, .int x3, .int x4] w K := by
  refine runs_of (L := [(0, .ref 39), (1, .long y1), (3, .int x3), (4, .int x4)]) rfl (Nat.le_of_ble_eq_true rfl) rfl ?_
  refine x_lconst (v := 0) d_B_imageOf_0 (by decide) ?_
  refine x_lstore (L' := [(0, .ref 39), (1, .long y1), (3, .int x3), (4, .int x4), (5, .long 0)]) [1, 2, 3, 4, 0] d_B_imageOf_1 (by decide) rfl ?_
  refine x_iconst (v := 0) d_B_imageOf_3 (by decide) ?_
  refine x_istore (L' := [(0, .ref 39), (1, .long y1), (3, .int x3), (4, .int x4), (5, .long 0), (7, .int 0)]) [1, 2, 3, 4, 5, 0] d_B_imageOf_4 (by decide) rfl ?_
  exact h
set_option maxHeartbeats 1000000 in
theorem w_B_imageOf_6 {x3 x4 x7 : Int32} {y1 y5 : Int64} {w : Wd} {K : Int64 → Wd → Prop} (h : ((w.1 39 2) ≤ x7 → K y5 w) ∧ (¬ (w.1 39 2) ≤ x7 → RunZ 1 M_B_has [.long y1, .int x7] w (fun z2 w1 => (z2 = false → ∀ b3 : Int64, b3 = y5 ||| 0 → ∀ a4 : Int32, a4 = x7 + 1 → E 1 M_B_imageOf 6 [(0, .ref 39), (1, .long y1), (3, .int x3), (4, .int x4), (5, .long b3), (7, .int a4)] [] w1 (qL 1 K)) ∧ (z2 = true → RunI 1 M_B_maps [.ref 39, .int x3, .int x4, .int x7] w1 (fun r6 w5 => ∀ b7 : Int64, b7 = y5 ||| (1 <<< (r6.toInt64 &&& 63)) → ∀ a8 : Int32, a8 = x7 + 1 → E 1 M_B_imageOf 6 [(0, .ref 39), (1, .long y1), (3, .int x3), (4, .int x4), (5, .long b7), (7, .int a8)] [] w5 (qL 1 K)))))) : E 1 M_B_imageOf 6 [(0, .ref 39), (1, .long y1), (3, .int x3), (4, .int x4), (5, .long y5), (7, .int x7)] [] w (qL 1 K) := by
  refine x_iload 5 d_B_imageOf_6 rfl ?_
  refine x_aload_n 0 d_B_imageOf_8 rfl ?_
  refine x_getI 11 2 d_B_imageOf_9 fg_11_16 rfl rfl (Nf_58 (by decide)) ?_
  refine x_icmp_ge 50 d_B_imageOf_12 (by decide) (fun c0 => ?_) (fun c0 => ?_)
  · have h := h.1 c0
    refine x_lload 4 d_B_imageOf_50 rfl ?_
    exact x_retL d_B_imageOf_52 rfl ⟨rfl, rfl⟩ h
  · have h := h.2 c0
    refine x_lload 4 d_B_imageOf_15 rfl ?_
    refine x_lload_n 1 d_B_imageOf_17 rfl ?_
    refine x_iload 5 d_B_imageOf_18 rfl ?_
    refine x_callSZ (st := [.long y5]) M_B_has [.long y1, .int x7] d_B_imageOf_20 ml_11_134 cv_B_has rfl (Nat.le_of_ble_eq_true rfl) ⟨Nat.le_of_ble_eq_true rfl, Nat.le_of_ble_eq_true rfl⟩ ⟨rfl, rfl⟩ h (fun z2 w1 h => ?_)
    refine x_zif_eq 40 d_B_imageOf_23 (by decide) (fun c0 => ?_) (fun c0 => ?_)
    · have h := h.1 c0
      refine x_lconst (v := 0) d_B_imageOf_40 (by decide) ?_
      refine x_lor d_B_imageOf_41 ?_
      obtain ⟨b3, eb3⟩ : ∃ z : Int64, z = y5 ||| 0 := ⟨_, rfl⟩
      have h := h b3 eb3
      refine x_lstoreE (L' := [(0, .ref 39), (1, .long y1), (3, .int x3), (4, .int x4), (5, .long b3), (7, .int x7)]) [1, 2, 3, 4, 0, 5] d_B_imageOf_42 (by decide) eb3 rfl ?_
      obtain ⟨a4, ea4⟩ : ∃ z : Int32, z = x7 + 1 := ⟨_, rfl⟩
      have h := h a4 ea4
      refine x_iincE (L' := [(0, .ref 39), (1, .long y1), (3, .int x3), (4, .int x4), (5, .long b3), (7, .int a4)]) 5 [1, 2, 3, 4, 5, 0] d_B_imageOf_44 rfl ea4 (by decide) rfl ?_
      refine x_goto 6 d_B_imageOf_47 (by decide) ?_
      exact h
    · have h := h.2 c0
      refine x_lconst (v := 1) d_B_imageOf_26 (by decide) ?_
      refine x_aload_n 0 d_B_imageOf_27 rfl ?_
      refine x_iload_n 2 d_B_imageOf_28 rfl ?_
      refine x_iload 3 d_B_imageOf_29 rfl ?_
      refine x_iload 5 d_B_imageOf_31 rfl ?_
      refine x_callVI (st := [.long 1, .long y5]) M_B_maps [.int x3, .int x4, .int x7] d_B_imageOf_33 ml_11_94 cv_B_maps rfl rfl (Nf_58 (by decide)) rfl (Nat.le_of_ble_eq_true rfl) ⟨Nat.le_of_ble_eq_true rfl, Nat.le_of_ble_eq_true rfl⟩ ⟨rfl, rfl⟩ h (fun r6 w5 h => ?_)
      refine x_lshl d_B_imageOf_36 ?_
      refine x_goto 41 d_B_imageOf_37 (by decide) ?_
      refine x_lor d_B_imageOf_41 ?_
      obtain ⟨b7, eb7⟩ : ∃ z : Int64, z = y5 ||| (1 <<< (r6.toInt64 &&& 63)) := ⟨_, rfl⟩
      have h := h b7 eb7
      refine x_lstoreE (L' := [(0, .ref 39), (1, .long y1), (3, .int x3), (4, .int x4), (5, .long b7), (7, .int x7)]) [1, 2, 3, 4, 0, 5] d_B_imageOf_42 (by decide) eb7 rfl ?_
      obtain ⟨a8, ea8⟩ : ∃ z : Int32, z = x7 + 1 := ⟨_, rfl⟩
      have h := h a8 ea8
      refine x_iincE (L' := [(0, .ref 39), (1, .long y1), (3, .int x3), (4, .int x4), (5, .long b7), (7, .int a8)]) 5 [1, 2, 3, 4, 5, 0] d_B_imageOf_44 rfl ea8 (by decide) rfl ?_
      refine x_goto 6 d_B_imageOf_47 (by decide) ?_
      exact h
set_option maxHeartbeats 1000000 in
theorem r_B_apply {x1 : Int32} {w : Wd} {K : Int32 → Wd → Prop} (h : RunZ 1 M_B_isNumber [.ref 39, .int x1] w (fun z2 w1 => (z2 = true → RunV 1 M_B_notes [.ref 39] w1 (fun w3 => E 1 M_B_apply 18 [(0, .ref 39), (1, .int x1), (2, .int 0), (3, .int 0)] [] w3 (qI 1 K))) ∧ (z2 = false → K ((-1)) w1))) : RunI 1 M_B_apply [.ref 39, .int x1] w K := by
  refine runs_of (L := [(0, .ref 39), (1, .int x1)]) rfl (Nat.le_of_ble_eq_true rfl) rfl ?_
  refine x_aload_n 0 d_B_apply_0 rfl ?_
  refine x_iload_n 1 d_B_apply_1 rfl ?_
  refine x_callVZ (st := []) M_B_isNumber [.int x1] d_B_apply_2 ml_11_127 cv_B_isNumber rfl rfl (Nf_58 (by decide)) rfl (Nat.le_of_ble_eq_true rfl) ⟨Nat.le_of_ble_eq_true rfl, Nat.le_of_ble_eq_true rfl⟩ ⟨rfl, rfl⟩ h (fun z2 w1 h => ?_)
  refine x_zif_ne 10 d_B_apply_5 (by decide) (fun c0 => ?_) (fun c0 => ?_)
  · have h := h.1 c0
    refine x_aload_n 0 d_B_apply_10 rfl ?_
    refine x_callVV (st := []) M_B_notes [] d_B_apply_11 ml_11_144 cv_B_notes rfl rfl (Nf_58 (by decide)) rfl (Nat.le_of_ble_eq_true rfl) ⟨Nat.le_of_ble_eq_true rfl, Nat.le_of_ble_eq_true rfl⟩ ⟨rfl, rfl⟩ h (fun w3 h => ?_)
    refine x_iconst (v := 0) d_B_apply_14 (by decide) ?_
    refine x_istore_n (L' := [(0, .ref 39), (1, .int x1), (2, .int 0)]) [1, 2, 0] d_B_apply_15 (by decide) rfl ?_
    refine x_iconst (v := 0) d_B_apply_16 (by decide) ?_
    refine x_istore_n (L' := [(0, .ref 39), (1, .int x1), (2, .int 0), (3, .int 0)]) [1, 2, 3, 0] d_B_apply_17 (by decide) rfl ?_
    exact h
  · have h := h.2 c0
    refine x_iconst (v := (-1)) d_B_apply_8 (by decide) ?_
    exact x_retI d_B_apply_9 rfl ⟨rfl, rfl⟩ h
set_option maxHeartbeats 1000000 in
theorem w_B_apply_18 {x1 x2 x3 : Int32} {w : Wd} {K : Int32 → Wd → Prop} (h : (6 ≤ x3 → K x2 w) ∧ (¬ 6 ≤ x3 → vp_in x3 6 ∧ vp_in x1 500 ∧ vp_in x1 500 ∧ RunL 1 M_B_imageOf [.ref 39, .long (w.2 40 x3.toNatClampNeg), .int (w.1 45 x1.toNatClampNeg), .int (w.1 46 x1.toNatClampNeg)] w (fun r2 w1 => vp_in x3 6 ∧ (¬ r2 = (w1.2 40 x3.toNatClampNeg) → ∀ a3 : Int32, a3 = x2 + 1 → vp_in x3 6 ∧ ∀ w4 : Wd, w4 = upL w1 40 x3.toNatClampNeg r2 → ∀ a5 : Int32, a5 = x3 + 1 → E 1 M_B_apply 18 [(0, .ref 39), (1, .int x1), (2, .int a3), (3, .int a5)] [] w4 (qI 1 K)) ∧ (r2 = (w1.2 40 x3.toNatClampNeg) → ∀ a6 : Int32, a6 = x2 + 0 → vp_in x3 6 ∧ ∀ w7 : Wd, w7 = upL w1 40 x3.toNatClampNeg r2 → ∀ a8 : Int32, a8 = x3 + 1 → E 1 M_B_apply 18 [(0, .ref 39), (1, .int x1), (2, .int a6), (3, .int a8)] [] w7 (qI 1 K))))) : E 1 M_B_apply 18 [(0, .ref 39), (1, .int x1), (2, .int x2), (3, .int x3)] [] w (qI 1 K) := by
  refine x_iload_n 3 d_B_apply_18 rfl ?_
  refine x_bipush (v := 6) d_B_apply_19 (by decide) ?_
  refine x_icmp_ge 82 d_B_apply_21 (by decide) (fun c0 => ?_) (fun c0 => ?_)
  · have h := h.1 c0
    refine x_iload_n 2 d_B_apply_82 rfl ?_
    exact x_retI d_B_apply_83 rfl ⟨rfl, rfl⟩ h
  · have h := h.2 c0
    refine x_aload_n 0 d_B_apply_24 rfl ?_
    refine x_aload_n 0 d_B_apply_25 rfl ?_
    refine x_getR 11 4 40 d_B_apply_26 fg_11_23 rfl rfl rfl (Nf_58 (by decide)) ?_
    refine x_iload_n 3 d_B_apply_29 rfl ?_
    obtain ⟨h0, h⟩ := h
    refine x_lald d_B_apply_30 rfl (Nf_58 (by decide)) h0 ?_
    refine x_aload_n 0 d_B_apply_31 rfl ?_
    refine x_getR 11 12 45 d_B_apply_32 fg_11_41 rfl rfl rfl (Nf_58 (by decide)) ?_
    refine x_iload_n 1 d_B_apply_35 rfl ?_
    obtain ⟨h0, h⟩ := h
    refine x_iald d_B_apply_36 rfl (Nf_58 (by decide)) h0 ?_
    refine x_aload_n 0 d_B_apply_37 rfl ?_
    refine x_getR 11 13 46 d_B_apply_38 fg_11_44 rfl rfl rfl (Nf_58 (by decide)) ?_
    refine x_iload_n 1 d_B_apply_41 rfl ?_
    obtain ⟨h0, h⟩ := h
    refine x_iald d_B_apply_42 rfl (Nf_58 (by decide)) h0 ?_
    refine x_callVL (st := []) M_B_imageOf [.long (w.2 40 x3.toNatClampNeg), .int (w.1 45 x1.toNatClampNeg), .int (w.1 46 x1.toNatClampNeg)] d_B_apply_43 ml_11_154 cv_B_imageOf rfl rfl (Nf_58 (by decide)) rfl (Nat.le_of_ble_eq_true rfl) ⟨Nat.le_of_ble_eq_true rfl, Nat.le_of_ble_eq_true rfl⟩ ⟨rfl, rfl⟩ h (fun r2 w1 h => ?_)
    refine x_lstore (L' := [(0, .ref 39), (1, .int x1), (2, .int x2), (3, .int x3), (4, .long r2)]) [1, 2, 3, 4, 0] d_B_apply_46 (by decide) rfl ?_
    refine x_iload_n 2 d_B_apply_48 rfl ?_
    refine x_lload 4 d_B_apply_49 rfl ?_
    refine x_aload_n 0 d_B_apply_51 rfl ?_
    refine x_getR 11 4 40 d_B_apply_52 fg_11_23 rfl rfl rfl (Nf_58 (by decide)) ?_
    refine x_iload_n 3 d_B_apply_55 rfl ?_
    obtain ⟨h0, h⟩ := h
    refine x_lald d_B_apply_56 rfl (Nf_58 (by decide)) h0 ?_
    refine x_lif_ne 65 d_B_apply_57 d_B_apply_58 (by decide) (fun c0 => ?_) (fun c0 => ?_)
    · have h := h.1 c0
      refine x_iconst (v := 1) d_B_apply_65 (by decide) ?_
      refine x_iadd d_B_apply_66 ?_
      obtain ⟨a3, ea3⟩ : ∃ z : Int32, z = x2 + 1 := ⟨_, rfl⟩
      have h := h a3 ea3
      refine x_istore_nE (L' := [(0, .ref 39), (1, .int x1), (2, .int a3), (3, .int x3), (4, .long r2)]) [1, 2, 0, 3, 4] d_B_apply_67 (by decide) ea3 rfl ?_
      refine x_aload_n 0 d_B_apply_68 rfl ?_
      refine x_getR 11 4 40 d_B_apply_69 fg_11_23 rfl rfl rfl (Nf_58 (by decide)) ?_
      refine x_iload_n 3 d_B_apply_72 rfl ?_
      refine x_lload 4 d_B_apply_73 rfl ?_
      obtain ⟨h0, h⟩ := h
      refine x_lastE d_B_apply_75 rfl (Nf_58 (by decide)) h0 (fun w4 ew4 => ?_)
      have h := h w4 ew4
      obtain ⟨a5, ea5⟩ : ∃ z : Int32, z = x3 + 1 := ⟨_, rfl⟩
      have h := h a5 ea5
      refine x_iincE (L' := [(0, .ref 39), (1, .int x1), (2, .int a3), (3, .int a5), (4, .long r2)]) 3 [1, 2, 3, 0, 4] d_B_apply_76 rfl ea5 (by decide) rfl ?_
      refine x_goto 18 d_B_apply_79 (by decide) ?_
      exact x_perm [0, 1, 2, 3] rfl h
    · have h := h.2 c0
      refine x_iconst (v := 0) d_B_apply_61 (by decide) ?_
      refine x_goto 66 d_B_apply_62 (by decide) ?_
      refine x_iadd d_B_apply_66 ?_
      obtain ⟨a6, ea6⟩ : ∃ z : Int32, z = x2 + 0 := ⟨_, rfl⟩
      have h := h a6 ea6
      refine x_istore_nE (L' := [(0, .ref 39), (1, .int x1), (2, .int a6), (3, .int x3), (4, .long r2)]) [1, 2, 0, 3, 4] d_B_apply_67 (by decide) ea6 rfl ?_
      refine x_aload_n 0 d_B_apply_68 rfl ?_
      refine x_getR 11 4 40 d_B_apply_69 fg_11_23 rfl rfl rfl (Nf_58 (by decide)) ?_
      refine x_iload_n 3 d_B_apply_72 rfl ?_
      refine x_lload 4 d_B_apply_73 rfl ?_
      obtain ⟨h0, h⟩ := h
      refine x_lastE d_B_apply_75 rfl (Nf_58 (by decide)) h0 (fun w7 ew7 => ?_)
      have h := h w7 ew7
      obtain ⟨a8, ea8⟩ : ∃ z : Int32, z = x3 + 1 := ⟨_, rfl⟩
      have h := h a8 ea8
      refine x_iincE (L' := [(0, .ref 39), (1, .int x1), (2, .int a6), (3, .int a8), (4, .long r2)]) 3 [1, 2, 3, 0, 4] d_B_apply_76 rfl ea8 (by decide) rfl ?_
      refine x_goto 18 d_B_apply_79 (by decide) ?_
      exact x_perm [0, 1, 2, 3] rfl h
