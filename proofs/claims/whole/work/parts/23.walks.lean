set_option maxHeartbeats 1000000 in
theorem r_J_fillL {f : Nat} {p0 n0 : Nat} (hk0 : kd p0 = .inl (1, n0)) (hp0 : p0 < Nf f) {y1 : Int64} {w : Wd} {K : Wd → Prop} (h : ∀ a1 : Int32, a1 = (Int32.ofNat n0) → E f M_J_fillL 6 [(0, .ref p0), (1, .long y1), (3, .int 0), (4, .int a1)] [] w (qV f K)) : RunV f M_J_fillL [.ref p0, .long y1] w K := by
  refine runs_of (L := [(0, .ref p0), (1, .long y1)]) rfl (Nat.le_of_ble_eq_true rfl) rfl ?_
  refine x_iconst (v := 0) d_J_fillL_0 (by decide) ?_
  refine x_istore_n (L' := [(0, .ref p0), (1, .long y1), (3, .int 0)]) [1, 2, 0] d_J_fillL_1 (by decide) rfl ?_
  refine x_aload_n 0 d_J_fillL_2 rfl ?_
  refine x_alen (v := (Int32.ofNat n0)) d_J_fillL_3 hk0 (by decide) hp0 rfl ?_
  obtain ⟨a1, ea1⟩ : ∃ z : Int32, z = (Int32.ofNat n0) := ⟨_, rfl⟩
  have h := h a1 ea1
  refine x_istoreE (L' := [(0, .ref p0), (1, .long y1), (3, .int 0), (4, .int a1)]) [1, 2, 3, 0] d_J_fillL_4 (by decide) ea1 rfl ?_
  exact h
set_option maxHeartbeats 1000000 in
theorem w_J_fillL_6 {f : Nat} {p0 n0 : Nat} (hk0 : kd p0 = .inl (1, n0)) (hp0 : p0 < Nf f) {x3 x4 : Int32} {y1 : Int64} {w : Wd} {K : Wd → Prop} (h : (x4 ≤ x3 → K w) ∧ (¬ x4 ≤ x3 → vp_in x3 n0 ∧ ∀ w1 : Wd, w1 = upL w p0 x3.toNatClampNeg y1 → ∀ a2 : Int32, a2 = x3 + 1 → E f M_J_fillL 6 [(0, .ref p0), (1, .long y1), (3, .int a2), (4, .int x4)] [] w1 (qV f K))) : E f M_J_fillL 6 [(0, .ref p0), (1, .long y1), (3, .int x3), (4, .int x4)] [] w (qV f K) := by
  refine x_iload_n 2 d_J_fillL_6 rfl ?_
  refine x_iload 3 d_J_fillL_7 rfl ?_
  refine x_icmp_ge 22 d_J_fillL_9 (by decide) (fun c0 => ?_) (fun c0 => ?_)
  · have h := h.1 c0
    exact x_retV d_J_fillL_22 rfl ⟨rfl, rfl⟩ h
  · have h := h.2 c0
    refine x_aload_n 0 d_J_fillL_12 rfl ?_
    refine x_iload_n 2 d_J_fillL_13 rfl ?_
    refine x_lload_n 1 d_J_fillL_14 rfl ?_
    obtain ⟨h0, h⟩ := h
    refine x_lastE d_J_fillL_15 hk0 hp0 h0 (fun w1 ew1 => ?_)
    have h := h w1 ew1
    obtain ⟨a2, ea2⟩ : ∃ z : Int32, z = x3 + 1 := ⟨_, rfl⟩
    have h := h a2 ea2
    refine x_iincE (L' := [(0, .ref p0), (1, .long y1), (3, .int a2), (4, .int x4)]) 2 [1, 2, 0, 3] d_J_fillL_16 rfl ea2 (by decide) rfl ?_
    refine x_goto 6 d_J_fillL_19 (by decide) ?_
    exact h
set_option maxHeartbeats 1000000 in
theorem r_T_isNextDigit {w : Wd} {K : Bool → Wd → Prop} (h : ((w.1 32 3) ≤ (w.1 32 5) → K false w) ∧ (¬ (w.1 32 3) ≤ (w.1 32 5) → vp_in (w.1 32 5) 160 ∧ ((w.1 33 (w.1 32 5).toNatClampNeg) < 48 → K false w) ∧ (¬ (w.1 33 (w.1 32 5).toNatClampNeg) < 48 → vp_in (w.1 32 5) 160 ∧ (57 < (w.1 33 (w.1 32 5).toNatClampNeg) → K false w) ∧ (¬ 57 < (w.1 33 (w.1 32 5).toNatClampNeg) → K true w)))) : RunZ 1 M_T_isNextDigit [.ref 32] w K := by
  refine runs_of (L := [(0, .ref 32)]) rfl (Nat.le_of_ble_eq_true rfl) rfl ?_
  refine x_aload_n 0 d_T_isNextDigit_0 rfl ?_
  refine x_getI 9 5 d_T_isNextDigit_1 fg_9_33 rfl rfl (Nf_58 (by decide)) ?_
  refine x_aload_n 0 d_T_isNextDigit_4 rfl ?_
  refine x_getI 9 3 d_T_isNextDigit_5 fg_9_39 rfl rfl (Nf_58 (by decide)) ?_
  refine x_icmp_ge 43 d_T_isNextDigit_8 (by decide) (fun c0 => ?_) (fun c0 => ?_)
  · have h := h.1 c0
    refine x_iconst (v := 0) d_T_isNextDigit_43 (by decide) ?_
    exact x_retZ (z := false) d_T_isNextDigit_44 rfl rfl ⟨rfl, rfl⟩ h
  · have h := h.2 c0
    refine x_aload_n 0 d_T_isNextDigit_11 rfl ?_
    refine x_getR 9 1 33 d_T_isNextDigit_12 fg_9_11 rfl rfl rfl (Nf_58 (by decide)) ?_
    refine x_aload_n 0 d_T_isNextDigit_15 rfl ?_
    refine x_getI 9 5 d_T_isNextDigit_16 fg_9_33 rfl rfl (Nf_58 (by decide)) ?_
    obtain ⟨h0, h⟩ := h
    refine x_cald d_T_isNextDigit_19 rfl (Nf_58 (by decide)) h0 ?_
    refine x_bipush (v := 48) d_T_isNextDigit_20 (by decide) ?_
    refine x_icmp_lt 43 d_T_isNextDigit_22 (by decide) (fun c0 => ?_) (fun c0 => ?_)
    · have h := h.1 c0
      refine x_iconst (v := 0) d_T_isNextDigit_43 (by decide) ?_
      exact x_retZ (z := false) d_T_isNextDigit_44 rfl rfl ⟨rfl, rfl⟩ h
    · have h := h.2 c0
      refine x_aload_n 0 d_T_isNextDigit_25 rfl ?_
      refine x_getR 9 1 33 d_T_isNextDigit_26 fg_9_11 rfl rfl rfl (Nf_58 (by decide)) ?_
      refine x_aload_n 0 d_T_isNextDigit_29 rfl ?_
      refine x_getI 9 5 d_T_isNextDigit_30 fg_9_33 rfl rfl (Nf_58 (by decide)) ?_
      obtain ⟨h0, h⟩ := h
      refine x_cald d_T_isNextDigit_33 rfl (Nf_58 (by decide)) h0 ?_
      refine x_bipush (v := 57) d_T_isNextDigit_34 (by decide) ?_
      refine x_icmp_gt 43 d_T_isNextDigit_36 (by decide) (fun c0 => ?_) (fun c0 => ?_)
      · have h := h.1 c0
        refine x_iconst (v := 0) d_T_isNextDigit_43 (by decide) ?_
        exact x_retZ (z := false) d_T_isNextDigit_44 rfl rfl ⟨rfl, rfl⟩ h
      · have h := h.2 c0
        refine x_iconst (v := 1) d_T_isNextDigit_39 (by decide) ?_
        refine x_goto 44 d_T_isNextDigit_40 (by decide) ?_
        exact x_retZ (z := true) d_T_isNextDigit_44 rfl rfl ⟨rfl, rfl⟩ h
set_option maxHeartbeats 1000000 in
theorem r_T_isNext {x1 : Int32} {w : Wd} {K : Bool → Wd → Prop} (h : ((w.1 32 3) ≤ (w.1 32 5) → K false w) ∧ (¬ (w.1 32 3) ≤ (w.1 32 5) → vp_in (w.1 32 5) 160 ∧ (¬ (w.1 33 (w.1 32 5).toNatClampNeg) = x1 → K false w) ∧ ((w.1 33 (w.1 32 5).toNatClampNeg) = x1 → K true w))) : RunZ 1 M_T_isNext [.ref 32, .int x1] w K := by
  refine runs_of (L := [(0, .ref 32), (1, .int x1)]) rfl (Nat.le_of_ble_eq_true rfl) rfl ?_
  refine x_aload_n 0 d_T_isNext_0 rfl ?_
  refine x_getI 9 5 d_T_isNext_1 fg_9_33 rfl rfl (Nf_58 (by decide)) ?_
  refine x_aload_n 0 d_T_isNext_4 rfl ?_
  refine x_getI 9 3 d_T_isNext_5 fg_9_39 rfl rfl (Nf_58 (by decide)) ?_
  refine x_icmp_ge 28 d_T_isNext_8 (by decide) (fun c0 => ?_) (fun c0 => ?_)
  · have h := h.1 c0
    refine x_iconst (v := 0) d_T_isNext_28 (by decide) ?_
    exact x_retZ (z := false) d_T_isNext_29 rfl rfl ⟨rfl, rfl⟩ h
  · have h := h.2 c0
    refine x_aload_n 0 d_T_isNext_11 rfl ?_
    refine x_getR 9 1 33 d_T_isNext_12 fg_9_11 rfl rfl rfl (Nf_58 (by decide)) ?_
    refine x_aload_n 0 d_T_isNext_15 rfl ?_
    refine x_getI 9 5 d_T_isNext_16 fg_9_33 rfl rfl (Nf_58 (by decide)) ?_
    obtain ⟨h0, h⟩ := h
    refine x_cald d_T_isNext_19 rfl (Nf_58 (by decide)) h0 ?_
    refine x_iload_n 1 d_T_isNext_20 rfl ?_
    refine x_icmp_ne 28 d_T_isNext_21 (by decide) (fun c0 => ?_) (fun c0 => ?_)
    · have h := h.1 c0
      refine x_iconst (v := 0) d_T_isNext_28 (by decide) ?_
      exact x_retZ (z := false) d_T_isNext_29 rfl rfl ⟨rfl, rfl⟩ h
    · have h := h.2 c0
      refine x_iconst (v := 1) d_T_isNext_24 (by decide) ?_
      refine x_goto 29 d_T_isNext_25 (by decide) ?_
      exact x_retZ (z := true) d_T_isNext_29 rfl rfl ⟨rfl, rfl⟩ h
set_option maxHeartbeats 1000000 in
theorem r_T_parseNumber {x1 : Int32} {w : Wd} {K : Int32 → Wd → Prop} (h : ∀ a1 : Int32, a1 = w.1 32 5 → RunZ 1 M_T_isNextDigit [.ref 32] w (fun z3 w2 => (z3 = true → RunZ 1 M_T_isNext [.ref 32, .int 48] w2 (fun z5 w4 => (z5 = false → E 1 M_T_parseNumber 45 [(0, .ref 32), (1, .int x1), (2, .int a1), (3, .int 0)] [] w4 (qI 1 K)) ∧ (z5 = true → ∀ w6 : Wd, w6 = upI w4 32 5 ((w4.1 32 5) + 1) → K 0 w6))) ∧ (z3 = false → ∀ w7 : Wd, w7 = upI w2 32 6 (w2.1 32 5) → K ((-1)) w7))) : RunI 1 M_T_parseNumber [.ref 32, .int x1] w K := by
  refine runs_of (L := [(0, .ref 32), (1, .int x1)]) rfl (Nat.le_of_ble_eq_true rfl) rfl ?_
  refine x_aload_n 0 d_T_parseNumber_0 rfl ?_
  refine x_getI 9 5 d_T_parseNumber_1 fg_9_33 rfl rfl (Nf_58 (by decide)) ?_
  obtain ⟨a1, ea1⟩ : ∃ z : Int32, z = w.1 32 5 := ⟨_, rfl⟩
  have h := h a1 ea1
  refine x_istore_nE (L' := [(0, .ref 32), (1, .int x1), (2, .int a1)]) [1, 2, 0] d_T_parseNumber_4 (by decide) ea1 rfl ?_
  refine x_aload_n 0 d_T_parseNumber_5 rfl ?_
  refine x_callVZ (st := []) M_T_isNextDigit [] d_T_parseNumber_6 ml_9_69 cv_T_isNextDigit rfl rfl (Nf_58 (by decide)) rfl (Nat.le_of_ble_eq_true rfl) ⟨Nat.le_of_ble_eq_true rfl, Nat.le_of_ble_eq_true rfl⟩ ⟨rfl, rfl⟩ h (fun z3 w2 h => ?_)
  refine x_zif_ne 22 d_T_parseNumber_9 (by decide) (fun c0 => ?_) (fun c0 => ?_)
  · have h := h.1 c0
    refine x_aload_n 0 d_T_parseNumber_22 rfl ?_
    refine x_bipush (v := 48) d_T_parseNumber_23 (by decide) ?_
    refine x_callVZ (st := []) M_T_isNext [.int 48] d_T_parseNumber_25 ml_9_53 cv_T_isNext rfl rfl (Nf_58 (by decide)) rfl (Nat.le_of_ble_eq_true rfl) ⟨Nat.le_of_ble_eq_true rfl, Nat.le_of_ble_eq_true rfl⟩ ⟨rfl, rfl⟩ h (fun z5 w4 h => ?_)
    refine x_zif_eq 43 d_T_parseNumber_28 (by decide) (fun c0 => ?_) (fun c0 => ?_)
    · have h := h.1 c0
      refine x_iconst (v := 0) d_T_parseNumber_43 (by decide) ?_
      refine x_istore_n (L' := [(0, .ref 32), (1, .int x1), (2, .int a1), (3, .int 0)]) [1, 2, 3, 0] d_T_parseNumber_44 (by decide) rfl ?_
      exact h
    · have h := h.2 c0
      refine x_aload_n 0 d_T_parseNumber_31 rfl ?_
      refine x_dup d_T_parseNumber_32 rfl ?_
      refine x_getI 9 5 d_T_parseNumber_33 fg_9_33 rfl rfl (Nf_58 (by decide)) ?_
      refine x_iconst (v := 1) d_T_parseNumber_36 (by decide) ?_
      refine x_iadd d_T_parseNumber_37 ?_
      refine x_putIE 9 5 d_T_parseNumber_38 fp_9_33 rfl rfl (Nf_58 (by decide)) (fun w6 ew6 => ?_)
      have h := h w6 ew6
      refine x_iconst (v := 0) d_T_parseNumber_41 (by decide) ?_
      exact x_retI d_T_parseNumber_42 rfl ⟨rfl, rfl⟩ h
  · have h := h.2 c0
    refine x_aload_n 0 d_T_parseNumber_12 rfl ?_
    refine x_aload_n 0 d_T_parseNumber_13 rfl ?_
    refine x_getI 9 5 d_T_parseNumber_14 fg_9_33 rfl rfl (Nf_58 (by decide)) ?_
    refine x_putIE 9 6 d_T_parseNumber_17 fp_9_36 rfl rfl (Nf_58 (by decide)) (fun w7 ew7 => ?_)
    have h := h w7 ew7
    refine x_iconst (v := (-1)) d_T_parseNumber_20 (by decide) ?_
    exact x_retI d_T_parseNumber_21 rfl ⟨rfl, rfl⟩ h
set_option maxHeartbeats 1000000 in
theorem w_T_parseNumber_45 {x1 x2 x3 : Int32} {w : Wd} {K : Int32 → Wd → Prop} (h : ((w.1 32 3) ≤ (w.1 32 5) → (x3 < x1 → K x3 w) ∧ (¬ x3 < x1 → ∀ w1 : Wd, w1 = upI w 32 6 x2 → K ((-1)) w1)) ∧ (¬ (w.1 32 3) ≤ (w.1 32 5) → RunZ 1 M_T_isNextDigit [.ref 32] w (fun z3 w2 => (z3 = false → (x3 < x1 → K x3 w2) ∧ (¬ x3 < x1 → ∀ w4 : Wd, w4 = upI w2 32 6 x2 → K ((-1)) w4)) ∧ (z3 = true → vp_in (w2.1 32 5) 160 ∧ ∀ a5 : Int32, a5 = (if 1000 < (((10 * x3) + (w2.1 33 (w2.1 32 5).toNatClampNeg)) - 48) then 1000 else (((10 * x3) + (w2.1 33 (w2.1 32 5).toNatClampNeg)) - 48)) → ∀ w6 : Wd, w6 = upI w2 32 5 ((w2.1 32 5) + 1) → E 1 M_T_parseNumber 45 [(0, .ref 32), (1, .int x1), (2, .int x2), (3, .int a5)] [] w6 (qI 1 K))))) : E 1 M_T_parseNumber 45 [(0, .ref 32), (1, .int x1), (2, .int x2), (3, .int x3)] [] w (qI 1 K) := by
  refine x_aload_n 0 d_T_parseNumber_45 rfl ?_
  refine x_getI 9 5 d_T_parseNumber_46 fg_9_33 rfl rfl (Nf_58 (by decide)) ?_
  refine x_aload_n 0 d_T_parseNumber_49 rfl ?_
  refine x_getI 9 3 d_T_parseNumber_50 fg_9_39 rfl rfl (Nf_58 (by decide)) ?_
  refine x_icmp_ge 100 d_T_parseNumber_53 (by decide) (fun c0 => ?_) (fun c0 => ?_)
  · have h := h.1 c0
    refine x_iload_n 3 d_T_parseNumber_100 rfl ?_
    refine x_iload_n 1 d_T_parseNumber_101 rfl ?_
    refine x_icmp_lt 112 d_T_parseNumber_102 (by decide) (fun c0 => ?_) (fun c0 => ?_)
    · have h := h.1 c0
      refine x_iload_n 3 d_T_parseNumber_112 rfl ?_
      exact x_retI d_T_parseNumber_113 rfl ⟨rfl, rfl⟩ h
    · have h := h.2 c0
      refine x_aload_n 0 d_T_parseNumber_105 rfl ?_
      refine x_iload_n 2 d_T_parseNumber_106 rfl ?_
      refine x_putIE 9 6 d_T_parseNumber_107 fp_9_36 rfl rfl (Nf_58 (by decide)) (fun w1 ew1 => ?_)
      have h := h w1 ew1
      refine x_iconst (v := (-1)) d_T_parseNumber_110 (by decide) ?_
      exact x_retI d_T_parseNumber_111 rfl ⟨rfl, rfl⟩ h
  · have h := h.2 c0
    refine x_aload_n 0 d_T_parseNumber_56 rfl ?_
    refine x_callVZ (st := []) M_T_isNextDigit [] d_T_parseNumber_57 ml_9_69 cv_T_isNextDigit rfl rfl (Nf_58 (by decide)) rfl (Nat.le_of_ble_eq_true rfl) ⟨Nat.le_of_ble_eq_true rfl, Nat.le_of_ble_eq_true rfl⟩ ⟨rfl, rfl⟩ h (fun z3 w2 h => ?_)
    refine x_zif_eq 100 d_T_parseNumber_60 (by decide) (fun c0 => ?_) (fun c0 => ?_)
    · have h := h.1 c0
      refine x_iload_n 3 d_T_parseNumber_100 rfl ?_
      refine x_iload_n 1 d_T_parseNumber_101 rfl ?_
      refine x_icmp_lt 112 d_T_parseNumber_102 (by decide) (fun c0 => ?_) (fun c0 => ?_)
      · have h := h.1 c0
        refine x_iload_n 3 d_T_parseNumber_112 rfl ?_
        exact x_retI d_T_parseNumber_113 rfl ⟨rfl, rfl⟩ h
      · have h := h.2 c0
        refine x_aload_n 0 d_T_parseNumber_105 rfl ?_
        refine x_iload_n 2 d_T_parseNumber_106 rfl ?_
        refine x_putIE 9 6 d_T_parseNumber_107 fp_9_36 rfl rfl (Nf_58 (by decide)) (fun w4 ew4 => ?_)
        have h := h w4 ew4
        refine x_iconst (v := (-1)) d_T_parseNumber_110 (by decide) ?_
        exact x_retI d_T_parseNumber_111 rfl ⟨rfl, rfl⟩ h
    · have h := h.2 c0
      refine x_bipush (v := 10) d_T_parseNumber_63 (by decide) ?_
      refine x_iload_n 3 d_T_parseNumber_65 rfl ?_
      refine x_imul d_T_parseNumber_66 ?_
      refine x_aload_n 0 d_T_parseNumber_67 rfl ?_
      refine x_getR 9 1 33 d_T_parseNumber_68 fg_9_11 rfl rfl rfl (Nf_58 (by decide)) ?_
      refine x_aload_n 0 d_T_parseNumber_71 rfl ?_
      refine x_getI 9 5 d_T_parseNumber_72 fg_9_33 rfl rfl (Nf_58 (by decide)) ?_
      obtain ⟨h0, h⟩ := h
      refine x_cald d_T_parseNumber_75 rfl (Nf_58 (by decide)) h0 ?_
      refine x_iadd d_T_parseNumber_76 ?_
      refine x_bipush (v := 48) d_T_parseNumber_77 (by decide) ?_
      refine x_isub d_T_parseNumber_79 ?_
      refine x_sipush (v := 1000) d_T_parseNumber_80 (by decide) ?_
      refine x_mmin d_T_parseNumber_83 mth_9_73 (Nat.le_of_ble_eq_true rfl) ⟨Nat.le_of_ble_eq_true rfl, Nat.le_of_ble_eq_true rfl⟩ (Nat.zero_le _) (Nat.zero_le _) ?_
      obtain ⟨a5, ea5⟩ : ∃ z : Int32, z = (if 1000 < (((10 * x3) + (w2.1 33 (w2.1 32 5).toNatClampNeg)) - 48) then 1000 else (((10 * x3) + (w2.1 33 (w2.1 32 5).toNatClampNeg)) - 48)) := ⟨_, rfl⟩
      have h := h a5 ea5
      refine x_istore_nE (L' := [(0, .ref 32), (1, .int x1), (2, .int x2), (3, .int a5)]) [1, 2, 3, 0] d_T_parseNumber_86 (by decide) ea5 rfl ?_
      refine x_aload_n 0 d_T_parseNumber_87 rfl ?_
      refine x_dup d_T_parseNumber_88 rfl ?_
      refine x_getI 9 5 d_T_parseNumber_89 fg_9_33 rfl rfl (Nf_58 (by decide)) ?_
      refine x_iconst (v := 1) d_T_parseNumber_92 (by decide) ?_
      refine x_iadd d_T_parseNumber_93 ?_
      refine x_putIE 9 5 d_T_parseNumber_94 fp_9_33 rfl rfl (Nf_58 (by decide)) (fun w6 ew6 => ?_)
      have h := h w6 ew6
      refine x_goto 45 d_T_parseNumber_97 (by decide) ?_
      exact h
set_option maxHeartbeats 1000000 in
theorem r_T_parseElement {w : Wd} {K : Int32 → Wd → Prop} (h : RunI 1 M_T_parseNumber [.ref 32, .int (w.1 1 0)] w (fun r2 w1 => (r2 < 0 → K r2 w1) ∧ (¬ r2 < 0 → (¬ (w1.1 1 1) = 1 → RunZ 1 M_T_isNext [.ref 32, .int 46] w1 (fun z4 w3 => (z4 = true → ∀ w5 : Wd, w5 = upI w3 32 5 ((w3.1 32 5) + 1) → RunI 1 M_T_parseNumber [.ref 32, .int (w5.1 1 1)] w5 (fun r7 w6 => (0 ≤ r7 → K (((w6.1 1 1) * r2) + r7) w6) ∧ (¬ 0 ≤ r7 → K ((-1)) w6))) ∧ (z4 = false → ∀ w8 : Wd, w8 = upI w3 32 6 (w3.1 32 5) → K ((-1)) w8))) ∧ ((w1.1 1 1) = 1 → K r2 w1)))) : RunI 1 M_T_parseElement [.ref 32] w K := by
  refine runs_of (L := [(0, .ref 32)]) rfl (Nat.le_of_ble_eq_true rfl) rfl ?_
  refine x_aload_n 0 d_T_parseElement_0 rfl ?_
  refine x_aload_n 0 d_T_parseElement_1 rfl ?_
  refine x_getR 9 0 1 d_T_parseElement_2 fg_9_19 rfl rfl rfl (Nf_58 (by decide)) ?_
  refine x_getI 5 0 d_T_parseElement_5 fg_9_57 rfl rfl (Nf_58 (by decide)) ?_
  refine x_callVI (st := []) M_T_parseNumber [.int (w.1 1 0)] d_T_parseElement_8 ml_9_62 cv_T_parseNumber rfl rfl (Nf_58 (by decide)) rfl (Nat.le_of_ble_eq_true rfl) ⟨Nat.le_of_ble_eq_true rfl, Nat.le_of_ble_eq_true rfl⟩ ⟨rfl, rfl⟩ h (fun r2 w1 h => ?_)
  refine x_istore_n (L' := [(0, .ref 32), (1, .int r2)]) [1, 0] d_T_parseElement_11 (by decide) rfl ?_
  refine x_iload_n 1 d_T_parseElement_12 rfl ?_
  refine x_if_lt 27 d_T_parseElement_13 (by decide) (fun c0 => ?_) (fun c0 => ?_)
  · have h := h.1 c0
    refine x_iload_n 1 d_T_parseElement_27 rfl ?_
    exact x_retI d_T_parseElement_28 rfl ⟨rfl, rfl⟩ h
  · have h := h.2 c0
    refine x_aload_n 0 d_T_parseElement_16 rfl ?_
    refine x_getR 9 0 1 d_T_parseElement_17 fg_9_19 rfl rfl rfl (Nf_58 (by decide)) ?_
    refine x_getI 5 1 d_T_parseElement_20 fg_9_66 rfl rfl (Nf_58 (by decide)) ?_
    refine x_iconst (v := 1) d_T_parseElement_23 (by decide) ?_
    refine x_icmp_ne 29 d_T_parseElement_24 (by decide) (fun c0 => ?_) (fun c0 => ?_)
    · have h := h.1 c0
      refine x_aload_n 0 d_T_parseElement_29 rfl ?_
      refine x_bipush (v := 46) d_T_parseElement_30 (by decide) ?_
      refine x_callVZ (st := []) M_T_isNext [.int 46] d_T_parseElement_32 ml_9_53 cv_T_isNext rfl rfl (Nf_58 (by decide)) rfl (Nat.le_of_ble_eq_true rfl) ⟨Nat.le_of_ble_eq_true rfl, Nat.le_of_ble_eq_true rfl⟩ ⟨rfl, rfl⟩ h (fun z4 w3 h => ?_)
      refine x_zif_ne 48 d_T_parseElement_35 (by decide) (fun c0 => ?_) (fun c0 => ?_)
      · have h := h.1 c0
        refine x_aload_n 0 d_T_parseElement_48 rfl ?_
        refine x_dup d_T_parseElement_49 rfl ?_
        refine x_getI 9 5 d_T_parseElement_50 fg_9_33 rfl rfl (Nf_58 (by decide)) ?_
        refine x_iconst (v := 1) d_T_parseElement_53 (by decide) ?_
        refine x_iadd d_T_parseElement_54 ?_
        refine x_putIE 9 5 d_T_parseElement_55 fp_9_33 rfl rfl (Nf_58 (by decide)) (fun w5 ew5 => ?_)
        have h := h w5 ew5
        refine x_aload_n 0 d_T_parseElement_58 rfl ?_
        refine x_aload_n 0 d_T_parseElement_59 rfl ?_
        refine x_getR 9 0 1 d_T_parseElement_60 fg_9_19 rfl rfl rfl (Nf_58 (by decide)) ?_
        refine x_getI 5 1 d_T_parseElement_63 fg_9_66 rfl rfl (Nf_58 (by decide)) ?_
        refine x_callVI (st := []) M_T_parseNumber [.int (w5.1 1 1)] d_T_parseElement_66 ml_9_62 cv_T_parseNumber rfl rfl (Nf_58 (by decide)) rfl (Nat.le_of_ble_eq_true rfl) ⟨Nat.le_of_ble_eq_true rfl, Nat.le_of_ble_eq_true rfl⟩ ⟨rfl, rfl⟩ h (fun r7 w6 h => ?_)
        refine x_istore_n (L' := [(0, .ref 32), (1, .int r2), (2, .int r7)]) [1, 2, 0] d_T_parseElement_69 (by decide) rfl ?_
        refine x_iload_n 2 d_T_parseElement_70 rfl ?_
        refine x_if_ge 78 d_T_parseElement_71 (by decide) (fun c0 => ?_) (fun c0 => ?_)
        · have h := h.1 c0
          refine x_aload_n 0 d_T_parseElement_78 rfl ?_
          refine x_getR 9 0 1 d_T_parseElement_79 fg_9_19 rfl rfl rfl (Nf_58 (by decide)) ?_
          refine x_getI 5 1 d_T_parseElement_82 fg_9_66 rfl rfl (Nf_58 (by decide)) ?_
          refine x_iload_n 1 d_T_parseElement_85 rfl ?_
          refine x_imul d_T_parseElement_86 ?_
          refine x_iload_n 2 d_T_parseElement_87 rfl ?_
          refine x_iadd d_T_parseElement_88 ?_
          exact x_retI d_T_parseElement_89 rfl ⟨rfl, rfl⟩ h
        · have h := h.2 c0
          refine x_iconst (v := (-1)) d_T_parseElement_74 (by decide) ?_
          refine x_goto 89 d_T_parseElement_75 (by decide) ?_
          exact x_retI d_T_parseElement_89 rfl ⟨rfl, rfl⟩ h
      · have h := h.2 c0
        refine x_aload_n 0 d_T_parseElement_38 rfl ?_
        refine x_aload_n 0 d_T_parseElement_39 rfl ?_
        refine x_getI 9 5 d_T_parseElement_40 fg_9_33 rfl rfl (Nf_58 (by decide)) ?_
        refine x_putIE 9 6 d_T_parseElement_43 fp_9_36 rfl rfl (Nf_58 (by decide)) (fun w8 ew8 => ?_)
        have h := h w8 ew8
        refine x_iconst (v := (-1)) d_T_parseElement_46 (by decide) ?_
        exact x_retI d_T_parseElement_47 rfl ⟨rfl, rfl⟩ h
    · have h := h.2 c0
      refine x_iload_n 1 d_T_parseElement_27 rfl ?_
      exact x_retI d_T_parseElement_28 rfl ⟨rfl, rfl⟩ h
set_option maxHeartbeats 1000000 in
theorem r_T_parseBlock {w : Wd} {K : Wd → Prop} (h : E 1 M_T_parseBlock 4 [(0, .ref 32), (1, .long 0), (3, .int 0)] [] w (qV 1 K)) : RunV 1 M_T_parseBlock [.ref 32] w K := by
  refine runs_of (L := [(0, .ref 32)]) rfl (Nat.le_of_ble_eq_true rfl) rfl ?_
  refine x_lconst (v := 0) d_T_parseBlock_0 (by decide) ?_
  refine x_lstore_n (L' := [(0, .ref 32), (1, .long 0)]) [1, 0] d_T_parseBlock_1 (by decide) rfl ?_
  refine x_iconst (v := 0) d_T_parseBlock_2 (by decide) ?_
  refine x_istore_n (L' := [(0, .ref 32), (1, .long 0), (3, .int 0)]) [1, 2, 0] d_T_parseBlock_3 (by decide) rfl ?_
  exact h
set_option maxHeartbeats 1000000 in
theorem w_T_parseBlock_4 {x3 : Int32} {y1 : Int64} {w : Wd} {K : Wd → Prop} (h : (160 ≤ x3 → K w) ∧ (¬ 160 ≤ x3 → ∀ a1 : Int32, a1 = w.1 32 5 → RunI 1 M_T_parseElement [.ref 32] w (fun r3 w2 => (0 ≤ r3 → RunZ 1 M_A_holds [.long y1, .int r3] w2 (fun z5 w4 => (z5 = false → ∀ b6 : Int64, b6 = y1 ||| (1 <<< (r3.toInt64 &&& 63)) → RunZ 1 M_T_isNext [.ref 32, .int 59] w4 (fun z8 w7 => (z8 = false → RunZ 1 M_T_isNext [.ref 32, .int 44] w7 (fun z10 w9 => (z10 = true → ∀ w11 : Wd, w11 = upI w9 32 5 ((w9.1 32 5) + 1) → ∀ a12 : Int32, a12 = x3 + 1 → E 1 M_T_parseBlock 4 [(0, .ref 32), (1, .long b6), (3, .int a12)] [] w11 (qV 1 K)) ∧ (z10 = false → ∀ w13 : Wd, w13 = upI w9 32 6 (w9.1 32 5) → K w13))) ∧ (z8 = true → ∀ w14 : Wd, w14 = upI w7 32 5 ((w7.1 32 5) + 1) → vp_in (w14.1 32 4) 6 ∧ ∀ w15 : Wd, w15 = upL w14 34 (w14.1 32 4).toNatClampNeg b6 → ∀ w16 : Wd, w16 = upI w15 32 4 ((w15.1 32 4) + 1) → K w16))) ∧ (z5 = true → ∀ w17 : Wd, w17 = upI w4 32 6 a1 → K w17))) ∧ (¬ 0 ≤ r3 → K w2)))) : E 1 M_T_parseBlock 4 [(0, .ref 32), (1, .long y1), (3, .int x3)] [] w (qV 1 K) := by
  refine x_iload_n 2 d_T_parseBlock_4 rfl ?_
  refine x_sipush (v := 160) d_T_parseBlock_5 (by decide) ?_
  refine x_icmp_ge 126 d_T_parseBlock_8 (by decide) (fun c0 => ?_) (fun c0 => ?_)
  · have h := h.1 c0
    exact x_retV d_T_parseBlock_126 rfl ⟨rfl, rfl⟩ h
  · have h := h.2 c0
    refine x_aload_n 0 d_T_parseBlock_11 rfl ?_
    refine x_getI 9 5 d_T_parseBlock_12 fg_9_33 rfl rfl (Nf_58 (by decide)) ?_
    obtain ⟨a1, ea1⟩ : ∃ z : Int32, z = w.1 32 5 := ⟨_, rfl⟩
    have h := h a1 ea1
    refine x_istoreE (L' := [(0, .ref 32), (1, .long y1), (3, .int x3), (4, .int a1)]) [1, 2, 3, 0] d_T_parseBlock_15 (by decide) ea1 rfl ?_
    refine x_aload_n 0 d_T_parseBlock_17 rfl ?_
    refine x_callVI (st := []) M_T_parseElement [] d_T_parseBlock_18 ml_9_45 cv_T_parseElement rfl rfl (Nf_58 (by decide)) rfl (Nat.le_of_ble_eq_true rfl) ⟨Nat.le_of_ble_eq_true rfl, Nat.le_of_ble_eq_true rfl⟩ ⟨rfl, rfl⟩ h (fun r3 w2 h => ?_)
    refine x_istore (L' := [(0, .ref 32), (1, .long y1), (3, .int x3), (4, .int a1), (5, .int r3)]) [1, 2, 3, 4, 0] d_T_parseBlock_21 (by decide) rfl ?_
    refine x_iload 4 d_T_parseBlock_23 rfl ?_
    refine x_if_ge 29 d_T_parseBlock_25 (by decide) (fun c0 => ?_) (fun c0 => ?_)
    · have h := h.1 c0
      refine x_lload_n 1 d_T_parseBlock_29 rfl ?_
      refine x_iload 4 d_T_parseBlock_30 rfl ?_
      refine x_callSZ (st := []) M_A_holds [.long y1, .int r3] d_T_parseBlock_32 ml_9_49 cv_A_holds rfl (Nat.le_of_ble_eq_true rfl) ⟨Nat.le_of_ble_eq_true rfl, Nat.le_of_ble_eq_true rfl⟩ ⟨rfl, rfl⟩ h (fun z5 w4 h => ?_)
      refine x_zif_eq 45 d_T_parseBlock_35 (by decide) (fun c0 => ?_) (fun c0 => ?_)
      · have h := h.1 c0
        refine x_lload_n 1 d_T_parseBlock_45 rfl ?_
        refine x_lconst (v := 1) d_T_parseBlock_46 (by decide) ?_
        refine x_iload 4 d_T_parseBlock_47 rfl ?_
        refine x_lshl d_T_parseBlock_49 ?_
        refine x_lor d_T_parseBlock_50 ?_
        obtain ⟨b6, eb6⟩ : ∃ z : Int64, z = y1 ||| (1 <<< (r3.toInt64 &&& 63)) := ⟨_, rfl⟩
        have h := h b6 eb6
        refine x_lstore_nE (L' := [(0, .ref 32), (1, .long b6), (3, .int x3), (4, .int a1), (5, .int r3)]) [1, 0, 2, 3, 4] d_T_parseBlock_51 (by decide) eb6 rfl ?_
        refine x_aload_n 0 d_T_parseBlock_52 rfl ?_
        refine x_bipush (v := 59) d_T_parseBlock_53 (by decide) ?_
        refine x_callVZ (st := []) M_T_isNext [.int 59] d_T_parseBlock_55 ml_9_53 cv_T_isNext rfl rfl (Nf_58 (by decide)) rfl (Nat.le_of_ble_eq_true rfl) ⟨Nat.le_of_ble_eq_true rfl, Nat.le_of_ble_eq_true rfl⟩ ⟨rfl, rfl⟩ h (fun z8 w7 h => ?_)
        refine x_zif_eq 92 d_T_parseBlock_58 (by decide) (fun c0 => ?_) (fun c0 => ?_)
        · have h := h.1 c0
          refine x_aload_n 0 d_T_parseBlock_92 rfl ?_
          refine x_bipush (v := 44) d_T_parseBlock_93 (by decide) ?_
          refine x_callVZ (st := []) M_T_isNext [.int 44] d_T_parseBlock_95 ml_9_53 cv_T_isNext rfl rfl (Nf_58 (by decide)) rfl (Nat.le_of_ble_eq_true rfl) ⟨Nat.le_of_ble_eq_true rfl, Nat.le_of_ble_eq_true rfl⟩ ⟨rfl, rfl⟩ h (fun z10 w9 h => ?_)
          refine x_zif_ne 110 d_T_parseBlock_98 (by decide) (fun c0 => ?_) (fun c0 => ?_)
          · have h := h.1 c0
            refine x_aload_n 0 d_T_parseBlock_110 rfl ?_
            refine x_dup d_T_parseBlock_111 rfl ?_
            refine x_getI 9 5 d_T_parseBlock_112 fg_9_33 rfl rfl (Nf_58 (by decide)) ?_
            refine x_iconst (v := 1) d_T_parseBlock_115 (by decide) ?_
            refine x_iadd d_T_parseBlock_116 ?_
            refine x_putIE 9 5 d_T_parseBlock_117 fp_9_33 rfl rfl (Nf_58 (by decide)) (fun w11 ew11 => ?_)
            have h := h w11 ew11
            obtain ⟨a12, ea12⟩ : ∃ z : Int32, z = x3 + 1 := ⟨_, rfl⟩
            have h := h a12 ea12
            refine x_iincE (L' := [(0, .ref 32), (1, .long b6), (3, .int a12), (4, .int a1), (5, .int r3)]) 2 [1, 2, 0, 3, 4] d_T_parseBlock_120 rfl ea12 (by decide) rfl ?_
            refine x_goto 4 d_T_parseBlock_123 (by decide) ?_
            exact x_perm [0, 1, 2] rfl h
          · have h := h.2 c0
            refine x_aload_n 0 d_T_parseBlock_101 rfl ?_
            refine x_aload_n 0 d_T_parseBlock_102 rfl ?_
            refine x_getI 9 5 d_T_parseBlock_103 fg_9_33 rfl rfl (Nf_58 (by decide)) ?_
            refine x_putIE 9 6 d_T_parseBlock_106 fp_9_36 rfl rfl (Nf_58 (by decide)) (fun w13 ew13 => ?_)
            have h := h w13 ew13
            exact x_retV d_T_parseBlock_109 rfl ⟨rfl, rfl⟩ h
        · have h := h.2 c0
          refine x_aload_n 0 d_T_parseBlock_61 rfl ?_
          refine x_dup d_T_parseBlock_62 rfl ?_
          refine x_getI 9 5 d_T_parseBlock_63 fg_9_33 rfl rfl (Nf_58 (by decide)) ?_
          refine x_iconst (v := 1) d_T_parseBlock_66 (by decide) ?_
          refine x_iadd d_T_parseBlock_67 ?_
          refine x_putIE 9 5 d_T_parseBlock_68 fp_9_33 rfl rfl (Nf_58 (by decide)) (fun w14 ew14 => ?_)
          have h := h w14 ew14
          refine x_aload_n 0 d_T_parseBlock_71 rfl ?_
          refine x_getR 9 2 34 d_T_parseBlock_72 fg_9_15 rfl rfl rfl (Nf_58 (by decide)) ?_
          refine x_aload_n 0 d_T_parseBlock_75 rfl ?_
          refine x_getI 9 4 d_T_parseBlock_76 fg_9_29 rfl rfl (Nf_58 (by decide)) ?_
          refine x_lload_n 1 d_T_parseBlock_79 rfl ?_
          obtain ⟨h0, h⟩ := h
          refine x_lastE d_T_parseBlock_80 rfl (Nf_58 (by decide)) h0 (fun w15 ew15 => ?_)
          have h := h w15 ew15
          refine x_aload_n 0 d_T_parseBlock_81 rfl ?_
          refine x_dup d_T_parseBlock_82 rfl ?_
          refine x_getI 9 4 d_T_parseBlock_83 fg_9_29 rfl rfl (Nf_58 (by decide)) ?_
          refine x_iconst (v := 1) d_T_parseBlock_86 (by decide) ?_
          refine x_iadd d_T_parseBlock_87 ?_
          refine x_putIE 9 4 d_T_parseBlock_88 fp_9_29 rfl rfl (Nf_58 (by decide)) (fun w16 ew16 => ?_)
          have h := h w16 ew16
          exact x_retV d_T_parseBlock_91 rfl ⟨rfl, rfl⟩ h
      · have h := h.2 c0
        refine x_aload_n 0 d_T_parseBlock_38 rfl ?_
        refine x_iload 3 d_T_parseBlock_39 rfl ?_
        refine x_putIE 9 6 d_T_parseBlock_41 fp_9_36 rfl rfl (Nf_58 (by decide)) (fun w17 ew17 => ?_)
        have h := h w17 ew17
        exact x_retV d_T_parseBlock_44 rfl ⟨rfl, rfl⟩ h
    · have h := h.2 c0
      exact x_retV d_T_parseBlock_28 rfl ⟨rfl, rfl⟩ h
set_option maxHeartbeats 1000000 in
theorem r_T_parse {w : Wd} {K : Wd → Prop} (h : RunV 1 M_J_fillL [.ref 34, .long 0] w (fun w1 => ∀ w2 : Wd, w2 = upI w1 32 4 0 → ∀ w3 : Wd, w3 = upI w2 32 5 0 → ∀ w4 : Wd, w4 = upI w3 32 6 ((-4)) → E 1 M_T_parse 26 [(0, .ref 32), (1, .int 0)] [] w4 (qV 1 K))) : RunV 1 M_T_parse [.ref 32] w K := by
  refine runs_of (L := [(0, .ref 32)]) rfl (Nat.le_of_ble_eq_true rfl) rfl ?_
  refine x_aload_n 0 d_T_parse_0 rfl ?_
  refine x_getR 9 2 34 d_T_parse_1 fg_9_15 rfl rfl rfl (Nf_58 (by decide)) ?_
  refine x_lconst (v := 0) d_T_parse_4 (by decide) ?_
  refine x_callSV (st := []) M_J_fillL [.ref 34, .long 0] d_T_parse_5 ml_9_23 cv_J_fillL rfl (Nat.le_of_ble_eq_true rfl) ⟨Nat.le_of_ble_eq_true rfl, Nat.le_of_ble_eq_true rfl⟩ ⟨rfl, rfl⟩ h (fun w1 h => ?_)
  refine x_aload_n 0 d_T_parse_8 rfl ?_
  refine x_iconst (v := 0) d_T_parse_9 (by decide) ?_
  refine x_putIE 9 4 d_T_parse_10 fp_9_29 rfl rfl (Nf_58 (by decide)) (fun w2 ew2 => ?_)
  have h := h w2 ew2
  refine x_aload_n 0 d_T_parse_13 rfl ?_
  refine x_iconst (v := 0) d_T_parse_14 (by decide) ?_
  refine x_putIE 9 5 d_T_parse_15 fp_9_33 rfl rfl (Nf_58 (by decide)) (fun w3 ew3 => ?_)
  have h := h w3 ew3
  refine x_aload_n 0 d_T_parse_18 rfl ?_
  refine x_bipush (v := (-4)) d_T_parse_19 (by decide) ?_
  refine x_putIE 9 6 d_T_parse_21 fp_9_36 rfl rfl (Nf_58 (by decide)) (fun w4 ew4 => ?_)
  have h := h w4 ew4
  refine x_iconst (v := 0) d_T_parse_24 (by decide) ?_
  refine x_istore_n (L' := [(0, .ref 32), (1, .int 0)]) [1, 0] d_T_parse_25 (by decide) rfl ?_
  exact h
set_option maxHeartbeats 1000000 in
theorem w_T_parse_26 {x1 : Int32} {w : Wd} {K : Wd → Prop} (h : (6 ≤ x1 → (¬ (w.1 32 6) = ((-4)) → K w) ∧ ((w.1 32 6) = ((-4)) → ((w.1 32 3) ≤ (w.1 32 5) → K w) ∧ (¬ (w.1 32 3) ≤ (w.1 32 5) → ∀ w1 : Wd, w1 = upI w 32 6 (w.1 32 5) → K w1))) ∧ (¬ 6 ≤ x1 → (¬ (w.1 32 6) = ((-4)) → (¬ (w.1 32 6) = ((-4)) → K w) ∧ ((w.1 32 6) = ((-4)) → ((w.1 32 3) ≤ (w.1 32 5) → K w) ∧ (¬ (w.1 32 3) ≤ (w.1 32 5) → ∀ w2 : Wd, w2 = upI w 32 6 (w.1 32 5) → K w2))) ∧ ((w.1 32 6) = ((-4)) → ((w.1 32 3) ≤ (w.1 32 5) → (¬ (w.1 32 6) = ((-4)) → K w) ∧ ((w.1 32 6) = ((-4)) → ((w.1 32 3) ≤ (w.1 32 5) → K w) ∧ (¬ (w.1 32 3) ≤ (w.1 32 5) → ∀ w3 : Wd, w3 = upI w 32 6 (w.1 32 5) → K w3))) ∧ (¬ (w.1 32 3) ≤ (w.1 32 5) → RunV 1 M_T_parseBlock [.ref 32] w (fun w4 => ∀ a5 : Int32, a5 = x1 + 1 → E 1 M_T_parse 26 [(0, .ref 32), (1, .int a5)] [] w4 (qV 1 K)))))) : E 1 M_T_parse 26 [(0, .ref 32), (1, .int x1)] [] w (qV 1 K) := by
  refine x_iload_n 1 d_T_parse_26 rfl ?_
  refine x_bipush (v := 6) d_T_parse_27 (by decide) ?_
  refine x_icmp_ge 62 d_T_parse_29 (by decide) (fun c0 => ?_) (fun c0 => ?_)
  · have h := h.1 c0
    refine x_aload_n 0 d_T_parse_62 rfl ?_
    refine x_getI 9 6 d_T_parse_63 fg_9_36 rfl rfl (Nf_58 (by decide)) ?_
    refine x_bipush (v := (-4)) d_T_parse_66 (by decide) ?_
    refine x_icmp_ne 90 d_T_parse_68 (by decide) (fun c0 => ?_) (fun c0 => ?_)
    · have h := h.1 c0
      exact x_retV d_T_parse_90 rfl ⟨rfl, rfl⟩ h
    · have h := h.2 c0
      refine x_aload_n 0 d_T_parse_71 rfl ?_
      refine x_getI 9 5 d_T_parse_72 fg_9_33 rfl rfl (Nf_58 (by decide)) ?_
      refine x_aload_n 0 d_T_parse_75 rfl ?_
      refine x_getI 9 3 d_T_parse_76 fg_9_39 rfl rfl (Nf_58 (by decide)) ?_
      refine x_icmp_ge 90 d_T_parse_79 (by decide) (fun c0 => ?_) (fun c0 => ?_)
      · have h := h.1 c0
        exact x_retV d_T_parse_90 rfl ⟨rfl, rfl⟩ h
      · have h := h.2 c0
        refine x_aload_n 0 d_T_parse_82 rfl ?_
        refine x_aload_n 0 d_T_parse_83 rfl ?_
        refine x_getI 9 5 d_T_parse_84 fg_9_33 rfl rfl (Nf_58 (by decide)) ?_
        refine x_putIE 9 6 d_T_parse_87 fp_9_36 rfl rfl (Nf_58 (by decide)) (fun w1 ew1 => ?_)
        have h := h w1 ew1
        exact x_retV d_T_parse_90 rfl ⟨rfl, rfl⟩ h
  · have h := h.2 c0
    refine x_aload_n 0 d_T_parse_32 rfl ?_
    refine x_getI 9 6 d_T_parse_33 fg_9_36 rfl rfl (Nf_58 (by decide)) ?_
    refine x_bipush (v := (-4)) d_T_parse_36 (by decide) ?_
    refine x_icmp_ne 62 d_T_parse_38 (by decide) (fun c0 => ?_) (fun c0 => ?_)
    · have h := h.1 c0
      refine x_aload_n 0 d_T_parse_62 rfl ?_
      refine x_getI 9 6 d_T_parse_63 fg_9_36 rfl rfl (Nf_58 (by decide)) ?_
      refine x_bipush (v := (-4)) d_T_parse_66 (by decide) ?_
      refine x_icmp_ne 90 d_T_parse_68 (by decide) (fun c0 => ?_) (fun c0 => ?_)
      · have h := h.1 c0
        exact x_retV d_T_parse_90 rfl ⟨rfl, rfl⟩ h
      · have h := h.2 c0
        refine x_aload_n 0 d_T_parse_71 rfl ?_
        refine x_getI 9 5 d_T_parse_72 fg_9_33 rfl rfl (Nf_58 (by decide)) ?_
        refine x_aload_n 0 d_T_parse_75 rfl ?_
        refine x_getI 9 3 d_T_parse_76 fg_9_39 rfl rfl (Nf_58 (by decide)) ?_
        refine x_icmp_ge 90 d_T_parse_79 (by decide) (fun c0 => ?_) (fun c0 => ?_)
        · have h := h.1 c0
          exact x_retV d_T_parse_90 rfl ⟨rfl, rfl⟩ h
        · have h := h.2 c0
          refine x_aload_n 0 d_T_parse_82 rfl ?_
          refine x_aload_n 0 d_T_parse_83 rfl ?_
          refine x_getI 9 5 d_T_parse_84 fg_9_33 rfl rfl (Nf_58 (by decide)) ?_
          refine x_putIE 9 6 d_T_parse_87 fp_9_36 rfl rfl (Nf_58 (by decide)) (fun w2 ew2 => ?_)
          have h := h w2 ew2
          exact x_retV d_T_parse_90 rfl ⟨rfl, rfl⟩ h
    · have h := h.2 c0
      refine x_aload_n 0 d_T_parse_41 rfl ?_
      refine x_getI 9 5 d_T_parse_42 fg_9_33 rfl rfl (Nf_58 (by decide)) ?_
      refine x_aload_n 0 d_T_parse_45 rfl ?_
      refine x_getI 9 3 d_T_parse_46 fg_9_39 rfl rfl (Nf_58 (by decide)) ?_
      refine x_icmp_ge 62 d_T_parse_49 (by decide) (fun c0 => ?_) (fun c0 => ?_)
      · have h := h.1 c0
        refine x_aload_n 0 d_T_parse_62 rfl ?_
        refine x_getI 9 6 d_T_parse_63 fg_9_36 rfl rfl (Nf_58 (by decide)) ?_
        refine x_bipush (v := (-4)) d_T_parse_66 (by decide) ?_
        refine x_icmp_ne 90 d_T_parse_68 (by decide) (fun c0 => ?_) (fun c0 => ?_)
        · have h := h.1 c0
          exact x_retV d_T_parse_90 rfl ⟨rfl, rfl⟩ h
        · have h := h.2 c0
          refine x_aload_n 0 d_T_parse_71 rfl ?_
          refine x_getI 9 5 d_T_parse_72 fg_9_33 rfl rfl (Nf_58 (by decide)) ?_
          refine x_aload_n 0 d_T_parse_75 rfl ?_
          refine x_getI 9 3 d_T_parse_76 fg_9_39 rfl rfl (Nf_58 (by decide)) ?_
          refine x_icmp_ge 90 d_T_parse_79 (by decide) (fun c0 => ?_) (fun c0 => ?_)
          · have h := h.1 c0
            exact x_retV d_T_parse_90 rfl ⟨rfl, rfl⟩ h
          · have h := h.2 c0
            refine x_aload_n 0 d_T_parse_82 rfl ?_
            refine x_aload_n 0 d_T_parse_83 rfl ?_
            refine x_getI 9 5 d_T_parse_84 fg_9_33 rfl rfl (Nf_58 (by decide)) ?_
            refine x_putIE 9 6 d_T_parse_87 fp_9_36 rfl rfl (Nf_58 (by decide)) (fun w3 ew3 => ?_)
            have h := h w3 ew3
            exact x_retV d_T_parse_90 rfl ⟨rfl, rfl⟩ h
      · have h := h.2 c0
        refine x_aload_n 0 d_T_parse_52 rfl ?_
        refine x_callVV (st := []) M_T_parseBlock [] d_T_parse_53 ml_9_42 cv_T_parseBlock rfl rfl (Nf_58 (by decide)) rfl (Nat.le_of_ble_eq_true rfl) ⟨Nat.le_of_ble_eq_true rfl, Nat.le_of_ble_eq_true rfl⟩ ⟨rfl, rfl⟩ h (fun w4 h => ?_)
        obtain ⟨a5, ea5⟩ : ∃ z : Int32, z = x1 + 1 := ⟨_, rfl⟩
        have h := h a5 ea5
        refine x_iincE (L' := [(0, .ref 32), (1, .int a5)]) 1 [1, 0] d_T_parse_56 rfl ea5 (by decide) rfl ?_
        refine x_goto 26 d_T_parse_59 (by decide) ?_
        exact h
set_option maxHeartbeats 1000000 in
theorem r_A_faultPosition {w : Wd} {K : Int32 → Wd → Prop} (h : RunV 1 M_T_parse [.ref 32] w (fun w1 => K (w1.1 32 6) w1)) : RunI 1 M_A_faultPosition [.ref 0] w K := by
  refine runs_of (L := [(0, .ref 0)]) rfl (Nat.le_of_ble_eq_true rfl) rfl ?_
  refine x_aload_n 0 d_A_faultPosition_0 rfl ?_
  refine x_getR 10 9 32 d_A_faultPosition_1 fg_10_80 rfl rfl rfl (Nf_58 (by decide)) ?_
  refine x_callVV (st := []) M_T_parse [] d_A_faultPosition_4 ml_10_324 cv_T_parse rfl rfl (Nf_58 (by decide)) rfl (Nat.le_of_ble_eq_true rfl) ⟨Nat.le_of_ble_eq_true rfl, Nat.le_of_ble_eq_true rfl⟩ ⟨rfl, rfl⟩ h (fun w1 h => ?_)
  refine x_aload_n 0 d_A_faultPosition_7 rfl ?_
  refine x_getR 10 9 32 d_A_faultPosition_8 fg_10_80 rfl rfl rfl (Nf_58 (by decide)) ?_
  refine x_getI 9 6 d_A_faultPosition_11 fg_10_327 rfl rfl (Nf_58 (by decide)) ?_
  exact x_retI d_A_faultPosition_14 rfl ⟨rfl, rfl⟩ h
set_option maxHeartbeats 1000000 in
theorem r_A_filledBlocks {w : Wd} {K : Int32 → Wd → Prop} (h : E 1 M_A_filledBlocks 4 [(0, .ref 0), (1, .int 0), (2, .int 0)] [] w (qI 1 K)) : RunI 1 M_A_filledBlocks [.ref 0] w K := by
  refine runs_of (L := [(0, .ref 0)]) rfl (Nat.le_of_ble_eq_true rfl) rfl ?_
  refine x_iconst (v := 0) d_A_filledBlocks_0 (by decide) ?_
  refine x_istore_n (L' := [(0, .ref 0), (1, .int 0)]) [1, 0] d_A_filledBlocks_1 (by decide) rfl ?_
  refine x_iconst (v := 0) d_A_filledBlocks_2 (by decide) ?_
  refine x_istore_n (L' := [(0, .ref 0), (1, .int 0), (2, .int 0)]) [1, 2, 0] d_A_filledBlocks_3 (by decide) rfl ?_
  exact h
set_option maxHeartbeats 1000000 in
theorem w_A_filledBlocks_4 {x1 x2 : Int32} {w : Wd} {K : Int32 → Wd → Prop} (h : (6 ≤ x2 → K x1 w) ∧ (¬ 6 ≤ x2 → vp_in x2 6 ∧ ((w.2 10 x2.toNatClampNeg) = 0 → ∀ a1 : Int32, a1 = x2 + 1 → E 1 M_A_filledBlocks 4 [(0, .ref 0), (1, .int x1), (2, .int a1)] [] w (qI 1 K)) ∧ (¬ (w.2 10 x2.toNatClampNeg) = 0 → ∀ a2 : Int32, a2 = x1 + 1 → ∀ a3 : Int32, a3 = x2 + 1 → E 1 M_A_filledBlocks 4 [(0, .ref 0), (1, .int a2), (2, .int a3)] [] w (qI 1 K)))) : E 1 M_A_filledBlocks 4 [(0, .ref 0), (1, .int x1), (2, .int x2)] [] w (qI 1 K) := by
  refine x_iload_n 2 d_A_filledBlocks_4 rfl ?_
  refine x_bipush (v := 6) d_A_filledBlocks_5 (by decide) ?_
  refine x_icmp_ge 30 d_A_filledBlocks_7 (by decide) (fun c0 => ?_) (fun c0 => ?_)
  · have h := h.1 c0
    refine x_iload_n 1 d_A_filledBlocks_30 rfl ?_
    exact x_retI d_A_filledBlocks_31 rfl ⟨rfl, rfl⟩ h
  · have h := h.2 c0
    refine x_aload_n 0 d_A_filledBlocks_10 rfl ?_
    refine x_getR 10 1 10 d_A_filledBlocks_11 fg_10_25 rfl rfl rfl (Nf_58 (by decide)) ?_
    refine x_iload_n 2 d_A_filledBlocks_14 rfl ?_
    obtain ⟨h0, h⟩ := h
    refine x_lald d_A_filledBlocks_15 rfl (Nf_58 (by decide)) h0 ?_
    refine x_lconst (v := 0) d_A_filledBlocks_16 (by decide) ?_
    refine x_lif_eq 24 d_A_filledBlocks_17 d_A_filledBlocks_18 (by decide) (fun c0 => ?_) (fun c0 => ?_)
    · have h := h.1 c0
      obtain ⟨a1, ea1⟩ : ∃ z : Int32, z = x2 + 1 := ⟨_, rfl⟩
      have h := h a1 ea1
      refine x_iincE (L' := [(0, .ref 0), (1, .int x1), (2, .int a1)]) 2 [1, 2, 0] d_A_filledBlocks_24 rfl ea1 (by decide) rfl ?_
      refine x_goto 4 d_A_filledBlocks_27 (by decide) ?_
      exact h
    · have h := h.2 c0
      obtain ⟨a2, ea2⟩ : ∃ z : Int32, z = x1 + 1 := ⟨_, rfl⟩
      have h := h a2 ea2
      refine x_iincE (L' := [(0, .ref 0), (1, .int a2), (2, .int x2)]) 1 [1, 0, 2] d_A_filledBlocks_21 rfl ea2 (by decide) rfl ?_
      obtain ⟨a3, ea3⟩ : ∃ z : Int32, z = x2 + 1 := ⟨_, rfl⟩
      have h := h a3 ea3
      refine x_iincE (L' := [(0, .ref 0), (1, .int a2), (2, .int a3)]) 2 [1, 2, 0] d_A_filledBlocks_24 rfl ea3 (by decide) rfl ?_
      refine x_goto 4 d_A_filledBlocks_27 (by decide) ?_
      exact h
set_option maxHeartbeats 1000000 in
theorem r_F_greatest {w : Wd} {K : Int32 → Wd → Prop} (h : E 1 M_F_greatest 4 [(0, .ref 8), (1, .int 0), (2, .int 1)] [] w (qI 1 K)) : RunI 1 M_F_greatest [.ref 8] w K := by
  refine runs_of (L := [(0, .ref 8)]) rfl (Nat.le_of_ble_eq_true rfl) rfl ?_
  refine x_iconst (v := 0) d_F_greatest_0 (by decide) ?_
  refine x_istore_n (L' := [(0, .ref 8), (1, .int 0)]) [1, 0] d_F_greatest_1 (by decide) rfl ?_
  refine x_iconst (v := 1) d_F_greatest_2 (by decide) ?_
  refine x_istore_n (L' := [(0, .ref 8), (1, .int 0), (2, .int 1)]) [1, 2, 0] d_F_greatest_3 (by decide) rfl ?_
  exact h
set_option maxHeartbeats 1000000 in
theorem w_F_greatest_4 {x1 x2 : Int32} {w : Wd} {K : Int32 → Wd → Prop} (h : ((w.1 1 2) ≤ x2 → K x1 w) ∧ (¬ (w.1 1 2) ≤ x2 → vp_in x2 40 ∧ ∀ a1 : Int32, a1 = (if x1 < (w.1 9 x2.toNatClampNeg) then (w.1 9 x2.toNatClampNeg) else x1) → ∀ a2 : Int32, a2 = x2 + 1 → E 1 M_F_greatest 4 [(0, .ref 8), (1, .int a1), (2, .int a2)] [] w (qI 1 K))) : E 1 M_F_greatest 4 [(0, .ref 8), (1, .int x1), (2, .int x2)] [] w (qI 1 K) := by
  refine x_iload_n 2 d_F_greatest_4 rfl ?_
  refine x_aload_n 0 d_F_greatest_5 rfl ?_
  refine x_getR 1 0 1 d_F_greatest_6 fg_1_15 rfl rfl rfl (Nf_58 (by decide)) ?_
  refine x_getI 5 2 d_F_greatest_9 fg_1_29 rfl rfl (Nf_58 (by decide)) ?_
  refine x_icmp_ge 32 d_F_greatest_12 (by decide) (fun c0 => ?_) (fun c0 => ?_)
  · have h := h.1 c0
    refine x_iload_n 1 d_F_greatest_32 rfl ?_
    exact x_retI d_F_greatest_33 rfl ⟨rfl, rfl⟩ h
  · have h := h.2 c0
    refine x_iload_n 1 d_F_greatest_15 rfl ?_
    refine x_aload_n 0 d_F_greatest_16 rfl ?_
    refine x_getR 1 1 9 d_F_greatest_17 fg_1_9 rfl rfl rfl (Nf_58 (by decide)) ?_
    refine x_iload_n 2 d_F_greatest_20 rfl ?_
    obtain ⟨h0, h⟩ := h
    refine x_iald d_F_greatest_21 rfl (Nf_58 (by decide)) h0 ?_
    refine x_mmax d_F_greatest_22 mth_1_59 (Nat.le_of_ble_eq_true rfl) ⟨Nat.le_of_ble_eq_true rfl, Nat.le_of_ble_eq_true rfl⟩ (Nat.zero_le _) (Nat.zero_le _) ?_
    obtain ⟨a1, ea1⟩ : ∃ z : Int32, z = (if x1 < (w.1 9 x2.toNatClampNeg) then (w.1 9 x2.toNatClampNeg) else x1) := ⟨_, rfl⟩
    have h := h a1 ea1
    refine x_istore_nE (L' := [(0, .ref 8), (1, .int a1), (2, .int x2)]) [1, 0, 2] d_F_greatest_25 (by decide) ea1 rfl ?_
    obtain ⟨a2, ea2⟩ : ∃ z : Int32, z = x2 + 1 := ⟨_, rfl⟩
    have h := h a2 ea2
    refine x_iincE (L' := [(0, .ref 8), (1, .int a1), (2, .int a2)]) 2 [1, 2, 0] d_F_greatest_26 rfl ea2 (by decide) rfl ?_
    refine x_goto 4 d_F_greatest_29 (by decide) ?_
    exact h
set_option maxHeartbeats 1000000 in
theorem r_A_greatestCount {w : Wd} {K : Int32 → Wd → Prop} (h : RunV 1 M_F_tally [.ref 8, .ref 10] w (fun w1 => RunI 1 M_F_greatest [.ref 8] w1 (fun r3 w2 => K r3 w2))) : RunI 1 M_A_greatestCount [.ref 0] w K := by
  refine runs_of (L := [(0, .ref 0)]) rfl (Nat.le_of_ble_eq_true rfl) rfl ?_
  refine x_aload_n 0 d_A_greatestCount_0 rfl ?_
  refine x_getR 10 3 8 d_A_greatestCount_1 fg_10_36 rfl rfl rfl (Nf_58 (by decide)) ?_
  refine x_aload_n 0 d_A_greatestCount_4 rfl ?_
  refine x_getR 10 1 10 d_A_greatestCount_5 fg_10_25 rfl rfl rfl (Nf_58 (by decide)) ?_
  refine x_callVV (st := []) M_F_tally [.ref 10] d_A_greatestCount_8 ml_10_185 cv_F_tally rfl rfl (Nf_58 (by decide)) rfl (Nat.le_of_ble_eq_true rfl) ⟨Nat.le_of_ble_eq_true rfl, Nat.le_of_ble_eq_true rfl⟩ ⟨rfl, rfl⟩ h (fun w1 h => ?_)
  refine x_aload_n 0 d_A_greatestCount_11 rfl ?_
  refine x_getR 10 3 8 d_A_greatestCount_12 fg_10_36 rfl rfl rfl (Nf_58 (by decide)) ?_
  refine x_callVI (st := []) M_F_greatest [] d_A_greatestCount_15 ml_10_227 cv_F_greatest rfl rfl (Nf_58 (by decide)) rfl (Nat.le_of_ble_eq_true rfl) ⟨Nat.le_of_ble_eq_true rfl, Nat.le_of_ble_eq_true rfl⟩ ⟨rfl, rfl⟩ h (fun r3 w2 h => ?_)
  exact x_retI d_A_greatestCount_18 rfl ⟨rfl, rfl⟩ h
set_option maxHeartbeats 1000000 in
theorem r_G_imageBy {x1 x2 : Int32} {w : Wd} {K : Int32 → Wd → Prop} (h : vp_in x1 480 ∧ vp_in x2 40 ∧ RunI 1 M_G_times [.ref 1, .int (w.1 6 x1.toNatClampNeg), .int (w.1 2 x2.toNatClampNeg)] w (fun r2 w1 => vp_in x1 480 ∧ vp_in x2 40 ∧ RunI 1 M_G_times [.ref 1, .int (w1.1 7 x1.toNatClampNeg), .int (w1.1 3 x2.toNatClampNeg)] w1 (fun r4 w3 => RunI 1 M_G_plus [.ref 1, .int r2, .int r4] w3 (fun r6 w5 => K r6 w5)))) : RunI 1 M_G_imageBy [.ref 1, .int x1, .int x2] w K := by
  refine runs_of (L := [(0, .ref 1), (1, .int x1), (2, .int x2)]) rfl (Nat.le_of_ble_eq_true rfl) rfl ?_
  refine x_aload_n 0 d_G_imageBy_0 rfl ?_
  refine x_aload_n 0 d_G_imageBy_1 rfl ?_
  refine x_getR 5 10 6 d_G_imageBy_2 fg_5_24 rfl rfl rfl (Nf_58 (by decide)) ?_
  refine x_iload_n 1 d_G_imageBy_5 rfl ?_
  obtain ⟨h0, h⟩ := h
  refine x_iald d_G_imageBy_6 rfl (Nf_58 (by decide)) h0 ?_
  refine x_aload_n 0 d_G_imageBy_7 rfl ?_
  refine x_getR 5 6 2 d_G_imageBy_8 fg_5_9 rfl rfl rfl (Nf_58 (by decide)) ?_
  refine x_iload_n 2 d_G_imageBy_11 rfl ?_
  obtain ⟨h0, h⟩ := h
  refine x_iald d_G_imageBy_12 rfl (Nf_58 (by decide)) h0 ?_
  refine x_callVI (st := []) M_G_times [.int (w.1 6 x1.toNatClampNeg), .int (w.1 2 x2.toNatClampNeg)] d_G_imageBy_13 ml_5_73 cv_G_times rfl rfl (Nf_58 (by decide)) rfl (Nat.le_of_ble_eq_true rfl) ⟨Nat.le_of_ble_eq_true rfl, Nat.le_of_ble_eq_true rfl⟩ ⟨rfl, rfl⟩ h (fun r2 w1 h => ?_)
  refine x_istore_n (L' := [(0, .ref 1), (1, .int x1), (2, .int x2), (3, .int r2)]) [1, 2, 3, 0] d_G_imageBy_16 (by decide) rfl ?_
  refine x_aload_n 0 d_G_imageBy_17 rfl ?_
  refine x_aload_n 0 d_G_imageBy_18 rfl ?_
  refine x_getR 5 11 7 d_G_imageBy_19 fg_5_27 rfl rfl rfl (Nf_58 (by decide)) ?_
  refine x_iload_n 1 d_G_imageBy_22 rfl ?_
  obtain ⟨h0, h⟩ := h
  refine x_iald d_G_imageBy_23 rfl (Nf_58 (by decide)) h0 ?_
  refine x_aload_n 0 d_G_imageBy_24 rfl ?_
  refine x_getR 5 7 3 d_G_imageBy_25 fg_5_15 rfl rfl rfl (Nf_58 (by decide)) ?_
  refine x_iload_n 2 d_G_imageBy_28 rfl ?_
  obtain ⟨h0, h⟩ := h
  refine x_iald d_G_imageBy_29 rfl (Nf_58 (by decide)) h0 ?_
  refine x_callVI (st := []) M_G_times [.int (w1.1 7 x1.toNatClampNeg), .int (w1.1 3 x2.toNatClampNeg)] d_G_imageBy_30 ml_5_73 cv_G_times rfl rfl (Nf_58 (by decide)) rfl (Nat.le_of_ble_eq_true rfl) ⟨Nat.le_of_ble_eq_true rfl, Nat.le_of_ble_eq_true rfl⟩ ⟨rfl, rfl⟩ h (fun r4 w3 h => ?_)
  refine x_istore (L' := [(0, .ref 1), (1, .int x1), (2, .int x2), (3, .int r2), (4, .int r4)]) [1, 2, 3, 4, 0] d_G_imageBy_33 (by decide) rfl ?_
  refine x_aload_n 0 d_G_imageBy_35 rfl ?_
  refine x_iload_n 3 d_G_imageBy_36 rfl ?_
  refine x_iload 4 d_G_imageBy_37 rfl ?_
  refine x_callVI (st := []) M_G_plus [.int r2, .int r4] d_G_imageBy_39 ml_5_54 cv_G_plus rfl rfl (Nf_58 (by decide)) rfl (Nat.le_of_ble_eq_true rfl) ⟨Nat.le_of_ble_eq_true rfl, Nat.le_of_ble_eq_true rfl⟩ ⟨rfl, rfl⟩ h (fun r6 w5 h => ?_)
  exact x_retI d_G_imageBy_42 rfl ⟨rfl, rfl⟩ h
set_option maxHeartbeats 1000000 in
theorem r_A_image {x1 x2 : Int32} {w : Wd} {K : Int32 → Wd → Prop} (h : RunZ 1 M_A_isAutomorphism [.ref 0, .int x1] w (fun z2 w1 => (z2 = false → K ((-1)) w1) ∧ (z2 = true → RunZ 1 M_A_isElement [.ref 0, .int x2] w1 (fun z4 w3 => (z4 = true → RunI 1 M_G_imageBy [.ref 1, .int x1, .int x2] w3 (fun r6 w5 => K r6 w5)) ∧ (z4 = false → K ((-1)) w3))))) : RunI 1 M_A_image [.ref 0, .int x1, .int x2] w K := by
  refine runs_of (L := [(0, .ref 0), (1, .int x1), (2, .int x2)]) rfl (Nat.le_of_ble_eq_true rfl) rfl ?_
  refine x_aload_n 0 d_A_image_0 rfl ?_
  refine x_iload_n 1 d_A_image_1 rfl ?_
  refine x_callVZ (st := []) M_A_isAutomorphism [.int x1] d_A_image_2 ml_10_142 cv_A_isAutomorphism rfl rfl (Nf_58 (by decide)) rfl (Nat.le_of_ble_eq_true rfl) ⟨Nat.le_of_ble_eq_true rfl, Nat.le_of_ble_eq_true rfl⟩ ⟨rfl, rfl⟩ h (fun z2 w1 h => ?_)
  refine x_zif_eq 16 d_A_image_5 (by decide) (fun c0 => ?_) (fun c0 => ?_)
  · have h := h.1 c0
    refine x_iconst (v := (-1)) d_A_image_16 (by decide) ?_
    exact x_retI d_A_image_17 rfl ⟨rfl, rfl⟩ h
  · have h := h.2 c0
    refine x_aload_n 0 d_A_image_8 rfl ?_
    refine x_iload_n 2 d_A_image_9 rfl ?_
    refine x_callVZ (st := []) M_A_isElement [.int x2] d_A_image_10 ml_10_120 cv_A_isElement rfl rfl (Nf_58 (by decide)) rfl (Nat.le_of_ble_eq_true rfl) ⟨Nat.le_of_ble_eq_true rfl, Nat.le_of_ble_eq_true rfl⟩ ⟨rfl, rfl⟩ h (fun z4 w3 h => ?_)
    refine x_zif_ne 18 d_A_image_13 (by decide) (fun c0 => ?_) (fun c0 => ?_)
    · have h := h.1 c0
      refine x_aload_n 0 d_A_image_18 rfl ?_
      refine x_getR 10 0 1 d_A_image_19 fg_10_19 rfl rfl rfl (Nf_58 (by decide)) ?_
      refine x_iload_n 1 d_A_image_22 rfl ?_
      refine x_iload_n 2 d_A_image_23 rfl ?_
      refine x_callVI (st := []) M_G_imageBy [.int x1, .int x2] d_A_image_24 ml_10_145 cv_G_imageBy rfl rfl (Nf_58 (by decide)) rfl (Nat.le_of_ble_eq_true rfl) ⟨Nat.le_of_ble_eq_true rfl, Nat.le_of_ble_eq_true rfl⟩ ⟨rfl, rfl⟩ h (fun r6 w5 h => ?_)
      exact x_retI d_A_image_27 rfl ⟨rfl, rfl⟩ h
    · have h := h.2 c0
      refine x_iconst (v := (-1)) d_A_image_16 (by decide) ?_
      exact x_retI d_A_image_17 rfl ⟨rfl, rfl⟩ h
set_option maxHeartbeats 1000000 in
theorem r_X_tryFor {x1 x8 : Int32} {y2 y4 y6 : Int64} {w : Wd} {K : Wd → Prop} (h : E 1 M_X_tryFor 3 [(0, .ref 13), (1, .int x1), (2, .long y2), (4, .long y4), (6, .long y6), (8, .int x8), (9, .int 0)] [] w (qV 1 K)) : RunV 1 M_X_tryFor [.ref 13, .int x1, .long y2, .long y4, .long y6, .int x8] w K := by
  refine runs_of (L := [(0, .ref 13), (1, .int x1), (2, .long y2), (4, .long y4), (6, .long y6), (8, .int x8)]) rfl (Nat.le_of_ble_eq_true rfl) rfl ?_
  refine x_iconst (v := 0) d_X_tryFor_0 (by decide) ?_
  refine x_istore (L' := [(0, .ref 13), (1, .int x1), (2, .long y2), (4, .long y4), (6, .long y6), (8, .int x8), (9, .int 0)]) [1, 2, 3, 4, 5, 6, 0] d_X_tryFor_1 (by decide) rfl ?_
  exact h
set_option maxHeartbeats 1000000 in
theorem w_X_tryFor_3 {x1 x8 x9 : Int32} {y2 y4 y6 : Int64} {w : Wd} {K : Wd → Prop} (h : ((w.1 1 2) ≤ x9 → K w) ∧ (¬ (w.1 1 2) ≤ x9 → RunZ 1 M_A_holds [.long y4, .int x9] w (fun z2 w1 => (z2 = true → ∀ a3 : Int32, a3 = x9 + 1 → E 1 M_X_tryFor 3 [(0, .ref 13), (1, .int x1), (2, .long y2), (4, .long y4), (6, .long y6), (8, .int x8), (9, .int a3)] [] w1 (qV 1 K)) ∧ (z2 = false → RunI 1 M_F_lackWith [.ref 8, .long (y2 ||| (1 <<< (x9.toInt64 &&& 63))), .long y6, .int x8] w1 (fun r5 w4 => ((w4.1 13 4) ≤ r5 → ∀ a6 : Int32, a6 = x9 + 1 → E 1 M_X_tryFor 3 [(0, .ref 13), (1, .int x1), (2, .long y2), (4, .long y4), (6, .long y6), (8, .int x8), (9, .int a6)] [] w4 (qV 1 K)) ∧ (¬ (w4.1 13 4) ≤ r5 → ∀ w7 : Wd, w7 = upI w4 13 4 r5 → ∀ w8 : Wd, w8 = upI w7 13 2 x1 → ∀ w9 : Wd, w9 = upL w8 13 3 (y2 ||| (1 <<< (x9.toInt64 &&& 63))) → ∀ a10 : Int32, a10 = x9 + 1 → E 1 M_X_tryFor 3 [(0, .ref 13), (1, .int x1), (2, .long y2), (4, .long y4), (6, .long y6), (8, .int x8), (9, .int a10)] [] w9 (qV 1 K))))))) : E 1 M_X_tryFor 3 [(0, .ref 13), (1, .int x1), (2, .long y2), (4, .long y4), (6, .long y6), (8, .int x8), (9, .int x9)] [] w (qV 1 K) := by
  refine x_iload 6 d_X_tryFor_3 rfl ?_
  refine x_aload_n 0 d_X_tryFor_5 rfl ?_
  refine x_getR 3 0 1 d_X_tryFor_6 fg_3_9 rfl rfl rfl (Nf_58 (by decide)) ?_
  refine x_getI 5 2 d_X_tryFor_9 fg_3_41 rfl rfl (Nf_58 (by decide)) ?_
  refine x_icmp_ge 80 d_X_tryFor_12 (by decide) (fun c0 => ?_) (fun c0 => ?_)
  · have h := h.1 c0
    exact x_retV d_X_tryFor_80 rfl ⟨rfl, rfl⟩ h
  · have h := h.2 c0
    refine x_lload 3 d_X_tryFor_15 rfl ?_
    refine x_iload 6 d_X_tryFor_17 rfl ?_
    refine x_callSZ (st := []) M_A_holds [.long y4, .int x9] d_X_tryFor_19 ml_3_46 cv_A_holds rfl (Nat.le_of_ble_eq_true rfl) ⟨Nat.le_of_ble_eq_true rfl, Nat.le_of_ble_eq_true rfl⟩ ⟨rfl, rfl⟩ h (fun z2 w1 h => ?_)
    refine x_zif_ne 74 d_X_tryFor_22 (by decide) (fun c0 => ?_) (fun c0 => ?_)
    · have h := h.1 c0
      obtain ⟨a3, ea3⟩ : ∃ z : Int32, z = x9 + 1 := ⟨_, rfl⟩
      have h := h a3 ea3
      refine x_iincE (L' := [(0, .ref 13), (1, .int x1), (2, .long y2), (4, .long y4), (6, .long y6), (8, .int x8), (9, .int a3)]) 6 [1, 2, 3, 4, 5, 6, 0] d_X_tryFor_74 rfl ea3 (by decide) rfl ?_
      refine x_goto 3 d_X_tryFor_77 (by decide) ?_
      exact h
    · have h := h.2 c0
      refine x_aload_n 0 d_X_tryFor_25 rfl ?_
      refine x_getR 3 1 8 d_X_tryFor_26 fg_3_15 rfl rfl rfl (Nf_58 (by decide)) ?_
      refine x_lload_n 2 d_X_tryFor_29 rfl ?_
      refine x_lconst (v := 1) d_X_tryFor_30 (by decide) ?_
      refine x_iload 6 d_X_tryFor_31 rfl ?_
      refine x_lshl d_X_tryFor_33 ?_
      refine x_lor d_X_tryFor_34 ?_
      refine x_lload 4 d_X_tryFor_35 rfl ?_
      refine x_iload 5 d_X_tryFor_37 rfl ?_
      refine x_callVI (st := []) M_F_lackWith [.long (y2 ||| (1 <<< (x9.toInt64 &&& 63))), .long y6, .int x8] d_X_tryFor_39 ml_3_56 cv_F_lackWith rfl rfl (Nf_58 (by decide)) rfl (Nat.le_of_ble_eq_true rfl) ⟨Nat.le_of_ble_eq_true rfl, Nat.le_of_ble_eq_true rfl⟩ ⟨rfl, rfl⟩ h (fun r5 w4 h => ?_)
      refine x_istore (L' := [(0, .ref 13), (1, .int x1), (2, .long y2), (4, .long y4), (6, .long y6), (8, .int x8), (9, .int x9), (10, .int r5)]) [1, 2, 3, 4, 5, 6, 7, 0] d_X_tryFor_42 (by decide) rfl ?_
      refine x_iload 7 d_X_tryFor_44 rfl ?_
      refine x_aload_n 0 d_X_tryFor_46 rfl ?_
      refine x_getI 3 4 d_X_tryFor_47 fg_3_29 rfl rfl (Nf_58 (by decide)) ?_
      refine x_icmp_ge 74 d_X_tryFor_50 (by decide) (fun c0 => ?_) (fun c0 => ?_)
      · have h := h.1 c0
        obtain ⟨a6, ea6⟩ : ∃ z : Int32, z = x9 + 1 := ⟨_, rfl⟩
        have h := h a6 ea6
        refine x_iincE (L' := [(0, .ref 13), (1, .int x1), (2, .long y2), (4, .long y4), (6, .long y6), (8, .int x8), (9, .int a6), (10, .int r5)]) 6 [1, 2, 3, 4, 5, 6, 0, 7] d_X_tryFor_74 rfl ea6 (by decide) rfl ?_
        refine x_goto 3 d_X_tryFor_77 (by decide) ?_
        exact x_perm [0, 1, 2, 3, 4, 5, 6] rfl h
      · have h := h.2 c0
        refine x_aload_n 0 d_X_tryFor_53 rfl ?_
        refine x_iload 7 d_X_tryFor_54 rfl ?_
        refine x_putIE 3 4 d_X_tryFor_56 fp_3_29 rfl rfl (Nf_58 (by decide)) (fun w7 ew7 => ?_)
        have h := h w7 ew7
        refine x_aload_n 0 d_X_tryFor_59 rfl ?_
        refine x_iload_n 1 d_X_tryFor_60 rfl ?_
        refine x_putIE 3 2 d_X_tryFor_61 fp_3_60 rfl rfl (Nf_58 (by decide)) (fun w8 ew8 => ?_)
        have h := h w8 ew8
        refine x_aload_n 0 d_X_tryFor_64 rfl ?_
        refine x_lload_n 2 d_X_tryFor_65 rfl ?_
        refine x_lconst (v := 1) d_X_tryFor_66 (by decide) ?_
        refine x_iload 6 d_X_tryFor_67 rfl ?_
        refine x_lshl d_X_tryFor_69 ?_
        refine x_lor d_X_tryFor_70 ?_
        refine x_putLE 3 3 d_X_tryFor_71 fp_3_63 rfl rfl (Nf_58 (by decide)) (fun w9 ew9 => ?_)
        have h := h w9 ew9
        obtain ⟨a10, ea10⟩ : ∃ z : Int32, z = x9 + 1 := ⟨_, rfl⟩
        have h := h a10 ea10
        refine x_iincE (L' := [(0, .ref 13), (1, .int x1), (2, .long y2), (4, .long y4), (6, .long y6), (8, .int x8), (9, .int a10), (10, .int r5)]) 6 [1, 2, 3, 4, 5, 6, 0, 7] d_X_tryFor_74 rfl ea10 (by decide) rfl ?_
        refine x_goto 3 d_X_tryFor_77 (by decide) ?_
        exact x_perm [0, 1, 2, 3, 4, 5, 6] rfl h
set_option maxHeartbeats 1000000 in
theorem r_X_tryAll {x1 x6 : Int32} {y2 y4 : Int64} {w : Wd} {K : Wd → Prop} (h : E 1 M_X_tryAll 3 [(0, .ref 13), (1, .int x1), (2, .long y2), (4, .long y4), (6, .int x6), (7, .int 0)] [] w (qV 1 K)) : RunV 1 M_X_tryAll [.ref 13, .int x1, .long y2, .long y4, .int x6] w K := by
  refine runs_of (L := [(0, .ref 13), (1, .int x1), (2, .long y2), (4, .long y4), (6, .int x6)]) rfl (Nat.le_of_ble_eq_true rfl) rfl ?_
  refine x_iconst (v := 0) d_X_tryAll_0 (by decide) ?_
  refine x_istore (L' := [(0, .ref 13), (1, .int x1), (2, .long y2), (4, .long y4), (6, .int x6), (7, .int 0)]) [1, 2, 3, 4, 5, 0] d_X_tryAll_1 (by decide) rfl ?_
  exact h
set_option maxHeartbeats 1000000 in
theorem w_X_tryAll_3 {x1 x6 x7 : Int32} {y2 y4 : Int64} {w : Wd} {K : Wd → Prop} (h : ((w.1 1 2) ≤ x7 → K w) ∧ (¬ (w.1 1 2) ≤ x7 → RunZ 1 M_A_holds [.long y2, .int x7] w (fun z2 w1 => (z2 = false → ∀ a3 : Int32, a3 = x7 + 1 → E 1 M_X_tryAll 3 [(0, .ref 13), (1, .int x1), (2, .long y2), (4, .long y4), (6, .int x6), (7, .int a3)] [] w1 (qV 1 K)) ∧ (z2 = true → RunV 1 M_X_tryFor [.ref 13, .int x1, .long (y2 &&& ((1 <<< (x7.toInt64 &&& 63)) ^^^ ((-1)))), .long y2, .long y4, .int x6] w1 (fun w4 => ∀ a5 : Int32, a5 = x7 + 1 → E 1 M_X_tryAll 3 [(0, .ref 13), (1, .int x1), (2, .long y2), (4, .long y4), (6, .int x6), (7, .int a5)] [] w4 (qV 1 K)))))) : E 1 M_X_tryAll 3 [(0, .ref 13), (1, .int x1), (2, .long y2), (4, .long y4), (6, .int x6), (7, .int x7)] [] w (qV 1 K) := by
  refine x_iload 5 d_X_tryAll_3 rfl ?_
  refine x_aload_n 0 d_X_tryAll_5 rfl ?_
  refine x_getR 3 0 1 d_X_tryAll_6 fg_3_9 rfl rfl rfl (Nf_58 (by decide)) ?_
  refine x_getI 5 2 d_X_tryAll_9 fg_3_41 rfl rfl (Nf_58 (by decide)) ?_
  refine x_icmp_ge 50 d_X_tryAll_12 (by decide) (fun c0 => ?_) (fun c0 => ?_)
  · have h := h.1 c0
    exact x_retV d_X_tryAll_50 rfl ⟨rfl, rfl⟩ h
  · have h := h.2 c0
    refine x_lload_n 2 d_X_tryAll_15 rfl ?_
    refine x_iload 5 d_X_tryAll_16 rfl ?_
    refine x_callSZ (st := []) M_A_holds [.long y2, .int x7] d_X_tryAll_18 ml_3_46 cv_A_holds rfl (Nat.le_of_ble_eq_true rfl) ⟨Nat.le_of_ble_eq_true rfl, Nat.le_of_ble_eq_true rfl⟩ ⟨rfl, rfl⟩ h (fun z2 w1 h => ?_)
    refine x_zif_eq 44 d_X_tryAll_21 (by decide) (fun c0 => ?_) (fun c0 => ?_)
    · have h := h.1 c0
      obtain ⟨a3, ea3⟩ : ∃ z : Int32, z = x7 + 1 := ⟨_, rfl⟩
      have h := h a3 ea3
      refine x_iincE (L' := [(0, .ref 13), (1, .int x1), (2, .long y2), (4, .long y4), (6, .int x6), (7, .int a3)]) 5 [1, 2, 3, 4, 5, 0] d_X_tryAll_44 rfl ea3 (by decide) rfl ?_
      refine x_goto 3 d_X_tryAll_47 (by decide) ?_
      exact h
    · have h := h.2 c0
      refine x_aload_n 0 d_X_tryAll_24 rfl ?_
      refine x_iload_n 1 d_X_tryAll_25 rfl ?_
      refine x_lload_n 2 d_X_tryAll_26 rfl ?_
      refine x_lconst (v := 1) d_X_tryAll_27 (by decide) ?_
      refine x_iload 5 d_X_tryAll_28 rfl ?_
      refine x_lshl d_X_tryAll_30 ?_
      refine x_ldc2 (v := (-1)) d_X_tryAll_31 mw_558 ?_
      refine x_lxor d_X_tryAll_34 ?_
      refine x_land d_X_tryAll_35 ?_
      refine x_lload_n 2 d_X_tryAll_36 rfl ?_
      refine x_lload 3 d_X_tryAll_37 rfl ?_
      refine x_iload 4 d_X_tryAll_39 rfl ?_
      refine x_callVV (st := []) M_X_tryFor [.int x1, .long (y2 &&& ((1 <<< (x7.toInt64 &&& 63)) ^^^ ((-1)))), .long y2, .long y4, .int x6] d_X_tryAll_41 ml_3_52 cv_X_tryFor rfl rfl (Nf_58 (by decide)) rfl (Nat.le_of_ble_eq_true rfl) ⟨Nat.le_of_ble_eq_true rfl, Nat.le_of_ble_eq_true rfl⟩ ⟨rfl, rfl⟩ h (fun w4 h => ?_)
      obtain ⟨a5, ea5⟩ : ∃ z : Int32, z = x7 + 1 := ⟨_, rfl⟩
      have h := h a5 ea5
      refine x_iincE (L' := [(0, .ref 13), (1, .int x1), (2, .long y2), (4, .long y4), (6, .int x6), (7, .int a5)]) 5 [1, 2, 3, 4, 5, 0] d_X_tryAll_44 rfl ea5 (by decide) rfl ?_
      refine x_goto 3 d_X_tryAll_47 (by decide) ?_
      exact h
set_option maxHeartbeats 1000000 in
theorem r_X_findBest {x4 : Int32} {y2 : Int64} {w : Wd} {K : Bool → Wd → Prop} (h : RunV 1 M_F_tally [.ref 8, .ref 10] w (fun w1 => RunI 1 M_F_lack [.ref 8, .long y2, .int x4] w1 (fun r3 w2 => ∀ w4 : Wd, w4 = upI w2 13 4 r3 → E 1 M_X_findBest 29 [(0, .ref 13), (1, .ref 10), (2, .long y2), (4, .int x4), (5, .int r3), (6, .int 0)] [] w4 (qZ 1 K)))) : RunZ 1 M_X_findBest [.ref 13, .ref 10, .long y2, .int x4] w K := by
  refine runs_of (L := [(0, .ref 13), (1, .ref 10), (2, .long y2), (4, .int x4)]) rfl (Nat.le_of_ble_eq_true rfl) rfl ?_
  refine x_aload_n 0 d_X_findBest_0 rfl ?_
  refine x_getR 3 1 8 d_X_findBest_1 fg_3_15 rfl rfl rfl (Nf_58 (by decide)) ?_
  refine x_aload_n 1 d_X_findBest_4 rfl ?_
  refine x_callVV (st := []) M_F_tally [.ref 10] d_X_findBest_5 ml_3_19 cv_F_tally rfl rfl (Nf_58 (by decide)) rfl (Nat.le_of_ble_eq_true rfl) ⟨Nat.le_of_ble_eq_true rfl, Nat.le_of_ble_eq_true rfl⟩ ⟨rfl, rfl⟩ h (fun w1 h => ?_)
  refine x_aload_n 0 d_X_findBest_8 rfl ?_
  refine x_getR 3 1 8 d_X_findBest_9 fg_3_15 rfl rfl rfl (Nf_58 (by decide)) ?_
  refine x_lload_n 2 d_X_findBest_12 rfl ?_
  refine x_iload 3 d_X_findBest_13 rfl ?_
  refine x_callVI (st := []) M_F_lack [.long y2, .int x4] d_X_findBest_15 ml_3_25 cv_F_lack rfl rfl (Nf_58 (by decide)) rfl (Nat.le_of_ble_eq_true rfl) ⟨Nat.le_of_ble_eq_true rfl, Nat.le_of_ble_eq_true rfl⟩ ⟨rfl, rfl⟩ h (fun r3 w2 h => ?_)
  refine x_istore (L' := [(0, .ref 13), (1, .ref 10), (2, .long y2), (4, .int x4), (5, .int r3)]) [1, 2, 3, 4, 0] d_X_findBest_18 (by decide) rfl ?_
  refine x_aload_n 0 d_X_findBest_20 rfl ?_
  refine x_iload 4 d_X_findBest_21 rfl ?_
  refine x_putIE 3 4 d_X_findBest_23 fp_3_29 rfl rfl (Nf_58 (by decide)) (fun w4 ew4 => ?_)
  have h := h w4 ew4
  refine x_iconst (v := 0) d_X_findBest_26 (by decide) ?_
  refine x_istore (L' := [(0, .ref 13), (1, .ref 10), (2, .long y2), (4, .int x4), (5, .int r3), (6, .int 0)]) [1, 2, 3, 4, 5, 0] d_X_findBest_27 (by decide) rfl ?_
  exact h
set_option maxHeartbeats 1000000 in
theorem w_X_findBest_29 {x4 x5 x6 : Int32} {y2 : Int64} {w : Wd} {K : Bool → Wd → Prop} (h : (6 ≤ x6 → (x5 ≤ (w.1 13 4) → K false w) ∧ (¬ x5 ≤ (w.1 13 4) → K true w)) ∧ (¬ 6 ≤ x6 → vp_in x6 6 ∧ RunV 1 M_F_addCounts [.ref 8, .long (w.2 10 x6.toNatClampNeg), .int ((-1))] w (fun w1 => vp_in x6 6 ∧ RunV 1 M_X_tryAll [.ref 13, .int x6, .long (w1.2 10 x6.toNatClampNeg), .long y2, .int x4] w1 (fun w2 => vp_in x6 6 ∧ RunV 1 M_F_addCounts [.ref 8, .long (w2.2 10 x6.toNatClampNeg), .int 1] w2 (fun w3 => ∀ a4 : Int32, a4 = x6 + 1 → E 1 M_X_findBest 29 [(0, .ref 13), (1, .ref 10), (2, .long y2), (4, .int x4), (5, .int x5), (6, .int a4)] [] w3 (qZ 1 K)))))) : E 1 M_X_findBest 29 [(0, .ref 13), (1, .ref 10), (2, .long y2), (4, .int x4), (5, .int x5), (6, .int x6)] [] w (qZ 1 K) := by
  refine x_iload 5 d_X_findBest_29 rfl ?_
  refine x_bipush (v := 6) d_X_findBest_31 (by decide) ?_
  refine x_icmp_ge 79 d_X_findBest_33 (by decide) (fun c0 => ?_) (fun c0 => ?_)
  · have h := h.1 c0
    refine x_aload_n 0 d_X_findBest_79 rfl ?_
    refine x_getI 3 4 d_X_findBest_80 fg_3_29 rfl rfl (Nf_58 (by decide)) ?_
    refine x_iload 4 d_X_findBest_83 rfl ?_
    refine x_icmp_ge 92 d_X_findBest_85 (by decide) (fun c0 => ?_) (fun c0 => ?_)
    · have h := h.1 c0
      refine x_iconst (v := 0) d_X_findBest_92 (by decide) ?_
      exact x_retZ (z := false) d_X_findBest_93 rfl rfl ⟨rfl, rfl⟩ h
    · have h := h.2 c0
      refine x_iconst (v := 1) d_X_findBest_88 (by decide) ?_
      refine x_goto 93 d_X_findBest_89 (by decide) ?_
      exact x_retZ (z := true) d_X_findBest_93 rfl rfl ⟨rfl, rfl⟩ h
  · have h := h.2 c0
    refine x_aload_n 0 d_X_findBest_36 rfl ?_
    refine x_getR 3 1 8 d_X_findBest_37 fg_3_15 rfl rfl rfl (Nf_58 (by decide)) ?_
    refine x_aload_n 1 d_X_findBest_40 rfl ?_
    refine x_iload 5 d_X_findBest_41 rfl ?_
    obtain ⟨h0, h⟩ := h
    refine x_lald d_X_findBest_43 rfl (Nf_58 (by decide)) h0 ?_
    refine x_iconst (v := (-1)) d_X_findBest_44 (by decide) ?_
    refine x_callVV (st := []) M_F_addCounts [.long (w.2 10 x6.toNatClampNeg), .int ((-1))] d_X_findBest_45 ml_3_33 cv_F_addCounts rfl rfl (Nf_58 (by decide)) rfl (Nat.le_of_ble_eq_true rfl) ⟨Nat.le_of_ble_eq_true rfl, Nat.le_of_ble_eq_true rfl⟩ ⟨rfl, rfl⟩ h (fun w1 h => ?_)
    refine x_aload_n 0 d_X_findBest_48 rfl ?_
    refine x_iload 5 d_X_findBest_49 rfl ?_
    refine x_aload_n 1 d_X_findBest_51 rfl ?_
    refine x_iload 5 d_X_findBest_52 rfl ?_
    obtain ⟨h0, h⟩ := h
    refine x_lald d_X_findBest_54 rfl (Nf_58 (by decide)) h0 ?_
    refine x_lload_n 2 d_X_findBest_55 rfl ?_
    refine x_iload 3 d_X_findBest_56 rfl ?_
    refine x_callVV (st := []) M_X_tryAll [.int x6, .long (w1.2 10 x6.toNatClampNeg), .long y2, .int x4] d_X_findBest_58 ml_3_37 cv_X_tryAll rfl rfl (Nf_58 (by decide)) rfl (Nat.le_of_ble_eq_true rfl) ⟨Nat.le_of_ble_eq_true rfl, Nat.le_of_ble_eq_true rfl⟩ ⟨rfl, rfl⟩ h (fun w2 h => ?_)
    refine x_aload_n 0 d_X_findBest_61 rfl ?_
    refine x_getR 3 1 8 d_X_findBest_62 fg_3_15 rfl rfl rfl (Nf_58 (by decide)) ?_
    refine x_aload_n 1 d_X_findBest_65 rfl ?_
    refine x_iload 5 d_X_findBest_66 rfl ?_
    obtain ⟨h0, h⟩ := h
    refine x_lald d_X_findBest_68 rfl (Nf_58 (by decide)) h0 ?_
    refine x_iconst (v := 1) d_X_findBest_69 (by decide) ?_
    refine x_callVV (st := []) M_F_addCounts [.long (w2.2 10 x6.toNatClampNeg), .int 1] d_X_findBest_70 ml_3_33 cv_F_addCounts rfl rfl (Nf_58 (by decide)) rfl (Nat.le_of_ble_eq_true rfl) ⟨Nat.le_of_ble_eq_true rfl, Nat.le_of_ble_eq_true rfl⟩ ⟨rfl, rfl⟩ h (fun w3 h => ?_)
    obtain ⟨a4, ea4⟩ : ∃ z : Int32, z = x6 + 1 := ⟨_, rfl⟩
    have h := h a4 ea4
    refine x_iincE (L' := [(0, .ref 13), (1, .ref 10), (2, .long y2), (4, .int x4), (5, .int x5), (6, .int a4)]) 5 [1, 2, 3, 4, 5, 0] d_X_findBest_73 rfl ea4 (by decide) rfl ?_
    refine x_goto 29 d_X_findBest_76 (by decide) ?_
    exact h
set_option maxHeartbeats 1000000 in
theorem r_A_improve {x1 : Int32} {w : Wd} {K : Int32 → Wd → Prop} (h : RunZ 1 M_A_isWithin [.int x1, .int 1, .int 20] w (fun z2 w1 => (z2 = true → RunZ 1 M_X_findBest [.ref 13, .ref 10, .long (w1.2 0 12), .int x1] w1 (fun z4 w3 => (z4 = true → RunV 1 M_H_note [.ref 11, .ref 10] w3 (fun w5 => vp_in (w5.1 13 2) 6 ∧ ∀ w6 : Wd, w6 = upL w5 10 (w5.1 13 2).toNatClampNeg (w5.2 13 3) → K (w6.1 13 4) w6)) ∧ (z4 = false → K ((-4)) w3))) ∧ (z2 = false → K ((-1)) w1))) : RunI 1 M_A_improve [.ref 0, .int x1] w K := by
  refine runs_of (L := [(0, .ref 0), (1, .int x1)]) rfl (Nat.le_of_ble_eq_true rfl) rfl ?_
  refine x_iload_n 1 d_A_improve_0 rfl ?_
  refine x_iconst (v := 1) d_A_improve_1 (by decide) ?_
  refine x_bipush (v := 20) d_A_improve_2 (by decide) ?_
  refine x_callSZ (st := []) M_A_isWithin [.int x1, .int 1, .int 20] d_A_improve_4 ml_10_128 cv_A_isWithin rfl (Nat.le_of_ble_eq_true rfl) ⟨Nat.le_of_ble_eq_true rfl, Nat.le_of_ble_eq_true rfl⟩ ⟨rfl, rfl⟩ h (fun z2 w1 h => ?_)
  refine x_zif_ne 12 d_A_improve_7 (by decide) (fun c0 => ?_) (fun c0 => ?_)
  · have h := h.1 c0
    refine x_aload_n 0 d_A_improve_12 rfl ?_
    refine x_getR 10 4 13 d_A_improve_13 fg_10_45 rfl rfl rfl (Nf_58 (by decide)) ?_
    refine x_aload_n 0 d_A_improve_16 rfl ?_
    refine x_getR 10 1 10 d_A_improve_17 fg_10_25 rfl rfl rfl (Nf_58 (by decide)) ?_
    refine x_aload_n 0 d_A_improve_20 rfl ?_
    refine x_getL 10 12 d_A_improve_21 fg_10_94 rfl rfl (Nf_58 (by decide)) ?_
    refine x_iload_n 1 d_A_improve_24 rfl ?_
    refine x_callVZ (st := []) M_X_findBest [.ref 10, .long (w1.2 0 12), .int x1] d_A_improve_25 ml_10_192 cv_X_findBest rfl rfl (Nf_58 (by decide)) rfl (Nat.le_of_ble_eq_true rfl) ⟨Nat.le_of_ble_eq_true rfl, Nat.le_of_ble_eq_true rfl⟩ ⟨rfl, rfl⟩ h (fun z4 w3 h => ?_)
    refine x_zif_ne 34 d_A_improve_28 (by decide) (fun c0 => ?_) (fun c0 => ?_)
    · have h := h.1 c0
      refine x_aload_n 0 d_A_improve_34 rfl ?_
      refine x_getR 10 2 11 d_A_improve_35 fg_10_32 rfl rfl rfl (Nf_58 (by decide)) ?_
      refine x_aload_n 0 d_A_improve_38 rfl ?_
      refine x_getR 10 1 10 d_A_improve_39 fg_10_25 rfl rfl rfl (Nf_58 (by decide)) ?_
      refine x_callVV (st := []) M_H_note [.ref 10] d_A_improve_42 ml_10_165 cv_H_note rfl rfl (Nf_58 (by decide)) rfl (Nat.le_of_ble_eq_true rfl) ⟨Nat.le_of_ble_eq_true rfl, Nat.le_of_ble_eq_true rfl⟩ ⟨rfl, rfl⟩ h (fun w5 h => ?_)
      refine x_aload_n 0 d_A_improve_45 rfl ?_
      refine x_getR 10 1 10 d_A_improve_46 fg_10_25 rfl rfl rfl (Nf_58 (by decide)) ?_
      refine x_aload_n 0 d_A_improve_49 rfl ?_
      refine x_getR 10 4 13 d_A_improve_50 fg_10_45 rfl rfl rfl (Nf_58 (by decide)) ?_
      refine x_getI 3 2 d_A_improve_53 fg_10_196 rfl rfl (Nf_58 (by decide)) ?_
      refine x_aload_n 0 d_A_improve_56 rfl ?_
      refine x_getR 10 4 13 d_A_improve_57 fg_10_45 rfl rfl rfl (Nf_58 (by decide)) ?_
      refine x_getL 3 3 d_A_improve_60 fg_10_199 rfl rfl (Nf_58 (by decide)) ?_
      obtain ⟨h0, h⟩ := h
      refine x_lastE d_A_improve_63 rfl (Nf_58 (by decide)) h0 (fun w6 ew6 => ?_)
      have h := h w6 ew6
      refine x_aload_n 0 d_A_improve_64 rfl ?_
      refine x_getR 10 4 13 d_A_improve_65 fg_10_45 rfl rfl rfl (Nf_58 (by decide)) ?_
      refine x_getI 3 4 d_A_improve_68 fg_10_202 rfl rfl (Nf_58 (by decide)) ?_
      exact x_retI d_A_improve_71 rfl ⟨rfl, rfl⟩ h
    · have h := h.2 c0
      refine x_bipush (v := (-4)) d_A_improve_31 (by decide) ?_
      exact x_retI d_A_improve_33 rfl ⟨rfl, rfl⟩ h
  · have h := h.2 c0
    refine x_iconst (v := (-1)) d_A_improve_10 (by decide) ?_
    exact x_retI d_A_improve_11 rfl ⟨rfl, rfl⟩ h
set_option maxHeartbeats 1000000 in
theorem r_F_commonIndex {y1 : Int64} {w : Wd} {K : Int32 → Wd → Prop} (h : E 1 M_F_commonIndex 5 [(0, .ref 8), (1, .long y1), (3, .int 0), (4, .int 1)] [] w (qI 1 K)) : RunI 1 M_F_commonIndex [.ref 8, .long y1] w K := by
  refine runs_of (L := [(0, .ref 8), (1, .long y1)]) rfl (Nat.le_of_ble_eq_true rfl) rfl ?_
  refine x_iconst (v := 0) d_F_commonIndex_0 (by decide) ?_
  refine x_istore_n (L' := [(0, .ref 8), (1, .long y1), (3, .int 0)]) [1, 2, 0] d_F_commonIndex_1 (by decide) rfl ?_
  refine x_iconst (v := 1) d_F_commonIndex_2 (by decide) ?_
  refine x_istore (L' := [(0, .ref 8), (1, .long y1), (3, .int 0), (4, .int 1)]) [1, 2, 3, 0] d_F_commonIndex_3 (by decide) rfl ?_
  exact h
set_option maxHeartbeats 1000000 in
theorem w_F_commonIndex_5 {x3 x4 : Int32} {y1 : Int64} {w : Wd} {K : Int32 → Wd → Prop} (h : ((w.1 1 2) ≤ x4 → (¬ x3 = 0 → K x3 w) ∧ (x3 = 0 → K ((-4)) w)) ∧ (¬ (w.1 1 2) ≤ x4 → RunZ 1 M_A_holds [.long y1, .int x4] w (fun z2 w1 => (z2 = false → vp_in x4 40 ∧ ((w1.1 9 x4.toNatClampNeg) = 0 → K ((-4)) w1) ∧ (¬ (w1.1 9 x4.toNatClampNeg) = 0 → (x3 = 0 → vp_in x4 40 ∧ ∀ a3 : Int32, a3 = w1.1 9 x4.toNatClampNeg → ∀ a4 : Int32, a4 = x4 + 1 → E 1 M_F_commonIndex 5 [(0, .ref 8), (1, .long y1), (3, .int a3), (4, .int a4)] [] w1 (qI 1 K)) ∧ (¬ x3 = 0 → vp_in x4 40 ∧ ((w1.1 9 x4.toNatClampNeg) = x3 → vp_in x4 40 ∧ ∀ a5 : Int32, a5 = w1.1 9 x4.toNatClampNeg → ∀ a6 : Int32, a6 = x4 + 1 → E 1 M_F_commonIndex 5 [(0, .ref 8), (1, .long y1), (3, .int a5), (4, .int a6)] [] w1 (qI 1 K)) ∧ (¬ (w1.1 9 x4.toNatClampNeg) = x3 → K ((-4)) w1)))) ∧ (z2 = true → vp_in x4 40 ∧ ((w1.1 9 x4.toNatClampNeg) = 0 → ∀ a7 : Int32, a7 = x4 + 1 → E 1 M_F_commonIndex 5 [(0, .ref 8), (1, .long y1), (3, .int x3), (4, .int a7)] [] w1 (qI 1 K)) ∧ (¬ (w1.1 9 x4.toNatClampNeg) = 0 → K ((-4)) w1))))) : E 1 M_F_commonIndex 5 [(0, .ref 8), (1, .long y1), (3, .int x3), (4, .int x4)] [] w (qI 1 K) := by
  refine x_iload 3 d_F_commonIndex_5 rfl ?_
  refine x_aload_n 0 d_F_commonIndex_7 rfl ?_
  refine x_getR 1 0 1 d_F_commonIndex_8 fg_1_15 rfl rfl rfl (Nf_58 (by decide)) ?_
  refine x_getI 5 2 d_F_commonIndex_11 fg_1_29 rfl rfl (Nf_58 (by decide)) ?_
  refine x_icmp_ge 81 d_F_commonIndex_14 (by decide) (fun c0 => ?_) (fun c0 => ?_)
  · have h := h.1 c0
    refine x_iload_n 2 d_F_commonIndex_81 rfl ?_
    refine x_if_ne 90 d_F_commonIndex_82 (by decide) (fun c0 => ?_) (fun c0 => ?_)
    · have h := h.1 c0
      refine x_iload_n 2 d_F_commonIndex_90 rfl ?_
      exact x_retI d_F_commonIndex_91 rfl ⟨rfl, rfl⟩ h
    · have h := h.2 c0
      refine x_bipush (v := (-4)) d_F_commonIndex_85 (by decide) ?_
      refine x_goto 91 d_F_commonIndex_87 (by decide) ?_
      exact x_retI d_F_commonIndex_91 rfl ⟨rfl, rfl⟩ h
  · have h := h.2 c0
    refine x_lload_n 1 d_F_commonIndex_17 rfl ?_
    refine x_iload 3 d_F_commonIndex_18 rfl ?_
    refine x_callSZ (st := []) M_A_holds [.long y1, .int x4] d_F_commonIndex_20 ml_1_49 cv_A_holds rfl (Nat.le_of_ble_eq_true rfl) ⟨Nat.le_of_ble_eq_true rfl, Nat.le_of_ble_eq_true rfl⟩ ⟨rfl, rfl⟩ h (fun z2 w1 h => ?_)
    refine x_zif_eq 39 d_F_commonIndex_23 (by decide) (fun c0 => ?_) (fun c0 => ?_)
    · have h := h.1 c0
      refine x_aload_n 0 d_F_commonIndex_39 rfl ?_
      refine x_getR 1 1 9 d_F_commonIndex_40 fg_1_9 rfl rfl rfl (Nf_58 (by decide)) ?_
      refine x_iload 3 d_F_commonIndex_43 rfl ?_
      obtain ⟨h0, h⟩ := h
      refine x_iald d_F_commonIndex_45 rfl (Nf_58 (by decide)) h0 ?_
      refine x_if_eq 64 d_F_commonIndex_46 (by decide) (fun c0 => ?_) (fun c0 => ?_)
      · have h := h.1 c0
        refine x_bipush (v := (-4)) d_F_commonIndex_64 (by decide) ?_
        exact x_retI d_F_commonIndex_66 rfl ⟨rfl, rfl⟩ h
      · have h := h.2 c0
        refine x_iload_n 2 d_F_commonIndex_49 rfl ?_
        refine x_if_eq 67 d_F_commonIndex_50 (by decide) (fun c0 => ?_) (fun c0 => ?_)
        · have h := h.1 c0
          refine x_aload_n 0 d_F_commonIndex_67 rfl ?_
          refine x_getR 1 1 9 d_F_commonIndex_68 fg_1_9 rfl rfl rfl (Nf_58 (by decide)) ?_
          refine x_iload 3 d_F_commonIndex_71 rfl ?_
          obtain ⟨h0, h⟩ := h
          refine x_iald d_F_commonIndex_73 rfl (Nf_58 (by decide)) h0 ?_
          obtain ⟨a3, ea3⟩ : ∃ z : Int32, z = w1.1 9 x4.toNatClampNeg := ⟨_, rfl⟩
          have h := h a3 ea3
          refine x_istore_nE (L' := [(0, .ref 8), (1, .long y1), (3, .int a3), (4, .int x4)]) [1, 2, 0, 3] d_F_commonIndex_74 (by decide) ea3 rfl ?_
          obtain ⟨a4, ea4⟩ : ∃ z : Int32, z = x4 + 1 := ⟨_, rfl⟩
          have h := h a4 ea4
          refine x_iincE (L' := [(0, .ref 8), (1, .long y1), (3, .int a3), (4, .int a4)]) 3 [1, 2, 3, 0] d_F_commonIndex_75 rfl ea4 (by decide) rfl ?_
          refine x_goto 5 d_F_commonIndex_78 (by decide) ?_
          exact h
        · have h := h.2 c0
          refine x_aload_n 0 d_F_commonIndex_53 rfl ?_
          refine x_getR 1 1 9 d_F_commonIndex_54 fg_1_9 rfl rfl rfl (Nf_58 (by decide)) ?_
          refine x_iload 3 d_F_commonIndex_57 rfl ?_
          obtain ⟨h0, h⟩ := h
          refine x_iald d_F_commonIndex_59 rfl (Nf_58 (by decide)) h0 ?_
          refine x_iload_n 2 d_F_commonIndex_60 rfl ?_
          refine x_icmp_eq 67 d_F_commonIndex_61 (by decide) (fun c0 => ?_) (fun c0 => ?_)
          · have h := h.1 c0
            refine x_aload_n 0 d_F_commonIndex_67 rfl ?_
            refine x_getR 1 1 9 d_F_commonIndex_68 fg_1_9 rfl rfl rfl (Nf_58 (by decide)) ?_
            refine x_iload 3 d_F_commonIndex_71 rfl ?_
            obtain ⟨h0, h⟩ := h
            refine x_iald d_F_commonIndex_73 rfl (Nf_58 (by decide)) h0 ?_
            obtain ⟨a5, ea5⟩ : ∃ z : Int32, z = w1.1 9 x4.toNatClampNeg := ⟨_, rfl⟩
            have h := h a5 ea5
            refine x_istore_nE (L' := [(0, .ref 8), (1, .long y1), (3, .int a5), (4, .int x4)]) [1, 2, 0, 3] d_F_commonIndex_74 (by decide) ea5 rfl ?_
            obtain ⟨a6, ea6⟩ : ∃ z : Int32, z = x4 + 1 := ⟨_, rfl⟩
            have h := h a6 ea6
            refine x_iincE (L' := [(0, .ref 8), (1, .long y1), (3, .int a5), (4, .int a6)]) 3 [1, 2, 3, 0] d_F_commonIndex_75 rfl ea6 (by decide) rfl ?_
            refine x_goto 5 d_F_commonIndex_78 (by decide) ?_
            exact h
          · have h := h.2 c0
            refine x_bipush (v := (-4)) d_F_commonIndex_64 (by decide) ?_
            exact x_retI d_F_commonIndex_66 rfl ⟨rfl, rfl⟩ h
    · have h := h.2 c0
      refine x_aload_n 0 d_F_commonIndex_26 rfl ?_
      refine x_getR 1 1 9 d_F_commonIndex_27 fg_1_9 rfl rfl rfl (Nf_58 (by decide)) ?_
      refine x_iload 3 d_F_commonIndex_30 rfl ?_
      obtain ⟨h0, h⟩ := h
      refine x_iald d_F_commonIndex_32 rfl (Nf_58 (by decide)) h0 ?_
      refine x_if_eq 75 d_F_commonIndex_33 (by decide) (fun c0 => ?_) (fun c0 => ?_)
      · have h := h.1 c0
        obtain ⟨a7, ea7⟩ : ∃ z : Int32, z = x4 + 1 := ⟨_, rfl⟩
        have h := h a7 ea7
        refine x_iincE (L' := [(0, .ref 8), (1, .long y1), (3, .int x3), (4, .int a7)]) 3 [1, 2, 3, 0] d_F_commonIndex_75 rfl ea7 (by decide) rfl ?_
        refine x_goto 5 d_F_commonIndex_78 (by decide) ?_
        exact h
      · have h := h.2 c0
        refine x_bipush (v := (-4)) d_F_commonIndex_36 (by decide) ?_
        exact x_retI d_F_commonIndex_38 rfl ⟨rfl, rfl⟩ h
set_option maxHeartbeats 1000000 in
theorem r_A_index {w : Wd} {K : Int32 → Wd → Prop} (h : RunV 1 M_F_tally [.ref 8, .ref 10] w (fun w1 => RunI 1 M_F_commonIndex [.ref 8, .long (w1.2 0 12)] w1 (fun r3 w2 => K r3 w2))) : RunI 1 M_A_index [.ref 0] w K := by
  refine runs_of (L := [(0, .ref 0)]) rfl (Nat.le_of_ble_eq_true rfl) rfl ?_
  refine x_aload_n 0 d_A_index_0 rfl ?_
  refine x_getR 10 3 8 d_A_index_1 fg_10_36 rfl rfl rfl (Nf_58 (by decide)) ?_
  refine x_aload_n 0 d_A_index_4 rfl ?_
  refine x_getR 10 1 10 d_A_index_5 fg_10_25 rfl rfl rfl (Nf_58 (by decide)) ?_
  refine x_callVV (st := []) M_F_tally [.ref 10] d_A_index_8 ml_10_185 cv_F_tally rfl rfl (Nf_58 (by decide)) rfl (Nat.le_of_ble_eq_true rfl) ⟨Nat.le_of_ble_eq_true rfl, Nat.le_of_ble_eq_true rfl⟩ ⟨rfl, rfl⟩ h (fun w1 h => ?_)
  refine x_aload_n 0 d_A_index_11 rfl ?_
  refine x_getR 10 3 8 d_A_index_12 fg_10_36 rfl rfl rfl (Nf_58 (by decide)) ?_
  refine x_aload_n 0 d_A_index_15 rfl ?_
  refine x_getL 10 12 d_A_index_16 fg_10_94 rfl rfl (Nf_58 (by decide)) ?_
  refine x_callVI (st := []) M_F_commonIndex [.long (w1.2 0 12)] d_A_index_19 ml_10_230 cv_F_commonIndex rfl rfl (Nf_58 (by decide)) rfl (Nat.le_of_ble_eq_true rfl) ⟨Nat.le_of_ble_eq_true rfl, Nat.le_of_ble_eq_true rfl⟩ ⟨rfl, rfl⟩ h (fun r3 w2 h => ?_)
  exact x_retI d_A_index_22 rfl ⟨rfl, rfl⟩ h
set_option maxHeartbeats 1000000 in
theorem r_G_findOrder {f : Nat} {x1 : Int32} {w : Wd} {K : Int32 → Wd → Prop} (h : E f M_G_findOrder 4 [(0, .ref 1), (1, .int x1), (2, .int 1), (3, .int x1)] [] w (qI f K)) : RunI f M_G_findOrder [.ref 1, .int x1] w K := by
  refine runs_of (L := [(0, .ref 1), (1, .int x1)]) rfl (Nat.le_of_ble_eq_true rfl) rfl ?_
  refine x_iconst (v := 1) d_G_findOrder_0 (by decide) ?_
  refine x_istore_n (L' := [(0, .ref 1), (1, .int x1), (2, .int 1)]) [1, 2, 0] d_G_findOrder_1 (by decide) rfl ?_
  refine x_iload_n 1 d_G_findOrder_2 rfl ?_
  refine x_istore_n (L' := [(0, .ref 1), (1, .int x1), (2, .int 1), (3, .int x1)]) [1, 2, 3, 0] d_G_findOrder_3 (by decide) rfl ?_
  exact h
set_option maxHeartbeats 1000000 in
theorem w_G_findOrder_4 {f : Nat} {x1 x2 x3 : Int32} {w : Wd} {K : Int32 → Wd → Prop} (h : ((w.1 1 2) ≤ x2 → K x2 w) ∧ (¬ (w.1 1 2) ≤ x2 → (x3 = 0 → K x2 w) ∧ (¬ x3 = 0 → RunI f M_G_plus [.ref 1, .int x3, .int x1] w (fun r2 w1 => ∀ a3 : Int32, a3 = x2 + 1 → E f M_G_findOrder 4 [(0, .ref 1), (1, .int x1), (2, .int a3), (3, .int r2)] [] w1 (qI f K))))) : E f M_G_findOrder 4 [(0, .ref 1), (1, .int x1), (2, .int x2), (3, .int x3)] [] w (qI f K) := by
  refine x_iload_n 2 d_G_findOrder_4 rfl ?_
  refine x_aload_n 0 d_G_findOrder_5 rfl ?_
  refine x_getI 5 2 d_G_findOrder_6 fg_5_37 rfl rfl (Nf_8 (by decide)) ?_
  refine x_icmp_ge 29 d_G_findOrder_9 (by decide) (fun c0 => ?_) (fun c0 => ?_)
  · have h := h.1 c0
    refine x_iload_n 2 d_G_findOrder_29 rfl ?_
    exact x_retI d_G_findOrder_30 rfl ⟨rfl, rfl⟩ h
  · have h := h.2 c0
    refine x_iload_n 3 d_G_findOrder_12 rfl ?_
    refine x_if_eq 29 d_G_findOrder_13 (by decide) (fun c0 => ?_) (fun c0 => ?_)
    · have h := h.1 c0
      refine x_iload_n 2 d_G_findOrder_29 rfl ?_
      exact x_retI d_G_findOrder_30 rfl ⟨rfl, rfl⟩ h
    · have h := h.2 c0
      refine x_aload_n 0 d_G_findOrder_16 rfl ?_
      refine x_iload_n 3 d_G_findOrder_17 rfl ?_
      refine x_iload_n 1 d_G_findOrder_18 rfl ?_
      refine x_callVI (st := []) M_G_plus [.int x3, .int x1] d_G_findOrder_19 ml_5_54 cv_G_plus rfl rfl (Nf_8 (by decide)) rfl (Nat.le_of_ble_eq_true rfl) ⟨Nat.le_of_ble_eq_true rfl, Nat.le_of_ble_eq_true rfl⟩ ⟨rfl, rfl⟩ h (fun r2 w1 h => ?_)
      refine x_istore_n (L' := [(0, .ref 1), (1, .int x1), (2, .int x2), (3, .int r2)]) [1, 2, 3, 0] d_G_findOrder_22 (by decide) rfl ?_
      obtain ⟨a3, ea3⟩ : ∃ z : Int32, z = x2 + 1 := ⟨_, rfl⟩
      have h := h a3 ea3
      refine x_iincE (L' := [(0, .ref 1), (1, .int x1), (2, .int a3), (3, .int r2)]) 2 [1, 2, 0, 3] d_G_findOrder_23 rfl ea3 (by decide) rfl ?_
      refine x_goto 4 d_G_findOrder_26 (by decide) ?_
      exact h
set_option maxHeartbeats 1000000 in
theorem r_G_listIfAutomorphism {f : Nat} {x1 x2 : Int32} {w : Wd} {K : Wd → Prop} (h : RunV f M_G_fillMap [.ref 1, .int x1, .int x2, .ref 5] w (fun w1 => RunL f M_G_mapped [.ref 1, .long (w1.2 1 3), .ref 5] w1 (fun r3 w2 => (¬ r3 = (w2.2 1 3) → K w2) ∧ (r3 = (w2.2 1 3) → (480 ≤ (w2.1 1 5) → K w2) ∧ (¬ 480 ≤ (w2.1 1 5) → vp_in (w2.1 1 5) 480 ∧ ∀ w4 : Wd, w4 = upI w2 6 (w2.1 1 5).toNatClampNeg x1 → vp_in (w4.1 1 5) 480 ∧ ∀ w5 : Wd, w5 = upI w4 7 (w4.1 1 5).toNatClampNeg x2 → ∀ w6 : Wd, w6 = upI w5 1 5 ((w5.1 1 5) + 1) → K w6))))) : RunV f M_G_listIfAutomorphism [.ref 1, .int x1, .int x2] w K := by
  refine runs_of (L := [(0, .ref 1), (1, .int x1), (2, .int x2)]) rfl (Nat.le_of_ble_eq_true rfl) rfl ?_
  refine x_aload_n 0 d_G_listIfAutomorphism_0 rfl ?_
  refine x_iload_n 1 d_G_listIfAutomorphism_1 rfl ?_
  refine x_iload_n 2 d_G_listIfAutomorphism_2 rfl ?_
  refine x_aload_n 0 d_G_listIfAutomorphism_3 rfl ?_
  refine x_getR 5 9 5 d_G_listIfAutomorphism_4 fg_5_21 rfl rfl rfl (Nf_8 (by decide)) ?_
  refine x_callVV (st := []) M_G_fillMap [.int x1, .int x2, .ref 5] d_G_listIfAutomorphism_7 ml_5_65 cv_G_fillMap rfl rfl (Nf_8 (by decide)) rfl (Nat.le_of_ble_eq_true rfl) ⟨Nat.le_of_ble_eq_true rfl, Nat.le_of_ble_eq_true rfl⟩ ⟨rfl, rfl⟩ h (fun w1 h => ?_)
  refine x_aload_n 0 d_G_listIfAutomorphism_10 rfl ?_
  refine x_aload_n 0 d_G_listIfAutomorphism_11 rfl ?_
  refine x_getL 5 3 d_G_listIfAutomorphism_12 fg_5_40 rfl rfl (Nf_8 (by decide)) ?_
  refine x_aload_n 0 d_G_listIfAutomorphism_15 rfl ?_
  refine x_getR 5 9 5 d_G_listIfAutomorphism_16 fg_5_21 rfl rfl rfl (Nf_8 (by decide)) ?_
  refine x_callVL (st := []) M_G_mapped [.long (w1.2 1 3), .ref 5] d_G_listIfAutomorphism_19 ml_5_69 cv_G_mapped rfl rfl (Nf_8 (by decide)) rfl (Nat.le_of_ble_eq_true rfl) ⟨Nat.le_of_ble_eq_true rfl, Nat.le_of_ble_eq_true rfl⟩ ⟨rfl, rfl⟩ h (fun r3 w2 h => ?_)
  refine x_aload_n 0 d_G_listIfAutomorphism_22 rfl ?_
  refine x_getL 5 3 d_G_listIfAutomorphism_23 fg_5_40 rfl rfl (Nf_8 (by decide)) ?_
  refine x_lif_ne 70 d_G_listIfAutomorphism_26 d_G_listIfAutomorphism_27 (by decide) (fun c0 => ?_) (fun c0 => ?_)
  · have h := h.1 c0
    exact x_retV d_G_listIfAutomorphism_70 rfl ⟨rfl, rfl⟩ h
  · have h := h.2 c0
    refine x_aload_n 0 d_G_listIfAutomorphism_30 rfl ?_
    refine x_getI 5 5 d_G_listIfAutomorphism_31 fg_5_58 rfl rfl (Nf_8 (by decide)) ?_
    refine x_sipush (v := 480) d_G_listIfAutomorphism_34 (by decide) ?_
    refine x_icmp_ge 70 d_G_listIfAutomorphism_37 (by decide) (fun c0 => ?_) (fun c0 => ?_)
    · have h := h.1 c0
      exact x_retV d_G_listIfAutomorphism_70 rfl ⟨rfl, rfl⟩ h
    · have h := h.2 c0
      refine x_aload_n 0 d_G_listIfAutomorphism_40 rfl ?_
      refine x_getR 5 10 6 d_G_listIfAutomorphism_41 fg_5_24 rfl rfl rfl (Nf_8 (by decide)) ?_
      refine x_aload_n 0 d_G_listIfAutomorphism_44 rfl ?_
      refine x_getI 5 5 d_G_listIfAutomorphism_45 fg_5_58 rfl rfl (Nf_8 (by decide)) ?_
      refine x_iload_n 1 d_G_listIfAutomorphism_48 rfl ?_
      obtain ⟨h0, h⟩ := h
      refine x_iastE d_G_listIfAutomorphism_49 rfl (Nf_8 (by decide)) h0 (fun w4 ew4 => ?_)
      have h := h w4 ew4
      refine x_aload_n 0 d_G_listIfAutomorphism_50 rfl ?_
      refine x_getR 5 11 7 d_G_listIfAutomorphism_51 fg_5_27 rfl rfl rfl (Nf_8 (by decide)) ?_
      refine x_aload_n 0 d_G_listIfAutomorphism_54 rfl ?_
      refine x_getI 5 5 d_G_listIfAutomorphism_55 fg_5_58 rfl rfl (Nf_8 (by decide)) ?_
      refine x_iload_n 2 d_G_listIfAutomorphism_58 rfl ?_
      obtain ⟨h0, h⟩ := h
      refine x_iastE d_G_listIfAutomorphism_59 rfl (Nf_8 (by decide)) h0 (fun w5 ew5 => ?_)
      have h := h w5 ew5
      refine x_aload_n 0 d_G_listIfAutomorphism_60 rfl ?_
      refine x_dup d_G_listIfAutomorphism_61 rfl ?_
      refine x_getI 5 5 d_G_listIfAutomorphism_62 fg_5_58 rfl rfl (Nf_8 (by decide)) ?_
      refine x_iconst (v := 1) d_G_listIfAutomorphism_65 (by decide) ?_
      refine x_iadd d_G_listIfAutomorphism_66 ?_
      refine x_putIE 5 5 d_G_listIfAutomorphism_67 fp_5_58 rfl rfl (Nf_8 (by decide)) (fun w6 ew6 => ?_)
      have h := h w6 ew6
      exact x_retV d_G_listIfAutomorphism_70 rfl ⟨rfl, rfl⟩ h
set_option maxHeartbeats 1000000 in
theorem r_G_listAutomorphisms {f : Nat} {w : Wd} {K : Wd → Prop} (h : ∀ w1 : Wd, w1 = upI w 1 5 0 → E f M_G_listAutomorphisms 7 [(0, .ref 1), (1, .int 0)] [] w1 (qV f K)) : RunV f M_G_listAutomorphisms [.ref 1] w K := by
  refine runs_of (L := [(0, .ref 1)]) rfl (Nat.le_of_ble_eq_true rfl) rfl ?_
  refine x_aload_n 0 d_G_listAutomorphisms_0 rfl ?_
  refine x_iconst (v := 0) d_G_listAutomorphisms_1 (by decide) ?_
  refine x_putIE 5 5 d_G_listAutomorphisms_2 fp_5_58 rfl rfl (Nf_8 (by decide)) (fun w1 ew1 => ?_)
  have h := h w1 ew1
  refine x_iconst (v := 0) d_G_listAutomorphisms_5 (by decide) ?_
  refine x_istore_n (L' := [(0, .ref 1), (1, .int 0)]) [1, 0] d_G_listAutomorphisms_6 (by decide) rfl ?_
  exact h
set_option maxHeartbeats 1000000 in
theorem w_G_listAutomorphisms_7 {f : Nat} {x1 : Int32} {w : Wd} {K : Wd → Prop} (h : ((w.1 1 2) ≤ x1 → K w) ∧ (¬ (w.1 1 2) ≤ x1 → vp_in x1 40 ∧ (¬ (w.1 4 x1.toNatClampNeg) = (w.1 1 1) → ∀ a1 : Int32, a1 = x1 + 1 → E f M_G_listAutomorphisms 7 [(0, .ref 1), (1, .int a1)] [] w (qV f K)) ∧ ((w.1 4 x1.toNatClampNeg) = (w.1 1 1) → E f M_G_listAutomorphisms 30 [(0, .ref 1), (1, .int x1), (2, .int 0)] [] w (qV f K)))) : E f M_G_listAutomorphisms 7 [(0, .ref 1), (1, .int x1)] [] w (qV f K) := by
  refine x_iload_n 1 d_G_listAutomorphisms_7 rfl ?_
  refine x_aload_n 0 d_G_listAutomorphisms_8 rfl ?_
  refine x_getI 5 2 d_G_listAutomorphisms_9 fg_5_37 rfl rfl (Nf_8 (by decide)) ?_
  refine x_icmp_ge 69 d_G_listAutomorphisms_12 (by decide) (fun c0 => ?_) (fun c0 => ?_)
  · have h := h.1 c0
    exact x_retV d_G_listAutomorphisms_69 rfl ⟨rfl, rfl⟩ h
  · have h := h.2 c0
    refine x_aload_n 0 d_G_listAutomorphisms_15 rfl ?_
    refine x_getR 5 8 4 d_G_listAutomorphisms_16 fg_5_18 rfl rfl rfl (Nf_8 (by decide)) ?_
    refine x_iload_n 1 d_G_listAutomorphisms_19 rfl ?_
    obtain ⟨h0, h⟩ := h
    refine x_iald d_G_listAutomorphisms_20 rfl (Nf_8 (by decide)) h0 ?_
    refine x_aload_n 0 d_G_listAutomorphisms_21 rfl ?_
    refine x_getI 5 1 d_G_listAutomorphisms_22 fg_5_34 rfl rfl (Nf_8 (by decide)) ?_
    refine x_icmp_ne 63 d_G_listAutomorphisms_25 (by decide) (fun c0 => ?_) (fun c0 => ?_)
    · have h := h.1 c0
      obtain ⟨a1, ea1⟩ : ∃ z : Int32, z = x1 + 1 := ⟨_, rfl⟩
      have h := h a1 ea1
      refine x_iincE (L' := [(0, .ref 1), (1, .int a1)]) 1 [1, 0] d_G_listAutomorphisms_63 rfl ea1 (by decide) rfl ?_
      refine x_goto 7 d_G_listAutomorphisms_66 (by decide) ?_
      exact h
    · have h := h.2 c0
      refine x_iconst (v := 0) d_G_listAutomorphisms_28 (by decide) ?_
      refine x_istore_n (L' := [(0, .ref 1), (1, .int x1), (2, .int 0)]) [1, 2, 0] d_G_listAutomorphisms_29 (by decide) rfl ?_
      exact h
set_option maxHeartbeats 1000000 in
theorem w_G_listAutomorphisms_30 {f : Nat} {x1 x2 : Int32} {w : Wd} {K : Wd → Prop} (h : ((w.1 1 2) ≤ x2 → ∀ a1 : Int32, a1 = x1 + 1 → E f M_G_listAutomorphisms 7 [(0, .ref 1), (1, .int a1)] [] w (qV f K)) ∧ (¬ (w.1 1 2) ≤ x2 → vp_in x2 40 ∧ (¬ (w.1 4 x2.toNatClampNeg) = (w.1 1 0) → ∀ a2 : Int32, a2 = x2 + 1 → E f M_G_listAutomorphisms 30 [(0, .ref 1), (1, .int x1), (2, .int a2)] [] w (qV f K)) ∧ ((w.1 4 x2.toNatClampNeg) = (w.1 1 0) → RunV f M_G_listIfAutomorphism [.ref 1, .int x2, .int x1] w (fun w3 => ∀ a4 : Int32, a4 = x2 + 1 → E f M_G_listAutomorphisms 30 [(0, .ref 1), (1, .int x1), (2, .int a4)] [] w3 (qV f K))))) : E f M_G_listAutomorphisms 30 [(0, .ref 1), (1, .int x1), (2, .int x2)] [] w (qV f K) := by
  refine x_iload_n 2 d_G_listAutomorphisms_30 rfl ?_
  refine x_aload_n 0 d_G_listAutomorphisms_31 rfl ?_
  refine x_getI 5 2 d_G_listAutomorphisms_32 fg_5_37 rfl rfl (Nf_8 (by decide)) ?_
  refine x_icmp_ge 63 d_G_listAutomorphisms_35 (by decide) (fun c0 => ?_) (fun c0 => ?_)
  · have h := h.1 c0
    obtain ⟨a1, ea1⟩ : ∃ z : Int32, z = x1 + 1 := ⟨_, rfl⟩
    have h := h a1 ea1
    refine x_iincE (L' := [(0, .ref 1), (1, .int a1), (2, .int x2)]) 1 [1, 0, 2] d_G_listAutomorphisms_63 rfl ea1 (by decide) rfl ?_
    refine x_goto 7 d_G_listAutomorphisms_66 (by decide) ?_
    exact x_perm [0, 1] rfl h
  · have h := h.2 c0
    refine x_aload_n 0 d_G_listAutomorphisms_38 rfl ?_
    refine x_getR 5 8 4 d_G_listAutomorphisms_39 fg_5_18 rfl rfl rfl (Nf_8 (by decide)) ?_
    refine x_iload_n 2 d_G_listAutomorphisms_42 rfl ?_
    obtain ⟨h0, h⟩ := h
    refine x_iald d_G_listAutomorphisms_43 rfl (Nf_8 (by decide)) h0 ?_
    refine x_aload_n 0 d_G_listAutomorphisms_44 rfl ?_
    refine x_getI 5 0 d_G_listAutomorphisms_45 fg_5_30 rfl rfl (Nf_8 (by decide)) ?_
    refine x_icmp_ne 57 d_G_listAutomorphisms_48 (by decide) (fun c0 => ?_) (fun c0 => ?_)
    · have h := h.1 c0
      obtain ⟨a2, ea2⟩ : ∃ z : Int32, z = x2 + 1 := ⟨_, rfl⟩
      have h := h a2 ea2
      refine x_iincE (L' := [(0, .ref 1), (1, .int x1), (2, .int a2)]) 2 [1, 2, 0] d_G_listAutomorphisms_57 rfl ea2 (by decide) rfl ?_
      refine x_goto 30 d_G_listAutomorphisms_60 (by decide) ?_
      exact h
    · have h := h.2 c0
      refine x_aload_n 0 d_G_listAutomorphisms_51 rfl ?_
      refine x_iload_n 2 d_G_listAutomorphisms_52 rfl ?_
      refine x_iload_n 1 d_G_listAutomorphisms_53 rfl ?_
      refine x_callVV (st := []) M_G_listIfAutomorphism [.int x2, .int x1] d_G_listAutomorphisms_54 ml_5_61 cv_G_listIfAutomorphism rfl rfl (Nf_8 (by decide)) rfl (Nat.le_of_ble_eq_true rfl) ⟨Nat.le_of_ble_eq_true rfl, Nat.le_of_ble_eq_true rfl⟩ ⟨rfl, rfl⟩ h (fun w3 h => ?_)
      obtain ⟨a4, ea4⟩ : ∃ z : Int32, z = x2 + 1 := ⟨_, rfl⟩
      have h := h a4 ea4
      refine x_iincE (L' := [(0, .ref 1), (1, .int x1), (2, .int a4)]) 2 [1, 2, 0] d_G_listAutomorphisms_57 rfl ea4 (by decide) rfl ?_
      refine x_goto 30 d_G_listAutomorphisms_60 (by decide) ?_
      exact h
set_option maxHeartbeats 1000000 in
theorem r_G_become {f : Nat} {x1 x2 : Int32} {w : Wd} {K : Wd → Prop} (h : ∀ w1 : Wd, w1 = upI w 1 0 x1 → ∀ w2 : Wd, w2 = upI w1 1 1 x2 → ∀ w3 : Wd, w3 = upI w2 1 2 (x1 * x2) → ∀ w4 : Wd, w4 = upL w3 1 3 ((1 <<< ((w3.1 1 2).toInt64 &&& 63)) - 1) → ∀ w5 : Wd, w5 = upL w4 1 4 0 → E f M_G_become 36 [(0, .ref 1), (3, .int 0)] [] w5 (qV f K)) : RunV f M_G_become [.ref 1, .int x1, .int x2] w K := by
  refine runs_of (L := [(0, .ref 1), (1, .int x1), (2, .int x2)]) rfl (Nat.le_of_ble_eq_true rfl) rfl ?_
  refine x_aload_n 0 d_G_become_0 rfl ?_
  refine x_iload_n 1 d_G_become_1 rfl ?_
  refine x_putIE 5 0 d_G_become_2 fp_5_30 rfl rfl (Nf_8 (by decide)) (fun w1 ew1 => ?_)
  have h := h w1 ew1
  refine x_aload_n 0 d_G_become_5 rfl ?_
  refine x_iload_n 2 d_G_become_6 rfl ?_
  refine x_putIE 5 1 d_G_become_7 fp_5_34 rfl rfl (Nf_8 (by decide)) (fun w2 ew2 => ?_)
  have h := h w2 ew2
  refine x_aload_n 0 d_G_become_10 rfl ?_
  refine x_iload_n 1 d_G_become_11 rfl ?_
  refine x_iload_n 2 d_G_become_12 rfl ?_
  refine x_imul d_G_become_13 ?_
  refine x_putIE 5 2 d_G_become_14 fp_5_37 rfl rfl (Nf_8 (by decide)) (fun w3 ew3 => ?_)
  have h := h w3 ew3
  refine x_aload_n 0 d_G_become_17 rfl ?_
  refine x_lconst (v := 1) d_G_become_18 (by decide) ?_
  refine x_aload_n 0 d_G_become_19 rfl ?_
  refine x_getI 5 2 d_G_become_20 fg_5_37 rfl rfl (Nf_8 (by decide)) ?_
  refine x_lshl d_G_become_23 ?_
  refine x_lconst (v := 1) d_G_become_24 (by decide) ?_
  refine x_lsub d_G_become_25 ?_
  refine x_putLE 5 3 d_G_become_26 fp_5_40 rfl rfl (Nf_8 (by decide)) (fun w4 ew4 => ?_)
  have h := h w4 ew4
  refine x_aload_n 0 d_G_become_29 rfl ?_
  refine x_lconst (v := 0) d_G_become_30 (by decide) ?_
  refine x_putLE 5 4 d_G_become_31 fp_5_44 rfl rfl (Nf_8 (by decide)) (fun w5 ew5 => ?_)
  have h := h w5 ew5
  refine x_iconst (v := 0) d_G_become_34 (by decide) ?_
  refine x_istore_n (L' := [(0, .ref 1), (1, .int x1), (2, .int x2), (3, .int 0)]) [1, 2, 3, 0] d_G_become_35 (by decide) rfl ?_
  exact x_perm [0, 3] rfl h
set_option maxHeartbeats 1000000 in
theorem w_G_become_36 {f : Nat} {x3 : Int32} {w : Wd} {K : Wd → Prop} (h : ((w.1 1 0) ≤ x3 → E f M_G_become 125 [(0, .ref 1), (3, .int 0)] [] w (qV f K)) ∧ (¬ (w.1 1 0) ≤ x3 → E f M_G_become 47 [(0, .ref 1), (3, .int x3), (4, .int 0)] [] w (qV f K))) : E f M_G_become 36 [(0, .ref 1), (3, .int x3)] [] w (qV f K) := by
  refine x_iload_n 1 d_G_become_36 rfl ?_
  refine x_aload_n 0 d_G_become_37 rfl ?_
  refine x_getI 5 0 d_G_become_38 fg_5_30 rfl rfl (Nf_8 (by decide)) ?_
  refine x_icmp_ge 123 d_G_become_41 (by decide) (fun c0 => ?_) (fun c0 => ?_)
  · have h := h.1 c0
    refine x_iconst (v := 0) d_G_become_123 (by decide) ?_
    refine x_istore_n (L' := [(0, .ref 1), (3, .int 0)]) [1, 0] d_G_become_124 (by decide) rfl ?_
    exact h
  · have h := h.2 c0
    refine x_iconst (v := 0) d_G_become_44 (by decide) ?_
    refine x_istore (L' := [(0, .ref 1), (3, .int x3), (4, .int 0)]) [1, 2, 0] d_G_become_45 (by decide) rfl ?_
    exact h
set_option maxHeartbeats 1000000 in
theorem w_G_become_125 {f : Nat} {x3 : Int32} {w : Wd} {K : Wd → Prop} (h : ((w.1 1 2) ≤ x3 → RunV f M_G_listAutomorphisms [.ref 1] w (fun w1 => K w1)) ∧ (¬ (w.1 1 2) ≤ x3 → RunI f M_G_findOrder [.ref 1, .int x3] w (fun r3 w2 => vp_in x3 40 ∧ ∀ w4 : Wd, w4 = upI w2 4 x3.toNatClampNeg r3 → ∀ a5 : Int32, a5 = x3 + 1 → E f M_G_become 125 [(0, .ref 1), (3, .int a5)] [] w4 (qV f K)))) : E f M_G_become 125 [(0, .ref 1), (3, .int x3)] [] w (qV f K) := by
  refine x_iload_n 1 d_G_become_125 rfl ?_
  refine x_aload_n 0 d_G_become_126 rfl ?_
  refine x_getI 5 2 d_G_become_127 fg_5_37 rfl rfl (Nf_8 (by decide)) ?_
  refine x_icmp_ge 150 d_G_become_130 (by decide) (fun c0 => ?_) (fun c0 => ?_)
  · have h := h.1 c0
    refine x_aload_n 0 d_G_become_150 rfl ?_
    refine x_callVV (st := []) M_G_listAutomorphisms [] d_G_become_151 ml_5_51 cv_G_listAutomorphisms rfl rfl (Nf_8 (by decide)) rfl (Nat.le_of_ble_eq_true rfl) ⟨Nat.le_of_ble_eq_true rfl, Nat.le_of_ble_eq_true rfl⟩ ⟨rfl, rfl⟩ h (fun w1 h => ?_)
    exact x_retV d_G_become_154 rfl ⟨rfl, rfl⟩ h
  · have h := h.2 c0
    refine x_aload_n 0 d_G_become_133 rfl ?_
    refine x_getR 5 8 4 d_G_become_134 fg_5_18 rfl rfl rfl (Nf_8 (by decide)) ?_
    refine x_iload_n 1 d_G_become_137 rfl ?_
    refine x_aload_n 0 d_G_become_138 rfl ?_
    refine x_iload_n 1 d_G_become_139 rfl ?_
    refine x_callVI (st := [.int x3, .ref 4]) M_G_findOrder [.int x3] d_G_become_140 ml_5_47 cv_G_findOrder rfl rfl (Nf_8 (by decide)) rfl (Nat.le_of_ble_eq_true rfl) ⟨Nat.le_of_ble_eq_true rfl, Nat.le_of_ble_eq_true rfl⟩ ⟨rfl, rfl⟩ h (fun r3 w2 h => ?_)
    obtain ⟨h0, h⟩ := h
    refine x_iastE d_G_become_143 rfl (Nf_8 (by decide)) h0 (fun w4 ew4 => ?_)
    have h := h w4 ew4
    obtain ⟨a5, ea5⟩ : ∃ z : Int32, z = x3 + 1 := ⟨_, rfl⟩
    have h := h a5 ea5
    refine x_iincE (L' := [(0, .ref 1), (3, .int a5)]) 1 [1, 0] d_G_become_144 rfl ea5 (by decide) rfl ?_
    refine x_goto 125 d_G_become_147 (by decide) ?_
    exact h
set_option maxHeartbeats 1000000 in
theorem w_G_become_47 {f : Nat} {x3 x4 : Int32} {w : Wd} {K : Wd → Prop} (h : ((w.1 1 1) ≤ x4 → ∀ w1 : Wd, w1 = upL w 1 4 ((w.2 1 4) ||| (1 <<< (((((w.1 1 1) * x3) + (w.1 1 1)) - 1).toInt64 &&& 63))) → ∀ a2 : Int32, a2 = x3 + 1 → E f M_G_become 36 [(0, .ref 1), (3, .int a2)] [] w1 (qV f K)) ∧ (¬ (w.1 1 1) ≤ x4 → vp_in (((w.1 1 1) * x3) + x4) 40 ∧ ∀ w3 : Wd, w3 = upI w 2 (((w.1 1 1) * x3) + x4).toNatClampNeg x3 → vp_in (((w3.1 1 1) * x3) + x4) 40 ∧ ∀ w4 : Wd, w4 = upI w3 3 (((w3.1 1 1) * x3) + x4).toNatClampNeg x4 → ∀ a5 : Int32, a5 = x4 + 1 → E f M_G_become 47 [(0, .ref 1), (3, .int x3), (4, .int a5)] [] w4 (qV f K))) : E f M_G_become 47 [(0, .ref 1), (3, .int x3), (4, .int x4)] [] w (qV f K) := by
  refine x_iload 2 d_G_become_47 rfl ?_
  refine x_aload_n 0 d_G_become_49 rfl ?_
  refine x_getI 5 1 d_G_become_50 fg_5_34 rfl rfl (Nf_8 (by decide)) ?_
  refine x_icmp_ge 93 d_G_become_53 (by decide) (fun c0 => ?_) (fun c0 => ?_)
  · have h := h.1 c0
    refine x_aload_n 0 d_G_become_93 rfl ?_
    refine x_dup d_G_become_94 rfl ?_
    refine x_getL 5 4 d_G_become_95 fg_5_44 rfl rfl (Nf_8 (by decide)) ?_
    refine x_lconst (v := 1) d_G_become_98 (by decide) ?_
    refine x_aload_n 0 d_G_become_99 rfl ?_
    refine x_getI 5 1 d_G_become_100 fg_5_34 rfl rfl (Nf_8 (by decide)) ?_
    refine x_iload_n 1 d_G_become_103 rfl ?_
    refine x_imul d_G_become_104 ?_
    refine x_aload_n 0 d_G_become_105 rfl ?_
    refine x_getI 5 1 d_G_become_106 fg_5_34 rfl rfl (Nf_8 (by decide)) ?_
    refine x_iadd d_G_become_109 ?_
    refine x_iconst (v := 1) d_G_become_110 (by decide) ?_
    refine x_isub d_G_become_111 ?_
    refine x_lshl d_G_become_112 ?_
    refine x_lor d_G_become_113 ?_
    refine x_putLE 5 4 d_G_become_114 fp_5_44 rfl rfl (Nf_8 (by decide)) (fun w1 ew1 => ?_)
    have h := h w1 ew1
    obtain ⟨a2, ea2⟩ : ∃ z : Int32, z = x3 + 1 := ⟨_, rfl⟩
    have h := h a2 ea2
    refine x_iincE (L' := [(0, .ref 1), (3, .int a2), (4, .int x4)]) 1 [1, 0, 2] d_G_become_117 rfl ea2 (by decide) rfl ?_
    refine x_goto 36 d_G_become_120 (by decide) ?_
    exact x_perm [0, 1] rfl h
  · have h := h.2 c0
    refine x_aload_n 0 d_G_become_56 rfl ?_
    refine x_getR 5 6 2 d_G_become_57 fg_5_9 rfl rfl rfl (Nf_8 (by decide)) ?_
    refine x_aload_n 0 d_G_become_60 rfl ?_
    refine x_getI 5 1 d_G_become_61 fg_5_34 rfl rfl (Nf_8 (by decide)) ?_
    refine x_iload_n 1 d_G_become_64 rfl ?_
    refine x_imul d_G_become_65 ?_
    refine x_iload 2 d_G_become_66 rfl ?_
    refine x_iadd d_G_become_68 ?_
    refine x_iload_n 1 d_G_become_69 rfl ?_
    obtain ⟨h0, h⟩ := h
    refine x_iastE d_G_become_70 rfl (Nf_8 (by decide)) h0 (fun w3 ew3 => ?_)
    have h := h w3 ew3
    refine x_aload_n 0 d_G_become_71 rfl ?_
    refine x_getR 5 7 3 d_G_become_72 fg_5_15 rfl rfl rfl (Nf_8 (by decide)) ?_
    refine x_aload_n 0 d_G_become_75 rfl ?_
    refine x_getI 5 1 d_G_become_76 fg_5_34 rfl rfl (Nf_8 (by decide)) ?_
    refine x_iload_n 1 d_G_become_79 rfl ?_
    refine x_imul d_G_become_80 ?_
    refine x_iload 2 d_G_become_81 rfl ?_
    refine x_iadd d_G_become_83 ?_
    refine x_iload 2 d_G_become_84 rfl ?_
    obtain ⟨h0, h⟩ := h
    refine x_iastE d_G_become_86 rfl (Nf_8 (by decide)) h0 (fun w4 ew4 => ?_)
    have h := h w4 ew4
    obtain ⟨a5, ea5⟩ : ∃ z : Int32, z = x4 + 1 := ⟨_, rfl⟩
    have h := h a5 ea5
    refine x_iincE (L' := [(0, .ref 1), (3, .int x3), (4, .int a5)]) 2 [1, 2, 0] d_G_become_87 rfl ea5 (by decide) rfl ?_
    refine x_goto 47 d_G_become_90 (by decide) ?_
    exact h
