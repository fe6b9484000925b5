set_option maxHeartbeats 1000000 in
theorem r_K_isOwnByFactor {x2 x3 : Int32} {w : Wd} {K : Bool → Wd → Prop} (h : RunV 1 M_G_fillMultiples [.ref 1, .int x2, .ref 15] w (fun w1 => RunI 1 M_K_listImage [.ref 14, .ref 10, .ref 17] w1 (fun r3 w2 => RunI 1 M_K_compareLists [.ref 17, .ref 16, .int x3] w2 (fun r5 w4 => (¬ r5 = 0 → K false w4) ∧ (r5 = 0 → K true w4))))) : RunZ 1 M_K_isOwnByFactor [.ref 14, .ref 10, .int x2, .int x3] w K := by
  refine runs_of (L := [(0, .ref 14), (1, .ref 10), (2, .int x2), (3, .int x3)]) rfl (Nat.le_of_ble_eq_true rfl) rfl ?_
  refine x_aload_n 0 d_K_isOwnByFactor_0 rfl ?_
  refine x_getR 7 0 1 d_K_isOwnByFactor_1 fg_7_25 rfl rfl rfl (Nf_58 (by decide)) ?_
  refine x_iload_n 2 d_K_isOwnByFactor_4 rfl ?_
  refine x_aload_n 0 d_K_isOwnByFactor_5 rfl ?_
  refine x_getR 7 1 15 d_K_isOwnByFactor_6 fg_7_9 rfl rfl rfl (Nf_58 (by decide)) ?_
  refine x_callVV (st := []) M_G_fillMultiples [.int x2, .ref 15] d_K_isOwnByFactor_9 ml_7_39 cv_G_fillMultiples rfl rfl (Nf_58 (by decide)) rfl (Nat.le_of_ble_eq_true rfl) ⟨Nat.le_of_ble_eq_true rfl, Nat.le_of_ble_eq_true rfl⟩ ⟨rfl, rfl⟩ h (fun w1 h => ?_)
  refine x_aload_n 0 d_K_isOwnByFactor_12 rfl ?_
  refine x_aload_n 1 d_K_isOwnByFactor_13 rfl ?_
  refine x_aload_n 0 d_K_isOwnByFactor_14 rfl ?_
  refine x_getR 7 3 17 d_K_isOwnByFactor_15 fg_7_19 rfl rfl rfl (Nf_58 (by decide)) ?_
  refine x_callVI (st := []) M_K_listImage [.ref 10, .ref 17] d_K_isOwnByFactor_18 ml_7_62 cv_K_listImage rfl rfl (Nf_58 (by decide)) rfl (Nat.le_of_ble_eq_true rfl) ⟨Nat.le_of_ble_eq_true rfl, Nat.le_of_ble_eq_true rfl⟩ ⟨rfl, rfl⟩ h (fun r3 w2 h => ?_)
  refine x_pop d_K_isOwnByFactor_21 rfl ?_
  refine x_aload_n 0 d_K_isOwnByFactor_22 rfl ?_
  refine x_getR 7 3 17 d_K_isOwnByFactor_23 fg_7_19 rfl rfl rfl (Nf_58 (by decide)) ?_
  refine x_aload_n 0 d_K_isOwnByFactor_26 rfl ?_
  refine x_getR 7 2 16 d_K_isOwnByFactor_27 fg_7_15 rfl rfl rfl (Nf_58 (by decide)) ?_
  refine x_iload_n 3 d_K_isOwnByFactor_30 rfl ?_
  refine x_callSI (st := []) M_K_compareLists [.ref 17, .ref 16, .int x3] d_K_isOwnByFactor_31 ml_7_65 cv_K_compareLists rfl (Nat.le_of_ble_eq_true rfl) ⟨Nat.le_of_ble_eq_true rfl, Nat.le_of_ble_eq_true rfl⟩ ⟨rfl, rfl⟩ h (fun r5 w4 h => ?_)
  refine x_if_ne 41 d_K_isOwnByFactor_34 (by decide) (fun c0 => ?_) (fun c0 => ?_)
  · have h := h.1 c0
    refine x_iconst (v := 0) d_K_isOwnByFactor_41 (by decide) ?_
    exact x_retZ (z := false) d_K_isOwnByFactor_42 rfl rfl ⟨rfl, rfl⟩ h
  · have h := h.2 c0
    refine x_iconst (v := 1) d_K_isOwnByFactor_37 (by decide) ?_
    refine x_goto 42 d_K_isOwnByFactor_38 (by decide) ?_
    exact x_retZ (z := true) d_K_isOwnByFactor_42 rfl rfl ⟨rfl, rfl⟩ h
set_option maxHeartbeats 1000000 in
theorem r_K_keepingFactors {w : Wd} {K : Int64 → Wd → Prop} (h : RunI 1 M_K_listSame [.ref 14, .ref 10, .ref 16] w (fun r2 w1 => E 1 M_K_keepingFactors 15 [(0, .ref 14), (1, .ref 10), (2, .int r2), (3, .long 0), (5, .int 1)] [] w1 (qL 1 K))) : RunL 1 M_K_keepingFactors [.ref 14, .ref 10] w K := by
  refine runs_of (L := [(0, .ref 14), (1, .ref 10)]) rfl (Nat.le_of_ble_eq_true rfl) rfl ?_
  refine x_aload_n 0 d_K_keepingFactors_0 rfl ?_
  refine x_aload_n 1 d_K_keepingFactors_1 rfl ?_
  refine x_aload_n 0 d_K_keepingFactors_2 rfl ?_
  refine x_getR 7 2 16 d_K_keepingFactors_3 fg_7_15 rfl rfl rfl (Nf_58 (by decide)) ?_
  refine x_callVI (st := []) M_K_listSame [.ref 10, .ref 16] d_K_keepingFactors_6 ml_7_46 cv_K_listSame rfl rfl (Nf_58 (by decide)) rfl (Nat.le_of_ble_eq_true rfl) ⟨Nat.le_of_ble_eq_true rfl, Nat.le_of_ble_eq_true rfl⟩ ⟨rfl, rfl⟩ h (fun r2 w1 h => ?_)
  refine x_istore_n (L' := [(0, .ref 14), (1, .ref 10), (2, .int r2)]) [1, 2, 0] d_K_keepingFactors_9 (by decide) rfl ?_
  refine x_lconst (v := 0) d_K_keepingFactors_10 (by decide) ?_
  refine x_lstore_n (L' := [(0, .ref 14), (1, .ref 10), (2, .int r2), (3, .long 0)]) [1, 2, 3, 0] d_K_keepingFactors_11 (by decide) rfl ?_
  refine x_iconst (v := 1) d_K_keepingFactors_12 (by decide) ?_
  refine x_istore (L' := [(0, .ref 14), (1, .ref 10), (2, .int r2), (3, .long 0), (5, .int 1)]) [1, 2, 3, 4, 0] d_K_keepingFactors_13 (by decide) rfl ?_
  exact h
set_option maxHeartbeats 1000000 in
theorem w_K_keepingFactors_15 {x2 x5 : Int32} {y3 : Int64} {w : Wd} {K : Int64 → Wd → Prop} (h : ((w.1 1 2) ≤ x5 → K y3 w) ∧ (¬ (w.1 1 2) ≤ x5 → RunZ 1 M_G_isCoprime [.ref 1, .int x5] w (fun z2 w1 => (z2 = false → ∀ a3 : Int32, a3 = x5 + 1 → E 1 M_K_keepingFactors 15 [(0, .ref 14), (1, .ref 10), (2, .int x2), (3, .long y3), (5, .int a3)] [] w1 (qL 1 K)) ∧ (z2 = true → RunZ 1 M_K_isOwnByFactor [.ref 14, .ref 10, .int x5, .int x2] w1 (fun z5 w4 => (z5 = false → ∀ a6 : Int32, a6 = x5 + 1 → E 1 M_K_keepingFactors 15 [(0, .ref 14), (1, .ref 10), (2, .int x2), (3, .long y3), (5, .int a6)] [] w4 (qL 1 K)) ∧ (z5 = true → ∀ b7 : Int64, b7 = y3 ||| (1 <<< (x5.toInt64 &&& 63)) → ∀ a8 : Int32, a8 = x5 + 1 → E 1 M_K_keepingFactors 15 [(0, .ref 14), (1, .ref 10), (2, .int x2), (3, .long b7), (5, .int a8)] [] w4 (qL 1 K))))))) : E 1 M_K_keepingFactors 15 [(0, .ref 14), (1, .ref 10), (2, .int x2), (3, .long y3), (5, .int x5)] [] w (qL 1 K) := by
  refine x_iload 4 d_K_keepingFactors_15 rfl ?_
  refine x_aload_n 0 d_K_keepingFactors_17 rfl ?_
  refine x_getR 7 0 1 d_K_keepingFactors_18 fg_7_25 rfl rfl rfl (Nf_58 (by decide)) ?_
  refine x_getI 5 2 d_K_keepingFactors_21 fg_7_58 rfl rfl (Nf_58 (by decide)) ?_
  refine x_icmp_ge 63 d_K_keepingFactors_24 (by decide) (fun c0 => ?_) (fun c0 => ?_)
  · have h := h.1 c0
    refine x_lload_n 3 d_K_keepingFactors_63 rfl ?_
    exact x_retL d_K_keepingFactors_64 rfl ⟨rfl, rfl⟩ h
  · have h := h.2 c0
    refine x_aload_n 0 d_K_keepingFactors_27 rfl ?_
    refine x_getR 7 0 1 d_K_keepingFactors_28 fg_7_25 rfl rfl rfl (Nf_58 (by decide)) ?_
    refine x_iload 4 d_K_keepingFactors_31 rfl ?_
    refine x_callVZ (st := []) M_G_isCoprime [.int x5] d_K_keepingFactors_33 ml_7_50 cv_G_isCoprime rfl rfl (Nf_58 (by decide)) rfl (Nat.le_of_ble_eq_true rfl) ⟨Nat.le_of_ble_eq_true rfl, Nat.le_of_ble_eq_true rfl⟩ ⟨rfl, rfl⟩ h (fun z2 w1 h => ?_)
    refine x_zif_eq 57 d_K_keepingFactors_36 (by decide) (fun c0 => ?_) (fun c0 => ?_)
    · have h := h.1 c0
      obtain ⟨a3, ea3⟩ : ∃ z : Int32, z = x5 + 1 := ⟨_, rfl⟩
      have h := h a3 ea3
      refine x_iincE (L' := [(0, .ref 14), (1, .ref 10), (2, .int x2), (3, .long y3), (5, .int a3)]) 4 [1, 2, 3, 4, 0] d_K_keepingFactors_57 rfl ea3 (by decide) rfl ?_
      refine x_goto 15 d_K_keepingFactors_60 (by decide) ?_
      exact h
    · have h := h.2 c0
      refine x_aload_n 0 d_K_keepingFactors_39 rfl ?_
      refine x_aload_n 1 d_K_keepingFactors_40 rfl ?_
      refine x_iload 4 d_K_keepingFactors_41 rfl ?_
      refine x_iload_n 2 d_K_keepingFactors_43 rfl ?_
      refine x_callVZ (st := []) M_K_isOwnByFactor [.ref 10, .int x5, .int x2] d_K_keepingFactors_44 ml_7_54 cv_K_isOwnByFactor rfl rfl (Nf_58 (by decide)) rfl (Nat.le_of_ble_eq_true rfl) ⟨Nat.le_of_ble_eq_true rfl, Nat.le_of_ble_eq_true rfl⟩ ⟨rfl, rfl⟩ h (fun z5 w4 h => ?_)
      refine x_zif_eq 57 d_K_keepingFactors_47 (by decide) (fun c0 => ?_) (fun c0 => ?_)
      · have h := h.1 c0
        obtain ⟨a6, ea6⟩ : ∃ z : Int32, z = x5 + 1 := ⟨_, rfl⟩
        have h := h a6 ea6
        refine x_iincE (L' := [(0, .ref 14), (1, .ref 10), (2, .int x2), (3, .long y3), (5, .int a6)]) 4 [1, 2, 3, 4, 0] d_K_keepingFactors_57 rfl ea6 (by decide) rfl ?_
        refine x_goto 15 d_K_keepingFactors_60 (by decide) ?_
        exact h
      · have h := h.2 c0
        refine x_lload_n 3 d_K_keepingFactors_50 rfl ?_
        refine x_lconst (v := 1) d_K_keepingFactors_51 (by decide) ?_
        refine x_iload 4 d_K_keepingFactors_52 rfl ?_
        refine x_lshl d_K_keepingFactors_54 ?_
        refine x_lor d_K_keepingFactors_55 ?_
        obtain ⟨b7, eb7⟩ : ∃ z : Int64, z = y3 ||| (1 <<< (x5.toInt64 &&& 63)) := ⟨_, rfl⟩
        have h := h b7 eb7
        refine x_lstore_nE (L' := [(0, .ref 14), (1, .ref 10), (2, .int x2), (3, .long b7), (5, .int x5)]) [1, 2, 3, 0, 4] d_K_keepingFactors_56 (by decide) eb7 rfl ?_
        obtain ⟨a8, ea8⟩ : ∃ z : Int32, z = x5 + 1 := ⟨_, rfl⟩
        have h := h a8 ea8
        refine x_iincE (L' := [(0, .ref 14), (1, .ref 10), (2, .int x2), (3, .long b7), (5, .int a8)]) 4 [1, 2, 3, 4, 0] d_K_keepingFactors_57 rfl ea8 (by decide) rfl ?_
        refine x_goto 15 d_K_keepingFactors_60 (by decide) ?_
        exact h
set_option maxHeartbeats 1000000 in
theorem r_A_multipliers {w : Wd} {K : Int64 → Wd → Prop} (h : RunL 1 M_K_keepingFactors [.ref 14, .ref 10] w (fun r2 w1 => K r2 w1)) : RunL 1 M_A_multipliers [.ref 0] w K := by
  refine runs_of (L := [(0, .ref 0)]) rfl (Nat.le_of_ble_eq_true rfl) rfl ?_
  refine x_aload_n 0 d_A_multipliers_0 rfl ?_
  refine x_getR 10 5 14 d_A_multipliers_1 fg_10_52 rfl rfl rfl (Nf_58 (by decide)) ?_
  refine x_aload_n 0 d_A_multipliers_4 rfl ?_
  refine x_getR 10 1 10 d_A_multipliers_5 fg_10_25 rfl rfl rfl (Nf_58 (by decide)) ?_
  refine x_callVL (st := []) M_K_keepingFactors [.ref 10] d_A_multipliers_8 ml_10_237 cv_K_keepingFactors rfl rfl (Nf_58 (by decide)) rfl (Nat.le_of_ble_eq_true rfl) ⟨Nat.le_of_ble_eq_true rfl, Nat.le_of_ble_eq_true rfl⟩ ⟨rfl, rfl⟩ h (fun r2 w1 h => ?_)
  exact x_retL d_A_multipliers_11 rfl ⟨rfl, rfl⟩ h
set_option maxHeartbeats 1000000 in
theorem r_K_keepingAutomorphisms {w : Wd} {K : Int32 → Wd → Prop} (h : RunI 1 M_K_listSame [.ref 14, .ref 10, .ref 16] w (fun r2 w1 => E 1 M_K_keepingAutomorphisms 15 [(0, .ref 14), (1, .ref 10), (2, .int r2), (3, .int 0), (4, .int 0)] [] w1 (qI 1 K))) : RunI 1 M_K_keepingAutomorphisms [.ref 14, .ref 10] w K := by
  refine runs_of (L := [(0, .ref 14), (1, .ref 10)]) rfl (Nat.le_of_ble_eq_true rfl) rfl ?_
  refine x_aload_n 0 d_K_keepingAutomorphisms_0 rfl ?_
  refine x_aload_n 1 d_K_keepingAutomorphisms_1 rfl ?_
  refine x_aload_n 0 d_K_keepingAutomorphisms_2 rfl ?_
  refine x_getR 7 2 16 d_K_keepingAutomorphisms_3 fg_7_15 rfl rfl rfl (Nf_58 (by decide)) ?_
  refine x_callVI (st := []) M_K_listSame [.ref 10, .ref 16] d_K_keepingAutomorphisms_6 ml_7_46 cv_K_listSame rfl rfl (Nf_58 (by decide)) rfl (Nat.le_of_ble_eq_true rfl) ⟨Nat.le_of_ble_eq_true rfl, Nat.le_of_ble_eq_true rfl⟩ ⟨rfl, rfl⟩ h (fun r2 w1 h => ?_)
  refine x_istore_n (L' := [(0, .ref 14), (1, .ref 10), (2, .int r2)]) [1, 2, 0] d_K_keepingAutomorphisms_9 (by decide) rfl ?_
  refine x_iconst (v := 0) d_K_keepingAutomorphisms_10 (by decide) ?_
  refine x_istore_n (L' := [(0, .ref 14), (1, .ref 10), (2, .int r2), (3, .int 0)]) [1, 2, 3, 0] d_K_keepingAutomorphisms_11 (by decide) rfl ?_
  refine x_iconst (v := 0) d_K_keepingAutomorphisms_12 (by decide) ?_
  refine x_istore (L' := [(0, .ref 14), (1, .ref 10), (2, .int r2), (3, .int 0), (4, .int 0)]) [1, 2, 3, 4, 0] d_K_keepingAutomorphisms_13 (by decide) rfl ?_
  exact h
set_option maxHeartbeats 1000000 in
theorem w_K_keepingAutomorphisms_15 {x2 x3 x4 : Int32} {w : Wd} {K : Int32 → Wd → Prop} (h : ((w.1 1 5) ≤ x4 → K x3 w) ∧ (¬ (w.1 1 5) ≤ x4 → RunV 1 M_G_fillAutomorphism [.ref 1, .int x4, .ref 15] w (fun w1 => RunI 1 M_K_listImage [.ref 14, .ref 10, .ref 17] w1 (fun r3 w2 => RunI 1 M_K_compareLists [.ref 17, .ref 16, .int x2] w2 (fun r5 w4 => (¬ r5 = 0 → ∀ a6 : Int32, a6 = x4 + 1 → E 1 M_K_keepingAutomorphisms 15 [(0, .ref 14), (1, .ref 10), (2, .int x2), (3, .int x3), (4, .int a6)] [] w4 (qI 1 K)) ∧ (r5 = 0 → ∀ a7 : Int32, a7 = x3 + 1 → ∀ a8 : Int32, a8 = x4 + 1 → E 1 M_K_keepingAutomorphisms 15 [(0, .ref 14), (1, .ref 10), (2, .int x2), (3, .int a7), (4, .int a8)] [] w4 (qI 1 K))))))) : E 1 M_K_keepingAutomorphisms 15 [(0, .ref 14), (1, .ref 10), (2, .int x2), (3, .int x3), (4, .int x4)] [] w (qI 1 K) := by
  refine x_iload 4 d_K_keepingAutomorphisms_15 rfl ?_
  refine x_aload_n 0 d_K_keepingAutomorphisms_17 rfl ?_
  refine x_getR 7 0 1 d_K_keepingAutomorphisms_18 fg_7_25 rfl rfl rfl (Nf_58 (by decide)) ?_
  refine x_getI 5 5 d_K_keepingAutomorphisms_21 fg_7_69 rfl rfl (Nf_58 (by decide)) ?_
  refine x_icmp_ge 74 d_K_keepingAutomorphisms_24 (by decide) (fun c0 => ?_) (fun c0 => ?_)
  · have h := h.1 c0
    refine x_iload_n 3 d_K_keepingAutomorphisms_74 rfl ?_
    exact x_retI d_K_keepingAutomorphisms_75 rfl ⟨rfl, rfl⟩ h
  · have h := h.2 c0
    refine x_aload_n 0 d_K_keepingAutomorphisms_27 rfl ?_
    refine x_getR 7 0 1 d_K_keepingAutomorphisms_28 fg_7_25 rfl rfl rfl (Nf_58 (by decide)) ?_
    refine x_iload 4 d_K_keepingAutomorphisms_31 rfl ?_
    refine x_aload_n 0 d_K_keepingAutomorphisms_33 rfl ?_
    refine x_getR 7 1 15 d_K_keepingAutomorphisms_34 fg_7_9 rfl rfl rfl (Nf_58 (by decide)) ?_
    refine x_callVV (st := []) M_G_fillAutomorphism [.int x4, .ref 15] d_K_keepingAutomorphisms_37 ml_7_29 cv_G_fillAutomorphism rfl rfl (Nf_58 (by decide)) rfl (Nat.le_of_ble_eq_true rfl) ⟨Nat.le_of_ble_eq_true rfl, Nat.le_of_ble_eq_true rfl⟩ ⟨rfl, rfl⟩ h (fun w1 h => ?_)
    refine x_aload_n 0 d_K_keepingAutomorphisms_40 rfl ?_
    refine x_aload_n 1 d_K_keepingAutomorphisms_41 rfl ?_
    refine x_aload_n 0 d_K_keepingAutomorphisms_42 rfl ?_
    refine x_getR 7 3 17 d_K_keepingAutomorphisms_43 fg_7_19 rfl rfl rfl (Nf_58 (by decide)) ?_
    refine x_callVI (st := []) M_K_listImage [.ref 10, .ref 17] d_K_keepingAutomorphisms_46 ml_7_62 cv_K_listImage rfl rfl (Nf_58 (by decide)) rfl (Nat.le_of_ble_eq_true rfl) ⟨Nat.le_of_ble_eq_true rfl, Nat.le_of_ble_eq_true rfl⟩ ⟨rfl, rfl⟩ h (fun r3 w2 h => ?_)
    refine x_pop d_K_keepingAutomorphisms_49 rfl ?_
    refine x_aload_n 0 d_K_keepingAutomorphisms_50 rfl ?_
    refine x_getR 7 3 17 d_K_keepingAutomorphisms_51 fg_7_19 rfl rfl rfl (Nf_58 (by decide)) ?_
    refine x_aload_n 0 d_K_keepingAutomorphisms_54 rfl ?_
    refine x_getR 7 2 16 d_K_keepingAutomorphisms_55 fg_7_15 rfl rfl rfl (Nf_58 (by decide)) ?_
    refine x_iload_n 2 d_K_keepingAutomorphisms_58 rfl ?_
    refine x_callSI (st := []) M_K_compareLists [.ref 17, .ref 16, .int x2] d_K_keepingAutomorphisms_59 ml_7_65 cv_K_compareLists rfl (Nat.le_of_ble_eq_true rfl) ⟨Nat.le_of_ble_eq_true rfl, Nat.le_of_ble_eq_true rfl⟩ ⟨rfl, rfl⟩ h (fun r5 w4 h => ?_)
    refine x_if_ne 68 d_K_keepingAutomorphisms_62 (by decide) (fun c0 => ?_) (fun c0 => ?_)
    · have h := h.1 c0
      obtain ⟨a6, ea6⟩ : ∃ z : Int32, z = x4 + 1 := ⟨_, rfl⟩
      have h := h a6 ea6
      refine x_iincE (L' := [(0, .ref 14), (1, .ref 10), (2, .int x2), (3, .int x3), (4, .int a6)]) 4 [1, 2, 3, 4, 0] d_K_keepingAutomorphisms_68 rfl ea6 (by decide) rfl ?_
      refine x_goto 15 d_K_keepingAutomorphisms_71 (by decide) ?_
      exact h
    · have h := h.2 c0
      obtain ⟨a7, ea7⟩ : ∃ z : Int32, z = x3 + 1 := ⟨_, rfl⟩
      have h := h a7 ea7
      refine x_iincE (L' := [(0, .ref 14), (1, .ref 10), (2, .int x2), (3, .int a7), (4, .int x4)]) 3 [1, 2, 3, 0, 4] d_K_keepingAutomorphisms_65 rfl ea7 (by decide) rfl ?_
      obtain ⟨a8, ea8⟩ : ∃ z : Int32, z = x4 + 1 := ⟨_, rfl⟩
      have h := h a8 ea8
      refine x_iincE (L' := [(0, .ref 14), (1, .ref 10), (2, .int x2), (3, .int a7), (4, .int a8)]) 4 [1, 2, 3, 4, 0] d_K_keepingAutomorphisms_68 rfl ea8 (by decide) rfl ?_
      refine x_goto 15 d_K_keepingAutomorphisms_71 (by decide) ?_
      exact h
set_option maxHeartbeats 1000000 in
theorem r_A_symmetries {w : Wd} {K : Int32 → Wd → Prop} (h : RunI 1 M_K_keepingAutomorphisms [.ref 14, .ref 10] w (fun r2 w1 => K r2 w1)) : RunI 1 M_A_symmetries [.ref 0] w K := by
  refine runs_of (L := [(0, .ref 0)]) rfl (Nat.le_of_ble_eq_true rfl) rfl ?_
  refine x_aload_n 0 d_A_symmetries_0 rfl ?_
  refine x_getR 10 5 14 d_A_symmetries_1 fg_10_52 rfl rfl rfl (Nf_58 (by decide)) ?_
  refine x_aload_n 0 d_A_symmetries_4 rfl ?_
  refine x_getR 10 1 10 d_A_symmetries_5 fg_10_25 rfl rfl rfl (Nf_58 (by decide)) ?_
  refine x_callVI (st := []) M_K_keepingAutomorphisms [.ref 10] d_A_symmetries_8 ml_10_241 cv_K_keepingAutomorphisms rfl rfl (Nf_58 (by decide)) rfl (Nat.le_of_ble_eq_true rfl) ⟨Nat.le_of_ble_eq_true rfl, Nat.le_of_ble_eq_true rfl⟩ ⟨rfl, rfl⟩ h (fun r2 w1 h => ?_)
  exact x_retI d_A_symmetries_11 rfl ⟨rfl, rfl⟩ h
set_option maxHeartbeats 1000000 in
theorem r_D_isListedFrom {x1 : Int32} {y2 : Int64} {w : Wd} {K : Bool → Wd → Prop} (h : E 1 M_D_isListedFrom 3 [(0, .ref 19), (2, .long y2), (4, .int x1)] [] w (qZ 1 K)) : RunZ 1 M_D_isListedFrom [.ref 19, .int x1, .long y2] w K := by
  refine runs_of (L := [(0, .ref 19), (1, .int x1), (2, .long y2)]) rfl (Nat.le_of_ble_eq_true rfl) rfl ?_
  refine x_iload_n 1 d_D_isListedFrom_0 rfl ?_
  refine x_istore (L' := [(0, .ref 19), (1, .int x1), (2, .long y2), (4, .int x1)]) [1, 2, 3, 0] d_D_isListedFrom_1 (by decide) rfl ?_
  exact x_perm [0, 2, 3] rfl h
set_option maxHeartbeats 1000000 in
theorem w_D_isListedFrom_3 {x4 : Int32} {y2 : Int64} {w : Wd} {K : Bool → Wd → Prop} (h : ((w.1 19 2) ≤ x4 → K false w) ∧ (¬ (w.1 19 2) ≤ x4 → vp_in x4 240 ∧ (¬ (w.2 20 x4.toNatClampNeg) = y2 → ∀ a1 : Int32, a1 = x4 + 1 → E 1 M_D_isListedFrom 3 [(0, .ref 19), (2, .long y2), (4, .int a1)] [] w (qZ 1 K)) ∧ ((w.2 20 x4.toNatClampNeg) = y2 → K true w))) : E 1 M_D_isListedFrom 3 [(0, .ref 19), (2, .long y2), (4, .int x4)] [] w (qZ 1 K) := by
  refine x_iload 2 d_D_isListedFrom_3 rfl ?_
  refine x_aload_n 0 d_D_isListedFrom_5 rfl ?_
  refine x_getI 0 2 d_D_isListedFrom_6 fg_0_19 rfl rfl (Nf_58 (by decide)) ?_
  refine x_icmp_ge 32 d_D_isListedFrom_9 (by decide) (fun c0 => ?_) (fun c0 => ?_)
  · have h := h.1 c0
    refine x_iconst (v := 0) d_D_isListedFrom_32 (by decide) ?_
    exact x_retZ (z := false) d_D_isListedFrom_33 rfl rfl ⟨rfl, rfl⟩ h
  · have h := h.2 c0
    refine x_aload_n 0 d_D_isListedFrom_12 rfl ?_
    refine x_getR 0 1 20 d_D_isListedFrom_13 fg_0_9 rfl rfl rfl (Nf_58 (by decide)) ?_
    refine x_iload 2 d_D_isListedFrom_16 rfl ?_
    obtain ⟨h0, h⟩ := h
    refine x_lald d_D_isListedFrom_18 rfl (Nf_58 (by decide)) h0 ?_
    refine x_lload_n 1 d_D_isListedFrom_19 rfl ?_
    refine x_lif_ne 26 d_D_isListedFrom_20 d_D_isListedFrom_21 (by decide) (fun c0 => ?_) (fun c0 => ?_)
    · have h := h.1 c0
      obtain ⟨a1, ea1⟩ : ∃ z : Int32, z = x4 + 1 := ⟨_, rfl⟩
      have h := h a1 ea1
      refine x_iincE (L' := [(0, .ref 19), (2, .long y2), (4, .int a1)]) 2 [1, 2, 0] d_D_isListedFrom_26 rfl ea1 (by decide) rfl ?_
      refine x_goto 3 d_D_isListedFrom_29 (by decide) ?_
      exact h
    · have h := h.2 c0
      refine x_iconst (v := 1) d_D_isListedFrom_24 (by decide) ?_
      exact x_retZ (z := true) d_D_isListedFrom_25 rfl rfl ⟨rfl, rfl⟩ h
set_option maxHeartbeats 1000000 in
theorem r_D_addTranslates {y1 : Int64} {w : Wd} {K : Wd → Prop} (h : ∀ a1 : Int32, a1 = w.1 19 2 → E 1 M_D_addTranslates 11 [(0, .ref 19), (3, .int a1), (4, .long y1), (6, .int 0)] [] w (qV 1 K)) : RunV 1 M_D_addTranslates [.ref 19, .long y1] w K := by
  refine runs_of (L := [(0, .ref 19), (1, .long y1)]) rfl (Nat.le_of_ble_eq_true rfl) rfl ?_
  refine x_aload_n 0 d_D_addTranslates_0 rfl ?_
  refine x_getI 0 2 d_D_addTranslates_1 fg_0_19 rfl rfl (Nf_58 (by decide)) ?_
  obtain ⟨a1, ea1⟩ : ∃ z : Int32, z = w.1 19 2 := ⟨_, rfl⟩
  have h := h a1 ea1
  refine x_istore_nE (L' := [(0, .ref 19), (1, .long y1), (3, .int a1)]) [1, 2, 0] d_D_addTranslates_4 (by decide) ea1 rfl ?_
  refine x_lload_n 1 d_D_addTranslates_5 rfl ?_
  refine x_lstore (L' := [(0, .ref 19), (1, .long y1), (3, .int a1), (4, .long y1)]) [1, 2, 3, 0] d_D_addTranslates_6 (by decide) rfl ?_
  refine x_iconst (v := 0) d_D_addTranslates_8 (by decide) ?_
  refine x_istore (L' := [(0, .ref 19), (1, .long y1), (3, .int a1), (4, .long y1), (6, .int 0)]) [1, 2, 3, 4, 0] d_D_addTranslates_9 (by decide) rfl ?_
  exact x_perm [0, 2, 3, 4] rfl h
set_option maxHeartbeats 1000000 in
theorem w_D_addTranslates_11 {x3 x6 : Int32} {y4 : Int64} {w : Wd} {K : Wd → Prop} (h : ((w.1 1 2) ≤ x6 → K w) ∧ (¬ (w.1 1 2) ≤ x6 → RunZ 1 M_D_isListedFrom [.ref 19, .int x3, .long y4] w (fun z2 w1 => (z2 = true → RunL 1 M_G_onward [.ref 1, .long y4, .int x6] w1 (fun r4 w3 => ∀ a5 : Int32, a5 = x6 + 1 → E 1 M_D_addTranslates 11 [(0, .ref 19), (3, .int x3), (4, .long r4), (6, .int a5)] [] w3 (qV 1 K))) ∧ (z2 = false → vp_in (w1.1 19 2) 240 ∧ ∀ w6 : Wd, w6 = upL w1 20 (w1.1 19 2).toNatClampNeg y4 → ∀ w7 : Wd, w7 = upI w6 19 2 ((w6.1 19 2) + 1) → RunL 1 M_G_onward [.ref 1, .long y4, .int x6] w7 (fun r9 w8 => ∀ a10 : Int32, a10 = x6 + 1 → E 1 M_D_addTranslates 11 [(0, .ref 19), (3, .int x3), (4, .long r9), (6, .int a10)] [] w8 (qV 1 K)))))) : E 1 M_D_addTranslates 11 [(0, .ref 19), (3, .int x3), (4, .long y4), (6, .int x6)] [] w (qV 1 K) := by
  refine x_iload 3 d_D_addTranslates_11 rfl ?_
  refine x_aload_n 0 d_D_addTranslates_13 rfl ?_
  refine x_getR 0 0 1 d_D_addTranslates_14 fg_0_15 rfl rfl rfl (Nf_58 (by decide)) ?_
  refine x_getI 5 2 d_D_addTranslates_17 fg_0_27 rfl rfl (Nf_58 (by decide)) ?_
  refine x_icmp_ge 73 d_D_addTranslates_20 (by decide) (fun c0 => ?_) (fun c0 => ?_)
  · have h := h.1 c0
    exact x_retV d_D_addTranslates_73 rfl ⟨rfl, rfl⟩ h
  · have h := h.2 c0
    refine x_aload_n 0 d_D_addTranslates_23 rfl ?_
    refine x_iload_n 1 d_D_addTranslates_24 rfl ?_
    refine x_lload 2 d_D_addTranslates_25 rfl ?_
    refine x_callVZ (st := []) M_D_isListedFrom [.int x3, .long y4] d_D_addTranslates_27 ml_0_32 cv_D_isListedFrom rfl rfl (Nf_58 (by decide)) rfl (Nat.le_of_ble_eq_true rfl) ⟨Nat.le_of_ble_eq_true rfl, Nat.le_of_ble_eq_true rfl⟩ ⟨rfl, rfl⟩ h (fun z2 w1 h => ?_)
    refine x_zif_ne 54 d_D_addTranslates_30 (by decide) (fun c0 => ?_) (fun c0 => ?_)
    · have h := h.1 c0
      refine x_aload_n 0 d_D_addTranslates_54 rfl ?_
      refine x_getR 0 0 1 d_D_addTranslates_55 fg_0_15 rfl rfl rfl (Nf_58 (by decide)) ?_
      refine x_lload 2 d_D_addTranslates_58 rfl ?_
      refine x_iload 3 d_D_addTranslates_60 rfl ?_
      refine x_callVL (st := []) M_G_onward [.long y4, .int x6] d_D_addTranslates_62 ml_0_36 cv_G_onward rfl rfl (Nf_58 (by decide)) rfl (Nat.le_of_ble_eq_true rfl) ⟨Nat.le_of_ble_eq_true rfl, Nat.le_of_ble_eq_true rfl⟩ ⟨rfl, rfl⟩ h (fun r4 w3 h => ?_)
      refine x_lstore (L' := [(0, .ref 19), (3, .int x3), (4, .long r4), (6, .int x6)]) [1, 2, 0, 3] d_D_addTranslates_65 (by decide) rfl ?_
      obtain ⟨a5, ea5⟩ : ∃ z : Int32, z = x6 + 1 := ⟨_, rfl⟩
      have h := h a5 ea5
      refine x_iincE (L' := [(0, .ref 19), (3, .int x3), (4, .long r4), (6, .int a5)]) 3 [1, 2, 3, 0] d_D_addTranslates_67 rfl ea5 (by decide) rfl ?_
      refine x_goto 11 d_D_addTranslates_70 (by decide) ?_
      exact h
    · have h := h.2 c0
      refine x_aload_n 0 d_D_addTranslates_33 rfl ?_
      refine x_getR 0 1 20 d_D_addTranslates_34 fg_0_9 rfl rfl rfl (Nf_58 (by decide)) ?_
      refine x_aload_n 0 d_D_addTranslates_37 rfl ?_
      refine x_getI 0 2 d_D_addTranslates_38 fg_0_19 rfl rfl (Nf_58 (by decide)) ?_
      refine x_lload 2 d_D_addTranslates_41 rfl ?_
      obtain ⟨h0, h⟩ := h
      refine x_lastE d_D_addTranslates_43 rfl (Nf_58 (by decide)) h0 (fun w6 ew6 => ?_)
      have h := h w6 ew6
      refine x_aload_n 0 d_D_addTranslates_44 rfl ?_
      refine x_dup d_D_addTranslates_45 rfl ?_
      refine x_getI 0 2 d_D_addTranslates_46 fg_0_19 rfl rfl (Nf_58 (by decide)) ?_
      refine x_iconst (v := 1) d_D_addTranslates_49 (by decide) ?_
      refine x_iadd d_D_addTranslates_50 ?_
      refine x_putIE 0 2 d_D_addTranslates_51 fp_0_19 rfl rfl (Nf_58 (by decide)) (fun w7 ew7 => ?_)
      have h := h w7 ew7
      refine x_aload_n 0 d_D_addTranslates_54 rfl ?_
      refine x_getR 0 0 1 d_D_addTranslates_55 fg_0_15 rfl rfl rfl (Nf_58 (by decide)) ?_
      refine x_lload 2 d_D_addTranslates_58 rfl ?_
      refine x_iload 3 d_D_addTranslates_60 rfl ?_
      refine x_callVL (st := []) M_G_onward [.long y4, .int x6] d_D_addTranslates_62 ml_0_36 cv_G_onward rfl rfl (Nf_58 (by decide)) rfl (Nat.le_of_ble_eq_true rfl) ⟨Nat.le_of_ble_eq_true rfl, Nat.le_of_ble_eq_true rfl⟩ ⟨rfl, rfl⟩ h (fun r9 w8 h => ?_)
      refine x_lstore (L' := [(0, .ref 19), (3, .int x3), (4, .long r9), (6, .int x6)]) [1, 2, 0, 3] d_D_addTranslates_65 (by decide) rfl ?_
      obtain ⟨a10, ea10⟩ : ∃ z : Int32, z = x6 + 1 := ⟨_, rfl⟩
      have h := h a10 ea10
      refine x_iincE (L' := [(0, .ref 19), (3, .int x3), (4, .long r9), (6, .int a10)]) 3 [1, 2, 3, 0] d_D_addTranslates_67 rfl ea10 (by decide) rfl ?_
      refine x_goto 11 d_D_addTranslates_70 (by decide) ?_
      exact h
set_option maxHeartbeats 1000000 in
theorem r_D_develop {w : Wd} {K : Wd → Prop} (h : ∀ w1 : Wd, w1 = upI w 19 2 0 → E 1 M_D_develop 7 [(0, .ref 19), (1, .ref 10), (2, .int 0)] [] w1 (qV 1 K)) : RunV 1 M_D_develop [.ref 19, .ref 10] w K := by
  refine runs_of (L := [(0, .ref 19), (1, .ref 10)]) rfl (Nat.le_of_ble_eq_true rfl) rfl ?_
  refine x_aload_n 0 d_D_develop_0 rfl ?_
  refine x_iconst (v := 0) d_D_develop_1 (by decide) ?_
  refine x_putIE 0 2 d_D_develop_2 fp_0_19 rfl rfl (Nf_58 (by decide)) (fun w1 ew1 => ?_)
  have h := h w1 ew1
  refine x_iconst (v := 0) d_D_develop_5 (by decide) ?_
  refine x_istore_n (L' := [(0, .ref 19), (1, .ref 10), (2, .int 0)]) [1, 2, 0] d_D_develop_6 (by decide) rfl ?_
  exact h
set_option maxHeartbeats 1000000 in
theorem w_D_develop_7 {x2 : Int32} {w : Wd} {K : Wd → Prop} (h : (6 ≤ x2 → K w) ∧ (¬ 6 ≤ x2 → vp_in x2 6 ∧ ((w.2 10 x2.toNatClampNeg) = 0 → ∀ a1 : Int32, a1 = x2 + 1 → E 1 M_D_develop 7 [(0, .ref 19), (1, .ref 10), (2, .int a1)] [] w (qV 1 K)) ∧ (¬ (w.2 10 x2.toNatClampNeg) = 0 → vp_in x2 6 ∧ RunV 1 M_D_addTranslates [.ref 19, .long (w.2 10 x2.toNatClampNeg)] w (fun w2 => ∀ a3 : Int32, a3 = x2 + 1 → E 1 M_D_develop 7 [(0, .ref 19), (1, .ref 10), (2, .int a3)] [] w2 (qV 1 K))))) : E 1 M_D_develop 7 [(0, .ref 19), (1, .ref 10), (2, .int x2)] [] w (qV 1 K) := by
  refine x_iload_n 2 d_D_develop_7 rfl ?_
  refine x_bipush (v := 6) d_D_develop_8 (by decide) ?_
  refine x_icmp_ge 34 d_D_develop_10 (by decide) (fun c0 => ?_) (fun c0 => ?_)
  · have h := h.1 c0
    exact x_retV d_D_develop_34 rfl ⟨rfl, rfl⟩ h
  · have h := h.2 c0
    refine x_aload_n 1 d_D_develop_13 rfl ?_
    refine x_iload_n 2 d_D_develop_14 rfl ?_
    obtain ⟨h0, h⟩ := h
    refine x_lald d_D_develop_15 rfl (Nf_58 (by decide)) h0 ?_
    refine x_lconst (v := 0) d_D_develop_16 (by decide) ?_
    refine x_lif_eq 28 d_D_develop_17 d_D_develop_18 (by decide) (fun c0 => ?_) (fun c0 => ?_)
    · have h := h.1 c0
      obtain ⟨a1, ea1⟩ : ∃ z : Int32, z = x2 + 1 := ⟨_, rfl⟩
      have h := h a1 ea1
      refine x_iincE (L' := [(0, .ref 19), (1, .ref 10), (2, .int a1)]) 2 [1, 2, 0] d_D_develop_28 rfl ea1 (by decide) rfl ?_
      refine x_goto 7 d_D_develop_31 (by decide) ?_
      exact h
    · have h := h.2 c0
      refine x_aload_n 0 d_D_develop_21 rfl ?_
      refine x_aload_n 1 d_D_develop_22 rfl ?_
      refine x_iload_n 2 d_D_develop_23 rfl ?_
      obtain ⟨h0, h⟩ := h
      refine x_lald d_D_develop_24 rfl (Nf_58 (by decide)) h0 ?_
      refine x_callVV (st := []) M_D_addTranslates [.long (w.2 10 x2.toNatClampNeg)] d_D_develop_25 ml_0_23 cv_D_addTranslates rfl rfl (Nf_58 (by decide)) rfl (Nat.le_of_ble_eq_true rfl) ⟨Nat.le_of_ble_eq_true rfl, Nat.le_of_ble_eq_true rfl⟩ ⟨rfl, rfl⟩ h (fun w2 h => ?_)
      obtain ⟨a3, ea3⟩ : ∃ z : Int32, z = x2 + 1 := ⟨_, rfl⟩
      have h := h a3 ea3
      refine x_iincE (L' := [(0, .ref 19), (1, .ref 10), (2, .int a3)]) 2 [1, 2, 0] d_D_develop_28 rfl ea3 (by decide) rfl ?_
      refine x_goto 7 d_D_develop_31 (by decide) ?_
      exact h
set_option maxHeartbeats 1000000 in
theorem r_A_designBlocks {w : Wd} {K : Int32 → Wd → Prop} (h : RunV 1 M_D_develop [.ref 19, .ref 10] w (fun w1 => K (w1.1 19 2) w1)) : RunI 1 M_A_designBlocks [.ref 0] w K := by
  refine runs_of (L := [(0, .ref 0)]) rfl (Nat.le_of_ble_eq_true rfl) rfl ?_
  refine x_aload_n 0 d_A_designBlocks_0 rfl ?_
  refine x_getR 10 6 19 d_A_designBlocks_1 fg_10_59 rfl rfl rfl (Nf_58 (by decide)) ?_
  refine x_aload_n 0 d_A_designBlocks_4 rfl ?_
  refine x_getR 10 1 10 d_A_designBlocks_5 fg_10_25 rfl rfl rfl (Nf_58 (by decide)) ?_
  refine x_callVV (st := []) M_D_develop [.ref 10] d_A_designBlocks_8 ml_10_265 cv_D_develop rfl rfl (Nf_58 (by decide)) rfl (Nat.le_of_ble_eq_true rfl) ⟨Nat.le_of_ble_eq_true rfl, Nat.le_of_ble_eq_true rfl⟩ ⟨rfl, rfl⟩ h (fun w1 h => ?_)
  refine x_aload_n 0 d_A_designBlocks_11 rfl ?_
  refine x_getR 10 6 19 d_A_designBlocks_12 fg_10_59 rfl rfl rfl (Nf_58 (by decide)) ?_
  refine x_getI 0 2 d_A_designBlocks_15 fg_10_268 rfl rfl (Nf_58 (by decide)) ?_
  exact x_retI d_A_designBlocks_18 rfl ⟨rfl, rfl⟩ h
set_option maxHeartbeats 1000000 in
theorem r_E_remainder {x0 x1 : Int32} {w : Wd} {K : Int32 → Wd → Prop} (h : (x1 ≤ 0 → K 0 w) ∧ (¬ x1 ≤ 0 → (¬ x1 = 0) ∧ K (x0 - x0 / x1 * x1) w)) : RunI 1 M_E_remainder [.int x0, .int x1] w K := by
  refine runs_of (L := [(0, .int x0), (1, .int x1)]) rfl (Nat.le_of_ble_eq_true rfl) rfl ?_
  refine x_iload_n 1 d_E_remainder_0 rfl ?_
  refine x_if_le 10 d_E_remainder_1 (by decide) (fun c0 => ?_) (fun c0 => ?_)
  · have h := h.1 c0
    refine x_iconst (v := 0) d_E_remainder_10 (by decide) ?_
    exact x_retI d_E_remainder_11 rfl ⟨rfl, rfl⟩ h
  · have h := h.2 c0
    refine x_iload_n 0 d_E_remainder_4 rfl ?_
    refine x_iload_n 1 d_E_remainder_5 rfl ?_
    obtain ⟨h0, h⟩ := h
    refine x_irem d_E_remainder_6 h0 ?_
    refine x_goto 11 d_E_remainder_7 (by decide) ?_
    exact x_retI d_E_remainder_11 rfl ⟨rfl, rfl⟩ h
set_option maxHeartbeats 1000000 in
theorem r_E_inverse {x0 x1 : Int32} {w : Wd} {K : Int32 → Wd → Prop} (h : E 1 M_E_inverse 2 [(0, .int x0), (1, .int x1), (2, .int 1)] [] w (qI 1 K)) : RunI 1 M_E_inverse [.int x0, .int x1] w K := by
  refine runs_of (L := [(0, .int x0), (1, .int x1)]) rfl (Nat.le_of_ble_eq_true rfl) rfl ?_
  refine x_iconst (v := 1) d_E_inverse_0 (by decide) ?_
  refine x_istore_n (L' := [(0, .int x0), (1, .int x1), (2, .int 1)]) [1, 2, 0] d_E_inverse_1 (by decide) rfl ?_
  exact h
set_option maxHeartbeats 1000000 in
theorem w_E_inverse_2 {x0 x1 x2 : Int32} {w : Wd} {K : Int32 → Wd → Prop} (h : (x1 ≤ x2 → K 1 w) ∧ (¬ x1 ≤ x2 → RunI 1 M_E_remainder [.int (x0 * x2), .int x1] w (fun r2 w1 => (¬ r2 = 1 → ∀ a3 : Int32, a3 = x2 + 1 → E 1 M_E_inverse 2 [(0, .int x0), (1, .int x1), (2, .int a3)] [] w1 (qI 1 K)) ∧ (r2 = 1 → K x2 w1)))) : E 1 M_E_inverse 2 [(0, .int x0), (1, .int x1), (2, .int x2)] [] w (qI 1 K) := by
  refine x_iload_n 2 d_E_inverse_2 rfl ?_
  refine x_iload_n 1 d_E_inverse_3 rfl ?_
  refine x_icmp_ge 26 d_E_inverse_4 (by decide) (fun c0 => ?_) (fun c0 => ?_)
  · have h := h.1 c0
    refine x_iconst (v := 1) d_E_inverse_26 (by decide) ?_
    exact x_retI d_E_inverse_27 rfl ⟨rfl, rfl⟩ h
  · have h := h.2 c0
    refine x_iload_n 0 d_E_inverse_7 rfl ?_
    refine x_iload_n 2 d_E_inverse_8 rfl ?_
    refine x_imul d_E_inverse_9 ?_
    refine x_iload_n 1 d_E_inverse_10 rfl ?_
    refine x_callSI (st := []) M_E_remainder [.int (x0 * x2), .int x1] d_E_inverse_11 ml_2_60 cv_E_remainder rfl (Nat.le_of_ble_eq_true rfl) ⟨Nat.le_of_ble_eq_true rfl, Nat.le_of_ble_eq_true rfl⟩ ⟨rfl, rfl⟩ h (fun r2 w1 h => ?_)
    refine x_iconst (v := 1) d_E_inverse_14 (by decide) ?_
    refine x_icmp_ne 20 d_E_inverse_15 (by decide) (fun c0 => ?_) (fun c0 => ?_)
    · have h := h.1 c0
      obtain ⟨a3, ea3⟩ : ∃ z : Int32, z = x2 + 1 := ⟨_, rfl⟩
      have h := h a3 ea3
      refine x_iincE (L' := [(0, .int x0), (1, .int x1), (2, .int a3)]) 2 [1, 2, 0] d_E_inverse_20 rfl ea3 (by decide) rfl ?_
      refine x_goto 2 d_E_inverse_23 (by decide) ?_
      exact h
    · have h := h.2 c0
      refine x_iload_n 2 d_E_inverse_18 rfl ?_
      exact x_retI d_E_inverse_19 rfl ⟨rfl, rfl⟩ h
set_option maxHeartbeats 1000000 in
theorem r_E_addToBasis {x1 x2 : Int32} {w : Wd} {K : Wd → Prop} (h : vp_in x1 40 ∧ RunI 1 M_E_inverse [.int (w.1 22 x1.toNatClampNeg), .int x2] w (fun r2 w1 => E 1 M_E_addToBasis 14 [(0, .ref 21), (1, .int x1), (2, .int x2), (3, .int r2), (4, .int 0)] [] w1 (qV 1 K))) : RunV 1 M_E_addToBasis [.ref 21, .int x1, .int x2] w K := by
  refine runs_of (L := [(0, .ref 21), (1, .int x1), (2, .int x2)]) rfl (Nat.le_of_ble_eq_true rfl) rfl ?_
  refine x_aload_n 0 d_E_addToBasis_0 rfl ?_
  refine x_getR 2 1 22 d_E_addToBasis_1 fg_2_9 rfl rfl rfl (Nf_58 (by decide)) ?_
  refine x_iload_n 1 d_E_addToBasis_4 rfl ?_
  obtain ⟨h0, h⟩ := h
  refine x_iald d_E_addToBasis_5 rfl (Nf_58 (by decide)) h0 ?_
  refine x_iload_n 2 d_E_addToBasis_6 rfl ?_
  refine x_callSI (st := []) M_E_inverse [.int (w.1 22 x1.toNatClampNeg), .int x2] d_E_addToBasis_7 ml_2_56 cv_E_inverse rfl (Nat.le_of_ble_eq_true rfl) ⟨Nat.le_of_ble_eq_true rfl, Nat.le_of_ble_eq_true rfl⟩ ⟨rfl, rfl⟩ h (fun r2 w1 h => ?_)
  refine x_istore_n (L' := [(0, .ref 21), (1, .int x1), (2, .int x2), (3, .int r2)]) [1, 2, 3, 0] d_E_addToBasis_10 (by decide) rfl ?_
  refine x_iconst (v := 0) d_E_addToBasis_11 (by decide) ?_
  refine x_istore (L' := [(0, .ref 21), (1, .int x1), (2, .int x2), (3, .int r2), (4, .int 0)]) [1, 2, 3, 4, 0] d_E_addToBasis_12 (by decide) rfl ?_
  exact h
set_option maxHeartbeats 1000000 in
theorem w_E_addToBasis_14 {x1 x2 x3 x4 : Int32} {w : Wd} {K : Wd → Prop} (h : ((w.1 1 2) ≤ x4 → ∀ w1 : Wd, w1 = upL w 21 3 ((w.2 21 3) ||| (1 <<< (x1.toInt64 &&& 63))) → K w1) ∧ (¬ (w.1 1 2) ≤ x4 → vp_in x4 40 ∧ RunI 1 M_E_remainder [.int ((w.1 22 x4.toNatClampNeg) * x3), .int x2] w (fun r3 w2 => vp_in ((x1 * 40) + x4) 1600 ∧ ∀ w4 : Wd, w4 = upI w2 23 ((x1 * 40) + x4).toNatClampNeg r3 → ∀ a5 : Int32, a5 = x4 + 1 → E 1 M_E_addToBasis 14 [(0, .ref 21), (1, .int x1), (2, .int x2), (3, .int x3), (4, .int a5)] [] w4 (qV 1 K)))) : E 1 M_E_addToBasis 14 [(0, .ref 21), (1, .int x1), (2, .int x2), (3, .int x3), (4, .int x4)] [] w (qV 1 K) := by
  refine x_iload 4 d_E_addToBasis_14 rfl ?_
  refine x_aload_n 0 d_E_addToBasis_16 rfl ?_
  refine x_getR 2 0 1 d_E_addToBasis_17 fg_2_18 rfl rfl rfl (Nf_58 (by decide)) ?_
  refine x_getI 5 2 d_E_addToBasis_20 fg_2_32 rfl rfl (Nf_58 (by decide)) ?_
  refine x_icmp_ge 57 d_E_addToBasis_23 (by decide) (fun c0 => ?_) (fun c0 => ?_)
  · have h := h.1 c0
    refine x_aload_n 0 d_E_addToBasis_57 rfl ?_
    refine x_dup d_E_addToBasis_58 rfl ?_
    refine x_getL 2 3 d_E_addToBasis_59 fg_2_22 rfl rfl (Nf_58 (by decide)) ?_
    refine x_lconst (v := 1) d_E_addToBasis_62 (by decide) ?_
    refine x_iload_n 1 d_E_addToBasis_63 rfl ?_
    refine x_lshl d_E_addToBasis_64 ?_
    refine x_lor d_E_addToBasis_65 ?_
    refine x_putLE 2 3 d_E_addToBasis_66 fp_2_22 rfl rfl (Nf_58 (by decide)) (fun w1 ew1 => ?_)
    have h := h w1 ew1
    exact x_retV d_E_addToBasis_69 rfl ⟨rfl, rfl⟩ h
  · have h := h.2 c0
    refine x_aload_n 0 d_E_addToBasis_26 rfl ?_
    refine x_getR 2 2 23 d_E_addToBasis_27 fg_2_15 rfl rfl rfl (Nf_58 (by decide)) ?_
    refine x_iload_n 1 d_E_addToBasis_30 rfl ?_
    refine x_bipush (v := 40) d_E_addToBasis_31 (by decide) ?_
    refine x_imul d_E_addToBasis_33 ?_
    refine x_iload 4 d_E_addToBasis_34 rfl ?_
    refine x_iadd d_E_addToBasis_36 ?_
    refine x_aload_n 0 d_E_addToBasis_37 rfl ?_
    refine x_getR 2 1 22 d_E_addToBasis_38 fg_2_9 rfl rfl rfl (Nf_58 (by decide)) ?_
    refine x_iload 4 d_E_addToBasis_41 rfl ?_
    obtain ⟨h0, h⟩ := h
    refine x_iald d_E_addToBasis_43 rfl (Nf_58 (by decide)) h0 ?_
    refine x_iload_n 3 d_E_addToBasis_44 rfl ?_
    refine x_imul d_E_addToBasis_45 ?_
    refine x_iload_n 2 d_E_addToBasis_46 rfl ?_
    refine x_callSI (st := [.int ((x1 * 40) + x4), .ref 23]) M_E_remainder [.int ((w.1 22 x4.toNatClampNeg) * x3), .int x2] d_E_addToBasis_47 ml_2_60 cv_E_remainder rfl (Nat.le_of_ble_eq_true rfl) ⟨Nat.le_of_ble_eq_true rfl, Nat.le_of_ble_eq_true rfl⟩ ⟨rfl, rfl⟩ h (fun r3 w2 h => ?_)
    obtain ⟨h0, h⟩ := h
    refine x_iastE d_E_addToBasis_50 rfl (Nf_58 (by decide)) h0 (fun w4 ew4 => ?_)
    have h := h w4 ew4
    obtain ⟨a5, ea5⟩ : ∃ z : Int32, z = x4 + 1 := ⟨_, rfl⟩
    have h := h a5 ea5
    refine x_iincE (L' := [(0, .ref 21), (1, .int x1), (2, .int x2), (3, .int x3), (4, .int a5)]) 4 [1, 2, 3, 4, 0] d_E_addToBasis_51 rfl ea5 (by decide) rfl ?_
    refine x_goto 14 d_E_addToBasis_54 (by decide) ?_
    exact h
set_option maxHeartbeats 1000000 in
theorem r_E_clearColumn {x1 x2 : Int32} {w : Wd} {K : Wd → Prop} (h : vp_in x1 40 ∧ ∀ a1 : Int32, a1 = x2 - (w.1 22 x1.toNatClampNeg) → E 1 M_E_clearColumn 12 [(0, .ref 21), (1, .int x1), (2, .int x2), (3, .int a1), (4, .int x1)] [] w (qV 1 K)) : RunV 1 M_E_clearColumn [.ref 21, .int x1, .int x2] w K := by
  refine runs_of (L := [(0, .ref 21), (1, .int x1), (2, .int x2)]) rfl (Nat.le_of_ble_eq_true rfl) rfl ?_
  refine x_iload_n 2 d_E_clearColumn_0 rfl ?_
  refine x_aload_n 0 d_E_clearColumn_1 rfl ?_
  refine x_getR 2 1 22 d_E_clearColumn_2 fg_2_9 rfl rfl rfl (Nf_58 (by decide)) ?_
  refine x_iload_n 1 d_E_clearColumn_5 rfl ?_
  obtain ⟨h0, h⟩ := h
  refine x_iald d_E_clearColumn_6 rfl (Nf_58 (by decide)) h0 ?_
  refine x_isub d_E_clearColumn_7 ?_
  obtain ⟨a1, ea1⟩ : ∃ z : Int32, z = x2 - (w.1 22 x1.toNatClampNeg) := ⟨_, rfl⟩
  have h := h a1 ea1
  refine x_istore_nE (L' := [(0, .ref 21), (1, .int x1), (2, .int x2), (3, .int a1)]) [1, 2, 3, 0] d_E_clearColumn_8 (by decide) ea1 rfl ?_
  refine x_iload_n 1 d_E_clearColumn_9 rfl ?_
  refine x_istore (L' := [(0, .ref 21), (1, .int x1), (2, .int x2), (3, .int a1), (4, .int x1)]) [1, 2, 3, 4, 0] d_E_clearColumn_10 (by decide) rfl ?_
  exact h
set_option maxHeartbeats 1000000 in
theorem w_E_clearColumn_12 {x1 x2 x3 x4 : Int32} {w : Wd} {K : Wd → Prop} (h : ((w.1 1 2) ≤ x4 → K w) ∧ (¬ (w.1 1 2) ≤ x4 → vp_in x4 40 ∧ vp_in ((x1 * 40) + x4) 1600 ∧ RunI 1 M_E_remainder [.int ((w.1 22 x4.toNatClampNeg) + (x3 * (w.1 23 ((x1 * 40) + x4).toNatClampNeg))), .int x2] w (fun r2 w1 => vp_in x4 40 ∧ ∀ w3 : Wd, w3 = upI w1 22 x4.toNatClampNeg r2 → ∀ a4 : Int32, a4 = x4 + 1 → E 1 M_E_clearColumn 12 [(0, .ref 21), (1, .int x1), (2, .int x2), (3, .int x3), (4, .int a4)] [] w3 (qV 1 K)))) : E 1 M_E_clearColumn 12 [(0, .ref 21), (1, .int x1), (2, .int x2), (3, .int x3), (4, .int x4)] [] w (qV 1 K) := by
  refine x_iload 4 d_E_clearColumn_12 rfl ?_
  refine x_aload_n 0 d_E_clearColumn_14 rfl ?_
  refine x_getR 2 0 1 d_E_clearColumn_15 fg_2_18 rfl rfl rfl (Nf_58 (by decide)) ?_
  refine x_getI 5 2 d_E_clearColumn_18 fg_2_32 rfl rfl (Nf_58 (by decide)) ?_
  refine x_icmp_ge 63 d_E_clearColumn_21 (by decide) (fun c0 => ?_) (fun c0 => ?_)
  · have h := h.1 c0
    exact x_retV d_E_clearColumn_63 rfl ⟨rfl, rfl⟩ h
  · have h := h.2 c0
    refine x_aload_n 0 d_E_clearColumn_24 rfl ?_
    refine x_getR 2 1 22 d_E_clearColumn_25 fg_2_9 rfl rfl rfl (Nf_58 (by decide)) ?_
    refine x_iload 4 d_E_clearColumn_28 rfl ?_
    refine x_aload_n 0 d_E_clearColumn_30 rfl ?_
    refine x_getR 2 1 22 d_E_clearColumn_31 fg_2_9 rfl rfl rfl (Nf_58 (by decide)) ?_
    refine x_iload 4 d_E_clearColumn_34 rfl ?_
    obtain ⟨h0, h⟩ := h
    refine x_iald d_E_clearColumn_36 rfl (Nf_58 (by decide)) h0 ?_
    refine x_iload_n 3 d_E_clearColumn_37 rfl ?_
    refine x_aload_n 0 d_E_clearColumn_38 rfl ?_
    refine x_getR 2 2 23 d_E_clearColumn_39 fg_2_15 rfl rfl rfl (Nf_58 (by decide)) ?_
    refine x_iload_n 1 d_E_clearColumn_42 rfl ?_
    refine x_bipush (v := 40) d_E_clearColumn_43 (by decide) ?_
    refine x_imul d_E_clearColumn_45 ?_
    refine x_iload 4 d_E_clearColumn_46 rfl ?_
    refine x_iadd d_E_clearColumn_48 ?_
    obtain ⟨h0, h⟩ := h
    refine x_iald d_E_clearColumn_49 rfl (Nf_58 (by decide)) h0 ?_
    refine x_imul d_E_clearColumn_50 ?_
    refine x_iadd d_E_clearColumn_51 ?_
    refine x_iload_n 2 d_E_clearColumn_52 rfl ?_
    refine x_callSI (st := [.int x4, .ref 22]) M_E_remainder [.int ((w.1 22 x4.toNatClampNeg) + (x3 * (w.1 23 ((x1 * 40) + x4).toNatClampNeg))), .int x2] d_E_clearColumn_53 ml_2_60 cv_E_remainder rfl (Nat.le_of_ble_eq_true rfl) ⟨Nat.le_of_ble_eq_true rfl, Nat.le_of_ble_eq_true rfl⟩ ⟨rfl, rfl⟩ h (fun r2 w1 h => ?_)
    obtain ⟨h0, h⟩ := h
    refine x_iastE d_E_clearColumn_56 rfl (Nf_58 (by decide)) h0 (fun w3 ew3 => ?_)
    have h := h w3 ew3
    obtain ⟨a4, ea4⟩ : ∃ z : Int32, z = x4 + 1 := ⟨_, rfl⟩
    have h := h a4 ea4
    refine x_iincE (L' := [(0, .ref 21), (1, .int x1), (2, .int x2), (3, .int x3), (4, .int a4)]) 4 [1, 2, 3, 4, 0] d_E_clearColumn_57 rfl ea4 (by decide) rfl ?_
    refine x_goto 12 d_E_clearColumn_60 (by decide) ?_
    exact h
set_option maxHeartbeats 1000000 in
theorem r_E_joinsBasis {x1 : Int32} {w : Wd} {K : Bool → Wd → Prop} (h : E 1 M_E_joinsBasis 2 [(0, .ref 21), (1, .int x1), (2, .int 0)] [] w (qZ 1 K)) : RunZ 1 M_E_joinsBasis [.ref 21, .int x1] w K := by
  refine runs_of (L := [(0, .ref 21), (1, .int x1)]) rfl (Nat.le_of_ble_eq_true rfl) rfl ?_
  refine x_iconst (v := 0) d_E_joinsBasis_0 (by decide) ?_
  refine x_istore_n (L' := [(0, .ref 21), (1, .int x1), (2, .int 0)]) [1, 2, 0] d_E_joinsBasis_1 (by decide) rfl ?_
  exact h
set_option maxHeartbeats 1000000 in
theorem w_E_joinsBasis_2 {x1 x2 : Int32} {w : Wd} {K : Bool → Wd → Prop} (h : ((w.1 1 2) ≤ x2 → K false w) ∧ (¬ (w.1 1 2) ≤ x2 → vp_in x2 40 ∧ ((w.1 22 x2.toNatClampNeg) = 0 → ∀ a1 : Int32, a1 = x2 + 1 → E 1 M_E_joinsBasis 2 [(0, .ref 21), (1, .int x1), (2, .int a1)] [] w (qZ 1 K)) ∧ (¬ (w.1 22 x2.toNatClampNeg) = 0 → RunZ 1 M_A_holds [.long (w.2 21 3), .int x2] w (fun z3 w2 => (z3 = true → RunV 1 M_E_clearColumn [.ref 21, .int x2, .int x1] w2 (fun w4 => ∀ a5 : Int32, a5 = x2 + 1 → E 1 M_E_joinsBasis 2 [(0, .ref 21), (1, .int x1), (2, .int a5)] [] w4 (qZ 1 K))) ∧ (z3 = false → RunV 1 M_E_addToBasis [.ref 21, .int x2, .int x1] w2 (fun w6 => K true w6)))))) : E 1 M_E_joinsBasis 2 [(0, .ref 21), (1, .int x1), (2, .int x2)] [] w (qZ 1 K) := by
  refine x_iload_n 2 d_E_joinsBasis_2 rfl ?_
  refine x_aload_n 0 d_E_joinsBasis_3 rfl ?_
  refine x_getR 2 0 1 d_E_joinsBasis_4 fg_2_18 rfl rfl rfl (Nf_58 (by decide)) ?_
  refine x_getI 5 2 d_E_joinsBasis_7 fg_2_32 rfl rfl (Nf_58 (by decide)) ?_
  refine x_icmp_ge 53 d_E_joinsBasis_10 (by decide) (fun c0 => ?_) (fun c0 => ?_)
  · have h := h.1 c0
    refine x_iconst (v := 0) d_E_joinsBasis_53 (by decide) ?_
    exact x_retZ (z := false) d_E_joinsBasis_54 rfl rfl ⟨rfl, rfl⟩ h
  · have h := h.2 c0
    refine x_aload_n 0 d_E_joinsBasis_13 rfl ?_
    refine x_getR 2 1 22 d_E_joinsBasis_14 fg_2_9 rfl rfl rfl (Nf_58 (by decide)) ?_
    refine x_iload_n 2 d_E_joinsBasis_17 rfl ?_
    obtain ⟨h0, h⟩ := h
    refine x_iald d_E_joinsBasis_18 rfl (Nf_58 (by decide)) h0 ?_
    refine x_if_eq 47 d_E_joinsBasis_19 (by decide) (fun c0 => ?_) (fun c0 => ?_)
    · have h := h.1 c0
      obtain ⟨a1, ea1⟩ : ∃ z : Int32, z = x2 + 1 := ⟨_, rfl⟩
      have h := h a1 ea1
      refine x_iincE (L' := [(0, .ref 21), (1, .int x1), (2, .int a1)]) 2 [1, 2, 0] d_E_joinsBasis_47 rfl ea1 (by decide) rfl ?_
      refine x_goto 2 d_E_joinsBasis_50 (by decide) ?_
      exact h
    · have h := h.2 c0
      refine x_aload_n 0 d_E_joinsBasis_22 rfl ?_
      refine x_getL 2 3 d_E_joinsBasis_23 fg_2_22 rfl rfl (Nf_58 (by decide)) ?_
      refine x_iload_n 2 d_E_joinsBasis_26 rfl ?_
      refine x_callSZ (st := []) M_A_holds [.long (w.2 21 3), .int x2] d_E_joinsBasis_27 ml_2_41 cv_A_holds rfl (Nat.le_of_ble_eq_true rfl) ⟨Nat.le_of_ble_eq_true rfl, Nat.le_of_ble_eq_true rfl⟩ ⟨rfl, rfl⟩ h (fun z3 w2 h => ?_)
      refine x_zif_ne 41 d_E_joinsBasis_30 (by decide) (fun c0 => ?_) (fun c0 => ?_)
      · have h := h.1 c0
        refine x_aload_n 0 d_E_joinsBasis_41 rfl ?_
        refine x_iload_n 2 d_E_joinsBasis_42 rfl ?_
        refine x_iload_n 1 d_E_joinsBasis_43 rfl ?_
        refine x_callVV (st := []) M_E_clearColumn [.int x2, .int x1] d_E_joinsBasis_44 ml_2_53 cv_E_clearColumn rfl rfl (Nf_58 (by decide)) rfl (Nat.le_of_ble_eq_true rfl) ⟨Nat.le_of_ble_eq_true rfl, Nat.le_of_ble_eq_true rfl⟩ ⟨rfl, rfl⟩ h (fun w4 h => ?_)
        obtain ⟨a5, ea5⟩ : ∃ z : Int32, z = x2 + 1 := ⟨_, rfl⟩
        have h := h a5 ea5
        refine x_iincE (L' := [(0, .ref 21), (1, .int x1), (2, .int a5)]) 2 [1, 2, 0] d_E_joinsBasis_47 rfl ea5 (by decide) rfl ?_
        refine x_goto 2 d_E_joinsBasis_50 (by decide) ?_
        exact h
      · have h := h.2 c0
        refine x_aload_n 0 d_E_joinsBasis_33 rfl ?_
        refine x_iload_n 2 d_E_joinsBasis_34 rfl ?_
        refine x_iload_n 1 d_E_joinsBasis_35 rfl ?_
        refine x_callVV (st := []) M_E_addToBasis [.int x2, .int x1] d_E_joinsBasis_36 ml_2_49 cv_E_addToBasis rfl rfl (Nf_58 (by decide)) rfl (Nat.le_of_ble_eq_true rfl) ⟨Nat.le_of_ble_eq_true rfl, Nat.le_of_ble_eq_true rfl⟩ ⟨rfl, rfl⟩ h (fun w6 h => ?_)
        refine x_iconst (v := 1) d_E_joinsBasis_39 (by decide) ?_
        exact x_retZ (z := true) d_E_joinsBasis_40 rfl rfl ⟨rfl, rfl⟩ h
set_option maxHeartbeats 1000000 in
theorem r_E_independentRows {x2 : Int32} {w : Wd} {K : Int32 → Wd → Prop} (h : ∀ w1 : Wd, w1 = upL w 21 3 0 → E 1 M_E_independentRows 10 [(0, .ref 21), (1, .ref 19), (2, .int x2), (3, .int 0), (4, .int 0)] [] w1 (qI 1 K)) : RunI 1 M_E_independentRows [.ref 21, .ref 19, .int x2] w K := by
  refine runs_of (L := [(0, .ref 21), (1, .ref 19), (2, .int x2)]) rfl (Nat.le_of_ble_eq_true rfl) rfl ?_
  refine x_aload_n 0 d_E_independentRows_0 rfl ?_
  refine x_lconst (v := 0) d_E_independentRows_1 (by decide) ?_
  refine x_putLE 2 3 d_E_independentRows_2 fp_2_22 rfl rfl (Nf_58 (by decide)) (fun w1 ew1 => ?_)
  have h := h w1 ew1
  refine x_iconst (v := 0) d_E_independentRows_5 (by decide) ?_
  refine x_istore_n (L' := [(0, .ref 21), (1, .ref 19), (2, .int x2), (3, .int 0)]) [1, 2, 3, 0] d_E_independentRows_6 (by decide) rfl ?_
  refine x_iconst (v := 0) d_E_independentRows_7 (by decide) ?_
  refine x_istore (L' := [(0, .ref 21), (1, .ref 19), (2, .int x2), (3, .int 0), (4, .int 0)]) [1, 2, 3, 4, 0] d_E_independentRows_8 (by decide) rfl ?_
  exact h
set_option maxHeartbeats 1000000 in
theorem w_E_independentRows_10 {x2 x3 x4 : Int32} {w : Wd} {K : Int32 → Wd → Prop} (h : ((w.1 19 2) ≤ x4 → K x3 w) ∧ (¬ (w.1 19 2) ≤ x4 → ((w.1 1 2) ≤ x3 → K x3 w) ∧ (¬ (w.1 1 2) ≤ x3 → E 1 M_E_independentRows 33 [(0, .ref 21), (1, .ref 19), (2, .int x2), (3, .int x3), (4, .int x4), (5, .int 0)] [] w (qI 1 K)))) : E 1 M_E_independentRows 10 [(0, .ref 21), (1, .ref 19), (2, .int x2), (3, .int x3), (4, .int x4)] [] w (qI 1 K) := by
  refine x_iload 4 d_E_independentRows_10 rfl ?_
  refine x_aload_n 1 d_E_independentRows_12 rfl ?_
  refine x_getI 0 2 d_E_independentRows_13 fg_2_26 rfl rfl (Nf_58 (by decide)) ?_
  refine x_icmp_ge 95 d_E_independentRows_16 (by decide) (fun c0 => ?_) (fun c0 => ?_)
  · have h := h.1 c0
    refine x_iload_n 3 d_E_independentRows_95 rfl ?_
    exact x_retI d_E_independentRows_96 rfl ⟨rfl, rfl⟩ h
  · have h := h.2 c0
    refine x_iload_n 3 d_E_independentRows_19 rfl ?_
    refine x_aload_n 0 d_E_independentRows_20 rfl ?_
    refine x_getR 2 0 1 d_E_independentRows_21 fg_2_18 rfl rfl rfl (Nf_58 (by decide)) ?_
    refine x_getI 5 2 d_E_independentRows_24 fg_2_32 rfl rfl (Nf_58 (by decide)) ?_
    refine x_icmp_ge 95 d_E_independentRows_27 (by decide) (fun c0 => ?_) (fun c0 => ?_)
    · have h := h.1 c0
      refine x_iload_n 3 d_E_independentRows_95 rfl ?_
      exact x_retI d_E_independentRows_96 rfl ⟨rfl, rfl⟩ h
    · have h := h.2 c0
      refine x_iconst (v := 0) d_E_independentRows_30 (by decide) ?_
      refine x_istore (L' := [(0, .ref 21), (1, .ref 19), (2, .int x2), (3, .int x3), (4, .int x4), (5, .int 0)]) [1, 2, 3, 4, 5, 0] d_E_independentRows_31 (by decide) rfl ?_
      exact h
set_option maxHeartbeats 1000000 in
theorem w_E_independentRows_33 {x2 x3 x4 x5 : Int32} {w : Wd} {K : Int32 → Wd → Prop} (h : ((w.1 1 2) ≤ x5 → RunZ 1 M_E_joinsBasis [.ref 21, .int x2] w (fun z2 w1 => (z2 = false → ∀ a3 : Int32, a3 = x4 + 1 → E 1 M_E_independentRows 10 [(0, .ref 21), (1, .ref 19), (2, .int x2), (3, .int x3), (4, .int a3)] [] w1 (qI 1 K)) ∧ (z2 = true → ∀ a4 : Int32, a4 = x3 + 1 → ∀ a5 : Int32, a5 = x4 + 1 → E 1 M_E_independentRows 10 [(0, .ref 21), (1, .ref 19), (2, .int x2), (3, .int a4), (4, .int a5)] [] w1 (qI 1 K)))) ∧ (¬ (w.1 1 2) ≤ x5 → vp_in x4 240 ∧ RunZ 1 M_A_holds [.long (w.2 20 x4.toNatClampNeg), .int x5] w (fun z7 w6 => (z7 = false → vp_in x5 40 ∧ ∀ w8 : Wd, w8 = upI w6 22 x5.toNatClampNeg 0 → ∀ a9 : Int32, a9 = x5 + 1 → E 1 M_E_independentRows 33 [(0, .ref 21), (1, .ref 19), (2, .int x2), (3, .int x3), (4, .int x4), (5, .int a9)] [] w8 (qI 1 K)) ∧ (z7 = true → vp_in x5 40 ∧ ∀ w10 : Wd, w10 = upI w6 22 x5.toNatClampNeg 1 → ∀ a11 : Int32, a11 = x5 + 1 → E 1 M_E_independentRows 33 [(0, .ref 21), (1, .ref 19), (2, .int x2), (3, .int x3), (4, .int x4), (5, .int a11)] [] w10 (qI 1 K))))) : E 1 M_E_independentRows 33 [(0, .ref 21), (1, .ref 19), (2, .int x2), (3, .int x3), (4, .int x4), (5, .int x5)] [] w (qI 1 K) := by
  refine x_iload 5 d_E_independentRows_33 rfl ?_
  refine x_aload_n 0 d_E_independentRows_35 rfl ?_
  refine x_getR 2 0 1 d_E_independentRows_36 fg_2_18 rfl rfl rfl (Nf_58 (by decide)) ?_
  refine x_getI 5 2 d_E_independentRows_39 fg_2_32 rfl rfl (Nf_58 (by decide)) ?_
  refine x_icmp_ge 78 d_E_independentRows_42 (by decide) (fun c0 => ?_) (fun c0 => ?_)
  · have h := h.1 c0
    refine x_aload_n 0 d_E_independentRows_78 rfl ?_
    refine x_iload_n 2 d_E_independentRows_79 rfl ?_
    refine x_callVZ (st := []) M_E_joinsBasis [.int x2] d_E_independentRows_80 ml_2_45 cv_E_joinsBasis rfl rfl (Nf_58 (by decide)) rfl (Nat.le_of_ble_eq_true rfl) ⟨Nat.le_of_ble_eq_true rfl, Nat.le_of_ble_eq_true rfl⟩ ⟨rfl, rfl⟩ h (fun z2 w1 h => ?_)
    refine x_zif_eq 89 d_E_independentRows_83 (by decide) (fun c0 => ?_) (fun c0 => ?_)
    · have h := h.1 c0
      obtain ⟨a3, ea3⟩ : ∃ z : Int32, z = x4 + 1 := ⟨_, rfl⟩
      have h := h a3 ea3
      refine x_iincE (L' := [(0, .ref 21), (1, .ref 19), (2, .int x2), (3, .int x3), (4, .int a3), (5, .int x5)]) 4 [1, 2, 3, 4, 0, 5] d_E_independentRows_89 rfl ea3 (by decide) rfl ?_
      refine x_goto 10 d_E_independentRows_92 (by decide) ?_
      exact x_perm [0, 1, 2, 3, 4] rfl h
    · have h := h.2 c0
      obtain ⟨a4, ea4⟩ : ∃ z : Int32, z = x3 + 1 := ⟨_, rfl⟩
      have h := h a4 ea4
      refine x_iincE (L' := [(0, .ref 21), (1, .ref 19), (2, .int x2), (3, .int a4), (4, .int x4), (5, .int x5)]) 3 [1, 2, 3, 0, 4, 5] d_E_independentRows_86 rfl ea4 (by decide) rfl ?_
      obtain ⟨a5, ea5⟩ : ∃ z : Int32, z = x4 + 1 := ⟨_, rfl⟩
      have h := h a5 ea5
      refine x_iincE (L' := [(0, .ref 21), (1, .ref 19), (2, .int x2), (3, .int a4), (4, .int a5), (5, .int x5)]) 4 [1, 2, 3, 4, 0, 5] d_E_independentRows_89 rfl ea5 (by decide) rfl ?_
      refine x_goto 10 d_E_independentRows_92 (by decide) ?_
      exact x_perm [0, 1, 2, 3, 4] rfl h
  · have h := h.2 c0
    refine x_aload_n 0 d_E_independentRows_45 rfl ?_
    refine x_getR 2 1 22 d_E_independentRows_46 fg_2_9 rfl rfl rfl (Nf_58 (by decide)) ?_
    refine x_iload 5 d_E_independentRows_49 rfl ?_
    refine x_aload_n 1 d_E_independentRows_51 rfl ?_
    refine x_getR 0 1 20 d_E_independentRows_52 fg_2_37 rfl rfl rfl (Nf_58 (by decide)) ?_
    refine x_iload 4 d_E_independentRows_55 rfl ?_
    obtain ⟨h0, h⟩ := h
    refine x_lald d_E_independentRows_57 rfl (Nf_58 (by decide)) h0 ?_
    refine x_iload 5 d_E_independentRows_58 rfl ?_
    refine x_callSZ (st := [.int x5, .ref 22]) M_A_holds [.long (w.2 20 x4.toNatClampNeg), .int x5] d_E_independentRows_60 ml_2_41 cv_A_holds rfl (Nat.le_of_ble_eq_true rfl) ⟨Nat.le_of_ble_eq_true rfl, Nat.le_of_ble_eq_true rfl⟩ ⟨rfl, rfl⟩ h (fun z7 w6 h => ?_)
    refine x_zif_eq 70 d_E_independentRows_63 (by decide) (fun c0 => ?_) (fun c0 => ?_)
    · have h := h.1 c0
      refine x_iconst (v := 0) d_E_independentRows_70 (by decide) ?_
      obtain ⟨h0, h⟩ := h
      refine x_iastE d_E_independentRows_71 rfl (Nf_58 (by decide)) h0 (fun w8 ew8 => ?_)
      have h := h w8 ew8
      obtain ⟨a9, ea9⟩ : ∃ z : Int32, z = x5 + 1 := ⟨_, rfl⟩
      have h := h a9 ea9
      refine x_iincE (L' := [(0, .ref 21), (1, .ref 19), (2, .int x2), (3, .int x3), (4, .int x4), (5, .int a9)]) 5 [1, 2, 3, 4, 5, 0] d_E_independentRows_72 rfl ea9 (by decide) rfl ?_
      refine x_goto 33 d_E_independentRows_75 (by decide) ?_
      exact h
    · have h := h.2 c0
      refine x_iconst (v := 1) d_E_independentRows_66 (by decide) ?_
      refine x_goto 71 d_E_independentRows_67 (by decide) ?_
      obtain ⟨h0, h⟩ := h
      refine x_iastE d_E_independentRows_71 rfl (Nf_58 (by decide)) h0 (fun w10 ew10 => ?_)
      have h := h w10 ew10
      obtain ⟨a11, ea11⟩ : ∃ z : Int32, z = x5 + 1 := ⟨_, rfl⟩
      have h := h a11 ea11
      refine x_iincE (L' := [(0, .ref 21), (1, .ref 19), (2, .int x2), (3, .int x3), (4, .int x4), (5, .int a11)]) 5 [1, 2, 3, 4, 5, 0] d_E_independentRows_72 rfl ea11 (by decide) rfl ?_
      refine x_goto 33 d_E_independentRows_75 (by decide) ?_
      exact h
set_option maxHeartbeats 1000000 in
theorem r_A_rank {x1 : Int32} {w : Wd} {K : Int32 → Wd → Prop} (h : (x1 = 2 → RunV 1 M_D_develop [.ref 19, .ref 10] w (fun w1 => RunI 1 M_E_independentRows [.ref 21, .ref 19, .int x1] w1 (fun r3 w2 => K r3 w2))) ∧ (¬ x1 = 2 → (x1 = 3 → RunV 1 M_D_develop [.ref 19, .ref 10] w (fun w4 => RunI 1 M_E_independentRows [.ref 21, .ref 19, .int x1] w4 (fun r6 w5 => K r6 w5))) ∧ (¬ x1 = 3 → (x1 = 5 → RunV 1 M_D_develop [.ref 19, .ref 10] w (fun w7 => RunI 1 M_E_independentRows [.ref 21, .ref 19, .int x1] w7 (fun r9 w8 => K r9 w8))) ∧ (¬ x1 = 5 → (x1 = 7 → RunV 1 M_D_develop [.ref 19, .ref 10] w (fun w10 => RunI 1 M_E_independentRows [.ref 21, .ref 19, .int x1] w10 (fun r12 w11 => K r12 w11))) ∧ (¬ x1 = 7 → K ((-1)) w))))) : RunI 1 M_A_rank [.ref 0, .int x1] w K := by
  refine runs_of (L := [(0, .ref 0), (1, .int x1)]) rfl (Nat.le_of_ble_eq_true rfl) rfl ?_
  refine x_iload_n 1 d_A_rank_0 rfl ?_
  refine x_iconst (v := 2) d_A_rank_1 (by decide) ?_
  refine x_icmp_eq 23 d_A_rank_2 (by decide) (fun c0 => ?_) (fun c0 => ?_)
  · have h := h.1 c0
    refine x_aload_n 0 d_A_rank_23 rfl ?_
    refine x_getR 10 6 19 d_A_rank_24 fg_10_59 rfl rfl rfl (Nf_58 (by decide)) ?_
    refine x_aload_n 0 d_A_rank_27 rfl ?_
    refine x_getR 10 1 10 d_A_rank_28 fg_10_25 rfl rfl rfl (Nf_58 (by decide)) ?_
    refine x_callVV (st := []) M_D_develop [.ref 10] d_A_rank_31 ml_10_265 cv_D_develop rfl rfl (Nf_58 (by decide)) rfl (Nat.le_of_ble_eq_true rfl) ⟨Nat.le_of_ble_eq_true rfl, Nat.le_of_ble_eq_true rfl⟩ ⟨rfl, rfl⟩ h (fun w1 h => ?_)
    refine x_aload_n 0 d_A_rank_34 rfl ?_
    refine x_getR 10 7 21 d_A_rank_35 fg_10_66 rfl rfl rfl (Nf_58 (by decide)) ?_
    refine x_aload_n 0 d_A_rank_38 rfl ?_
    refine x_getR 10 6 19 d_A_rank_39 fg_10_59 rfl rfl rfl (Nf_58 (by decide)) ?_
    refine x_iload_n 1 d_A_rank_42 rfl ?_
    refine x_callVI (st := []) M_E_independentRows [.ref 19, .int x1] d_A_rank_43 ml_10_279 cv_E_independentRows rfl rfl (Nf_58 (by decide)) rfl (Nat.le_of_ble_eq_true rfl) ⟨Nat.le_of_ble_eq_true rfl, Nat.le_of_ble_eq_true rfl⟩ ⟨rfl, rfl⟩ h (fun r3 w2 h => ?_)
    exact x_retI d_A_rank_46 rfl ⟨rfl, rfl⟩ h
  · have h := h.2 c0
    refine x_iload_n 1 d_A_rank_5 rfl ?_
    refine x_iconst (v := 3) d_A_rank_6 (by decide) ?_
    refine x_icmp_eq 23 d_A_rank_7 (by decide) (fun c0 => ?_) (fun c0 => ?_)
    · have h := h.1 c0
      refine x_aload_n 0 d_A_rank_23 rfl ?_
      refine x_getR 10 6 19 d_A_rank_24 fg_10_59 rfl rfl rfl (Nf_58 (by decide)) ?_
      refine x_aload_n 0 d_A_rank_27 rfl ?_
      refine x_getR 10 1 10 d_A_rank_28 fg_10_25 rfl rfl rfl (Nf_58 (by decide)) ?_
      refine x_callVV (st := []) M_D_develop [.ref 10] d_A_rank_31 ml_10_265 cv_D_develop rfl rfl (Nf_58 (by decide)) rfl (Nat.le_of_ble_eq_true rfl) ⟨Nat.le_of_ble_eq_true rfl, Nat.le_of_ble_eq_true rfl⟩ ⟨rfl, rfl⟩ h (fun w4 h => ?_)
      refine x_aload_n 0 d_A_rank_34 rfl ?_
      refine x_getR 10 7 21 d_A_rank_35 fg_10_66 rfl rfl rfl (Nf_58 (by decide)) ?_
      refine x_aload_n 0 d_A_rank_38 rfl ?_
      refine x_getR 10 6 19 d_A_rank_39 fg_10_59 rfl rfl rfl (Nf_58 (by decide)) ?_
      refine x_iload_n 1 d_A_rank_42 rfl ?_
      refine x_callVI (st := []) M_E_independentRows [.ref 19, .int x1] d_A_rank_43 ml_10_279 cv_E_independentRows rfl rfl (Nf_58 (by decide)) rfl (Nat.le_of_ble_eq_true rfl) ⟨Nat.le_of_ble_eq_true rfl, Nat.le_of_ble_eq_true rfl⟩ ⟨rfl, rfl⟩ h (fun r6 w5 h => ?_)
      exact x_retI d_A_rank_46 rfl ⟨rfl, rfl⟩ h
    · have h := h.2 c0
      refine x_iload_n 1 d_A_rank_10 rfl ?_
      refine x_iconst (v := 5) d_A_rank_11 (by decide) ?_
      refine x_icmp_eq 23 d_A_rank_12 (by decide) (fun c0 => ?_) (fun c0 => ?_)
      · have h := h.1 c0
        refine x_aload_n 0 d_A_rank_23 rfl ?_
        refine x_getR 10 6 19 d_A_rank_24 fg_10_59 rfl rfl rfl (Nf_58 (by decide)) ?_
        refine x_aload_n 0 d_A_rank_27 rfl ?_
        refine x_getR 10 1 10 d_A_rank_28 fg_10_25 rfl rfl rfl (Nf_58 (by decide)) ?_
        refine x_callVV (st := []) M_D_develop [.ref 10] d_A_rank_31 ml_10_265 cv_D_develop rfl rfl (Nf_58 (by decide)) rfl (Nat.le_of_ble_eq_true rfl) ⟨Nat.le_of_ble_eq_true rfl, Nat.le_of_ble_eq_true rfl⟩ ⟨rfl, rfl⟩ h (fun w7 h => ?_)
        refine x_aload_n 0 d_A_rank_34 rfl ?_
        refine x_getR 10 7 21 d_A_rank_35 fg_10_66 rfl rfl rfl (Nf_58 (by decide)) ?_
        refine x_aload_n 0 d_A_rank_38 rfl ?_
        refine x_getR 10 6 19 d_A_rank_39 fg_10_59 rfl rfl rfl (Nf_58 (by decide)) ?_
        refine x_iload_n 1 d_A_rank_42 rfl ?_
        refine x_callVI (st := []) M_E_independentRows [.ref 19, .int x1] d_A_rank_43 ml_10_279 cv_E_independentRows rfl rfl (Nf_58 (by decide)) rfl (Nat.le_of_ble_eq_true rfl) ⟨Nat.le_of_ble_eq_true rfl, Nat.le_of_ble_eq_true rfl⟩ ⟨rfl, rfl⟩ h (fun r9 w8 h => ?_)
        exact x_retI d_A_rank_46 rfl ⟨rfl, rfl⟩ h
      · have h := h.2 c0
        refine x_iload_n 1 d_A_rank_15 rfl ?_
        refine x_bipush (v := 7) d_A_rank_16 (by decide) ?_
        refine x_icmp_eq 23 d_A_rank_18 (by decide) (fun c0 => ?_) (fun c0 => ?_)
        · have h := h.1 c0
          refine x_aload_n 0 d_A_rank_23 rfl ?_
          refine x_getR 10 6 19 d_A_rank_24 fg_10_59 rfl rfl rfl (Nf_58 (by decide)) ?_
          refine x_aload_n 0 d_A_rank_27 rfl ?_
          refine x_getR 10 1 10 d_A_rank_28 fg_10_25 rfl rfl rfl (Nf_58 (by decide)) ?_
          refine x_callVV (st := []) M_D_develop [.ref 10] d_A_rank_31 ml_10_265 cv_D_develop rfl rfl (Nf_58 (by decide)) rfl (Nat.le_of_ble_eq_true rfl) ⟨Nat.le_of_ble_eq_true rfl, Nat.le_of_ble_eq_true rfl⟩ ⟨rfl, rfl⟩ h (fun w10 h => ?_)
          refine x_aload_n 0 d_A_rank_34 rfl ?_
          refine x_getR 10 7 21 d_A_rank_35 fg_10_66 rfl rfl rfl (Nf_58 (by decide)) ?_
          refine x_aload_n 0 d_A_rank_38 rfl ?_
          refine x_getR 10 6 19 d_A_rank_39 fg_10_59 rfl rfl rfl (Nf_58 (by decide)) ?_
          refine x_iload_n 1 d_A_rank_42 rfl ?_
          refine x_callVI (st := []) M_E_independentRows [.ref 19, .int x1] d_A_rank_43 ml_10_279 cv_E_independentRows rfl rfl (Nf_58 (by decide)) rfl (Nat.le_of_ble_eq_true rfl) ⟨Nat.le_of_ble_eq_true rfl, Nat.le_of_ble_eq_true rfl⟩ ⟨rfl, rfl⟩ h (fun r12 w11 h => ?_)
          exact x_retI d_A_rank_46 rfl ⟨rfl, rfl⟩ h
        · have h := h.2 c0
          refine x_iconst (v := (-1)) d_A_rank_21 (by decide) ?_
          exact x_retI d_A_rank_22 rfl ⟨rfl, rfl⟩ h
set_option maxHeartbeats 1000000 in
theorem r_A_checksum {w : Wd} {K : Int64 → Wd → Prop} (h : RunI 1 M_A_order [.ref 0] w (fun r2 w1 => ∀ b3 : Int64, b3 = (31 * 23) + r2.toInt64 → RunI 1 M_A_automorphisms [.ref 0] w1 (fun r5 w4 => ∀ b6 : Int64, b6 = (31 * b3) + r5.toInt64 → RunL 1 M_A_hole [.ref 0] w4 (fun r8 w7 => ∀ b9 : Int64, b9 = (31 * b6) + r8 → E 1 M_A_checksum 41 [(0, .ref 0), (1, .long b9), (3, .int 0)] [] w7 (qL 1 K))))) : RunL 1 M_A_checksum [.ref 0] w K := by
  refine runs_of (L := [(0, .ref 0)]) rfl (Nat.le_of_ble_eq_true rfl) rfl ?_
  refine x_ldc2 (v := 23) d_A_checksum_0 mw_919 ?_
  refine x_lstore_n (L' := [(0, .ref 0), (1, .long 23)]) [1, 0] d_A_checksum_3 (by decide) rfl ?_
  refine x_ldc2 (v := 31) d_A_checksum_4 mw_920 ?_
  refine x_lload_n 1 d_A_checksum_7 rfl ?_
  refine x_lmul d_A_checksum_8 ?_
  refine x_aload_n 0 d_A_checksum_9 rfl ?_
  refine x_callVI (st := [.long (31 * 23)]) M_A_order [] d_A_checksum_10 ml_10_342 cv_A_order rfl rfl (Nf_58 (by decide)) rfl (Nat.le_of_ble_eq_true rfl) ⟨Nat.le_of_ble_eq_true rfl, Nat.le_of_ble_eq_true rfl⟩ ⟨rfl, rfl⟩ h (fun r2 w1 h => ?_)
  refine x_i2l d_A_checksum_13 ?_
  refine x_ladd d_A_checksum_14 ?_
  obtain ⟨b3, eb3⟩ : ∃ z : Int64, z = (31 * 23) + r2.toInt64 := ⟨_, rfl⟩
  have h := h b3 eb3
  refine x_lstore_nE (L' := [(0, .ref 0), (1, .long b3)]) [1, 0] d_A_checksum_15 (by decide) eb3 rfl ?_
  refine x_ldc2 (v := 31) d_A_checksum_16 mw_920 ?_
  refine x_lload_n 1 d_A_checksum_19 rfl ?_
  refine x_lmul d_A_checksum_20 ?_
  refine x_aload_n 0 d_A_checksum_21 rfl ?_
  refine x_callVI (st := [.long (31 * b3)]) M_A_automorphisms [] d_A_checksum_22 ml_10_344 cv_A_automorphisms rfl rfl (Nf_58 (by decide)) rfl (Nat.le_of_ble_eq_true rfl) ⟨Nat.le_of_ble_eq_true rfl, Nat.le_of_ble_eq_true rfl⟩ ⟨rfl, rfl⟩ h (fun r5 w4 h => ?_)
  refine x_i2l d_A_checksum_25 ?_
  refine x_ladd d_A_checksum_26 ?_
  obtain ⟨b6, eb6⟩ : ∃ z : Int64, z = (31 * b3) + r5.toInt64 := ⟨_, rfl⟩
  have h := h b6 eb6
  refine x_lstore_nE (L' := [(0, .ref 0), (1, .long b6)]) [1, 0] d_A_checksum_27 (by decide) eb6 rfl ?_
  refine x_ldc2 (v := 31) d_A_checksum_28 mw_920 ?_
  refine x_lload_n 1 d_A_checksum_31 rfl ?_
  refine x_lmul d_A_checksum_32 ?_
  refine x_aload_n 0 d_A_checksum_33 rfl ?_
  refine x_callVL (st := [.long (31 * b6)]) M_A_hole [] d_A_checksum_34 ml_10_347 cv_A_hole rfl rfl (Nf_58 (by decide)) rfl (Nat.le_of_ble_eq_true rfl) ⟨Nat.le_of_ble_eq_true rfl, Nat.le_of_ble_eq_true rfl⟩ ⟨rfl, rfl⟩ h (fun r8 w7 h => ?_)
  refine x_ladd d_A_checksum_37 ?_
  obtain ⟨b9, eb9⟩ : ∃ z : Int64, z = (31 * b6) + r8 := ⟨_, rfl⟩
  have h := h b9 eb9
  refine x_lstore_nE (L' := [(0, .ref 0), (1, .long b9)]) [1, 0] d_A_checksum_38 (by decide) eb9 rfl ?_
  refine x_iconst (v := 0) d_A_checksum_39 (by decide) ?_
  refine x_istore_n (L' := [(0, .ref 0), (1, .long b9), (3, .int 0)]) [1, 2, 0] d_A_checksum_40 (by decide) rfl ?_
  exact h
set_option maxHeartbeats 1000000 in
theorem w_A_checksum_41 {x3 : Int32} {y1 : Int64} {w : Wd} {K : Int64 → Wd → Prop} (h : (6 ≤ x3 → RunV 1 M_F_tally [.ref 8, .ref 10] w (fun w1 => E 1 M_A_checksum 79 [(0, .ref 0), (1, .long y1), (3, .int 1)] [] w1 (qL 1 K))) ∧ (¬ 6 ≤ x3 → vp_in x3 6 ∧ ∀ b2 : Int64, b2 = (31 * y1) + (w.2 10 x3.toNatClampNeg) → ∀ a3 : Int32, a3 = x3 + 1 → E 1 M_A_checksum 41 [(0, .ref 0), (1, .long b2), (3, .int a3)] [] w (qL 1 K))) : E 1 M_A_checksum 41 [(0, .ref 0), (1, .long y1), (3, .int x3)] [] w (qL 1 K) := by
  refine x_iload_n 2 d_A_checksum_41 rfl ?_
  refine x_bipush (v := 6) d_A_checksum_42 (by decide) ?_
  refine x_icmp_ge 66 d_A_checksum_44 (by decide) (fun c0 => ?_) (fun c0 => ?_)
  · have h := h.1 c0
    refine x_aload_n 0 d_A_checksum_66 rfl ?_
    refine x_getR 10 3 8 d_A_checksum_67 fg_10_36 rfl rfl rfl (Nf_58 (by decide)) ?_
    refine x_aload_n 0 d_A_checksum_70 rfl ?_
    refine x_getR 10 1 10 d_A_checksum_71 fg_10_25 rfl rfl rfl (Nf_58 (by decide)) ?_
    refine x_callVV (st := []) M_F_tally [.ref 10] d_A_checksum_74 ml_10_185 cv_F_tally rfl rfl (Nf_58 (by decide)) rfl (Nat.le_of_ble_eq_true rfl) ⟨Nat.le_of_ble_eq_true rfl, Nat.le_of_ble_eq_true rfl⟩ ⟨rfl, rfl⟩ h (fun w1 h => ?_)
    refine x_iconst (v := 1) d_A_checksum_77 (by decide) ?_
    refine x_istore_n (L' := [(0, .ref 0), (1, .long y1), (3, .int 1)]) [1, 2, 0] d_A_checksum_78 (by decide) rfl ?_
    exact h
  · have h := h.2 c0
    refine x_ldc2 (v := 31) d_A_checksum_47 mw_920 ?_
    refine x_lload_n 1 d_A_checksum_50 rfl ?_
    refine x_lmul d_A_checksum_51 ?_
    refine x_aload_n 0 d_A_checksum_52 rfl ?_
    refine x_getR 10 1 10 d_A_checksum_53 fg_10_25 rfl rfl rfl (Nf_58 (by decide)) ?_
    refine x_iload_n 2 d_A_checksum_56 rfl ?_
    obtain ⟨h0, h⟩ := h
    refine x_lald d_A_checksum_57 rfl (Nf_58 (by decide)) h0 ?_
    refine x_ladd d_A_checksum_58 ?_
    obtain ⟨b2, eb2⟩ : ∃ z : Int64, z = (31 * y1) + (w.2 10 x3.toNatClampNeg) := ⟨_, rfl⟩
    have h := h b2 eb2
    refine x_lstore_nE (L' := [(0, .ref 0), (1, .long b2), (3, .int x3)]) [1, 0, 2] d_A_checksum_59 (by decide) eb2 rfl ?_
    obtain ⟨a3, ea3⟩ : ∃ z : Int32, z = x3 + 1 := ⟨_, rfl⟩
    have h := h a3 ea3
    refine x_iincE (L' := [(0, .ref 0), (1, .long b2), (3, .int a3)]) 2 [1, 2, 0] d_A_checksum_60 rfl ea3 (by decide) rfl ?_
    refine x_goto 41 d_A_checksum_63 (by decide) ?_
    exact h
set_option maxHeartbeats 1000000 in
theorem w_A_checksum_79 {x3 : Int32} {y1 : Int64} {w : Wd} {K : Int64 → Wd → Prop} (h : ((w.1 1 2) ≤ x3 → RunL 1 M_A_multipliers [.ref 0] w (fun r2 w1 => ∀ b3 : Int64, b3 = (31 * y1) + r2 → RunI 1 M_A_symmetries [.ref 0] w1 (fun r5 w4 => ∀ b6 : Int64, b6 = (31 * b3) + r5.toInt64 → RunI 1 M_K_findLeast [.ref 14, .ref 10] w4 (fun r8 w7 => E 1 M_A_checksum 151 [(0, .ref 0), (1, .long b6), (3, .int r8), (4, .int 0)] [] w7 (qL 1 K))))) ∧ (¬ (w.1 1 2) ≤ x3 → vp_in x3 40 ∧ ∀ b9 : Int64, b9 = (31 * y1) + ((w.1 9 x3.toNatClampNeg).toInt64) → ∀ a10 : Int32, a10 = x3 + 1 → E 1 M_A_checksum 79 [(0, .ref 0), (1, .long b9), (3, .int a10)] [] w (qL 1 K))) : E 1 M_A_checksum 79 [(0, .ref 0), (1, .long y1), (3, .int x3)] [] w (qL 1 K) := by
  refine x_iload_n 2 d_A_checksum_79 rfl ?_
  refine x_aload_n 0 d_A_checksum_80 rfl ?_
  refine x_getR 10 0 1 d_A_checksum_81 fg_10_19 rfl rfl rfl (Nf_58 (by decide)) ?_
  refine x_getI 5 2 d_A_checksum_84 fg_10_102 rfl rfl (Nf_58 (by decide)) ?_
  refine x_icmp_ge 113 d_A_checksum_87 (by decide) (fun c0 => ?_) (fun c0 => ?_)
  · have h := h.1 c0
    refine x_ldc2 (v := 31) d_A_checksum_113 mw_920 ?_
    refine x_lload_n 1 d_A_checksum_116 rfl ?_
    refine x_lmul d_A_checksum_117 ?_
    refine x_aload_n 0 d_A_checksum_118 rfl ?_
    refine x_callVL (st := [.long (31 * y1)]) M_A_multipliers [] d_A_checksum_119 ml_10_350 cv_A_multipliers rfl rfl (Nf_58 (by decide)) rfl (Nat.le_of_ble_eq_true rfl) ⟨Nat.le_of_ble_eq_true rfl, Nat.le_of_ble_eq_true rfl⟩ ⟨rfl, rfl⟩ h (fun r2 w1 h => ?_)
    refine x_ladd d_A_checksum_122 ?_
    obtain ⟨b3, eb3⟩ : ∃ z : Int64, z = (31 * y1) + r2 := ⟨_, rfl⟩
    have h := h b3 eb3
    refine x_lstore_nE (L' := [(0, .ref 0), (1, .long b3), (3, .int x3)]) [1, 0, 2] d_A_checksum_123 (by decide) eb3 rfl ?_
    refine x_ldc2 (v := 31) d_A_checksum_124 mw_920 ?_
    refine x_lload_n 1 d_A_checksum_127 rfl ?_
    refine x_lmul d_A_checksum_128 ?_
    refine x_aload_n 0 d_A_checksum_129 rfl ?_
    refine x_callVI (st := [.long (31 * b3)]) M_A_symmetries [] d_A_checksum_130 ml_10_353 cv_A_symmetries rfl rfl (Nf_58 (by decide)) rfl (Nat.le_of_ble_eq_true rfl) ⟨Nat.le_of_ble_eq_true rfl, Nat.le_of_ble_eq_true rfl⟩ ⟨rfl, rfl⟩ h (fun r5 w4 h => ?_)
    refine x_i2l d_A_checksum_133 ?_
    refine x_ladd d_A_checksum_134 ?_
    obtain ⟨b6, eb6⟩ : ∃ z : Int64, z = (31 * b3) + r5.toInt64 := ⟨_, rfl⟩
    have h := h b6 eb6
    refine x_lstore_nE (L' := [(0, .ref 0), (1, .long b6), (3, .int x3)]) [1, 0, 2] d_A_checksum_135 (by decide) eb6 rfl ?_
    refine x_aload_n 0 d_A_checksum_136 rfl ?_
    refine x_getR 10 5 14 d_A_checksum_137 fg_10_52 rfl rfl rfl (Nf_58 (by decide)) ?_
    refine x_aload_n 0 d_A_checksum_140 rfl ?_
    refine x_getR 10 1 10 d_A_checksum_141 fg_10_25 rfl rfl rfl (Nf_58 (by decide)) ?_
    refine x_callVI (st := []) M_K_findLeast [.ref 10] d_A_checksum_144 ml_10_245 cv_K_findLeast rfl rfl (Nf_58 (by decide)) rfl (Nat.le_of_ble_eq_true rfl) ⟨Nat.le_of_ble_eq_true rfl, Nat.le_of_ble_eq_true rfl⟩ ⟨rfl, rfl⟩ h (fun r8 w7 h => ?_)
    refine x_istore_n (L' := [(0, .ref 0), (1, .long b6), (3, .int r8)]) [1, 2, 0] d_A_checksum_147 (by decide) rfl ?_
    refine x_iconst (v := 0) d_A_checksum_148 (by decide) ?_
    refine x_istore (L' := [(0, .ref 0), (1, .long b6), (3, .int r8), (4, .int 0)]) [1, 2, 3, 0] d_A_checksum_149 (by decide) rfl ?_
    exact h
  · have h := h.2 c0
    refine x_ldc2 (v := 31) d_A_checksum_90 mw_920 ?_
    refine x_lload_n 1 d_A_checksum_93 rfl ?_
    refine x_lmul d_A_checksum_94 ?_
    refine x_aload_n 0 d_A_checksum_95 rfl ?_
    refine x_getR 10 3 8 d_A_checksum_96 fg_10_36 rfl rfl rfl (Nf_58 (by decide)) ?_
    refine x_getR 1 1 9 d_A_checksum_99 fg_10_220 rfl rfl rfl (Nf_58 (by decide)) ?_
    refine x_iload_n 2 d_A_checksum_102 rfl ?_
    obtain ⟨h0, h⟩ := h
    refine x_iald d_A_checksum_103 rfl (Nf_58 (by decide)) h0 ?_
    refine x_i2l d_A_checksum_104 ?_
    refine x_ladd d_A_checksum_105 ?_
    obtain ⟨b9, eb9⟩ : ∃ z : Int64, z = (31 * y1) + ((w.1 9 x3.toNatClampNeg).toInt64) := ⟨_, rfl⟩
    have h := h b9 eb9
    refine x_lstore_nE (L' := [(0, .ref 0), (1, .long b9), (3, .int x3)]) [1, 0, 2] d_A_checksum_106 (by decide) eb9 rfl ?_
    obtain ⟨a10, ea10⟩ : ∃ z : Int32, z = x3 + 1 := ⟨_, rfl⟩
    have h := h a10 ea10
    refine x_iincE (L' := [(0, .ref 0), (1, .long b9), (3, .int a10)]) 2 [1, 2, 0] d_A_checksum_107 rfl ea10 (by decide) rfl ?_
    refine x_goto 79 d_A_checksum_110 (by decide) ?_
    exact h
set_option maxHeartbeats 1000000 in
theorem w_A_checksum_151 {x3 x4 : Int32} {y1 : Int64} {w : Wd} {K : Int64 → Wd → Prop} (h : (x3 ≤ x4 → RunI 1 M_A_designBlocks [.ref 0] w (fun r2 w1 => ∀ b3 : Int64, b3 = (31 * y1) + r2.toInt64 → RunI 1 M_A_rank [.ref 0, .int 2] w1 (fun r5 w4 => K ((31 * b3) + r5.toInt64) w4))) ∧ (¬ x3 ≤ x4 → vp_in x4 6 ∧ ∀ b6 : Int64, b6 = (31 * y1) + (w.2 18 x4.toNatClampNeg) → ∀ a7 : Int32, a7 = x4 + 1 → E 1 M_A_checksum 151 [(0, .ref 0), (1, .long b6), (3, .int x3), (4, .int a7)] [] w (qL 1 K))) : E 1 M_A_checksum 151 [(0, .ref 0), (1, .long y1), (3, .int x3), (4, .int x4)] [] w (qL 1 K) := by
  refine x_iload 3 d_A_checksum_151 rfl ?_
  refine x_iload_n 2 d_A_checksum_153 rfl ?_
  refine x_icmp_ge 180 d_A_checksum_154 (by decide) (fun c0 => ?_) (fun c0 => ?_)
  · have h := h.1 c0
    refine x_ldc2 (v := 31) d_A_checksum_180 mw_920 ?_
    refine x_lload_n 1 d_A_checksum_183 rfl ?_
    refine x_lmul d_A_checksum_184 ?_
    refine x_aload_n 0 d_A_checksum_185 rfl ?_
    refine x_callVI (st := [.long (31 * y1)]) M_A_designBlocks [] d_A_checksum_186 ml_10_356 cv_A_designBlocks rfl rfl (Nf_58 (by decide)) rfl (Nat.le_of_ble_eq_true rfl) ⟨Nat.le_of_ble_eq_true rfl, Nat.le_of_ble_eq_true rfl⟩ ⟨rfl, rfl⟩ h (fun r2 w1 h => ?_)
    refine x_i2l d_A_checksum_189 ?_
    refine x_ladd d_A_checksum_190 ?_
    obtain ⟨b3, eb3⟩ : ∃ z : Int64, z = (31 * y1) + r2.toInt64 := ⟨_, rfl⟩
    have h := h b3 eb3
    refine x_lstore_nE (L' := [(0, .ref 0), (1, .long b3), (3, .int x3), (4, .int x4)]) [1, 0, 2, 3] d_A_checksum_191 (by decide) eb3 rfl ?_
    refine x_ldc2 (v := 31) d_A_checksum_192 mw_920 ?_
    refine x_lload_n 1 d_A_checksum_195 rfl ?_
    refine x_lmul d_A_checksum_196 ?_
    refine x_aload_n 0 d_A_checksum_197 rfl ?_
    refine x_iconst (v := 2) d_A_checksum_198 (by decide) ?_
    refine x_callVI (st := [.long (31 * b3)]) M_A_rank [.int 2] d_A_checksum_199 ml_10_359 cv_A_rank rfl rfl (Nf_58 (by decide)) rfl (Nat.le_of_ble_eq_true rfl) ⟨Nat.le_of_ble_eq_true rfl, Nat.le_of_ble_eq_true rfl⟩ ⟨rfl, rfl⟩ h (fun r5 w4 h => ?_)
    refine x_i2l d_A_checksum_202 ?_
    refine x_ladd d_A_checksum_203 ?_
    exact x_retL d_A_checksum_204 rfl ⟨rfl, rfl⟩ h
  · have h := h.2 c0
    refine x_ldc2 (v := 31) d_A_checksum_157 mw_920 ?_
    refine x_lload_n 1 d_A_checksum_160 rfl ?_
    refine x_lmul d_A_checksum_161 ?_
    refine x_aload_n 0 d_A_checksum_162 rfl ?_
    refine x_getR 10 5 14 d_A_checksum_163 fg_10_52 rfl rfl rfl (Nf_58 (by decide)) ?_
    refine x_getR 7 4 18 d_A_checksum_166 fg_10_248 rfl rfl rfl (Nf_58 (by decide)) ?_
    refine x_iload 3 d_A_checksum_169 rfl ?_
    obtain ⟨h0, h⟩ := h
    refine x_lald d_A_checksum_171 rfl (Nf_58 (by decide)) h0 ?_
    refine x_ladd d_A_checksum_172 ?_
    obtain ⟨b6, eb6⟩ : ∃ z : Int64, z = (31 * y1) + (w.2 18 x4.toNatClampNeg) := ⟨_, rfl⟩
    have h := h b6 eb6
    refine x_lstore_nE (L' := [(0, .ref 0), (1, .long b6), (3, .int x3), (4, .int x4)]) [1, 0, 2, 3] d_A_checksum_173 (by decide) eb6 rfl ?_
    obtain ⟨a7, ea7⟩ : ∃ z : Int32, z = x4 + 1 := ⟨_, rfl⟩
    have h := h a7 ea7
    refine x_iincE (L' := [(0, .ref 0), (1, .long b6), (3, .int x3), (4, .int a7)]) 3 [1, 2, 3, 0] d_A_checksum_174 rfl ea7 (by decide) rfl ?_
    refine x_goto 151 d_A_checksum_177 (by decide) ?_
    exact h
set_option maxHeartbeats 1000000 in
theorem r_A_clearText {w : Wd} {K : Int32 → Wd → Prop} (h : ∀ a1 : Int32, a1 = w.1 32 3 → ∀ w2 : Wd, w2 = upI w 32 3 0 → K a1 w2) : RunI 1 M_A_clearText [.ref 0] w K := by
  refine runs_of (L := [(0, .ref 0)]) rfl (Nat.le_of_ble_eq_true rfl) rfl ?_
  refine x_aload_n 0 d_A_clearText_0 rfl ?_
  refine x_getR 10 9 32 d_A_clearText_1 fg_10_80 rfl rfl rfl (Nf_58 (by decide)) ?_
  refine x_getI 9 3 d_A_clearText_4 fg_10_317 rfl rfl (Nf_58 (by decide)) ?_
  obtain ⟨a1, ea1⟩ : ∃ z : Int32, z = w.1 32 3 := ⟨_, rfl⟩
  have h := h a1 ea1
  refine x_istore_nE (L' := [(0, .ref 0), (1, .int a1)]) [1, 0] d_A_clearText_7 (by decide) ea1 rfl ?_
  refine x_aload_n 0 d_A_clearText_8 rfl ?_
  refine x_getR 10 9 32 d_A_clearText_9 fg_10_80 rfl rfl rfl (Nf_58 (by decide)) ?_
  refine x_iconst (v := 0) d_A_clearText_12 (by decide) ?_
  refine x_putIE 9 3 d_A_clearText_13 fp_10_317 rfl rfl (Nf_58 (by decide)) (fun w2 ew2 => ?_)
  have h := h w2 ew2
  refine x_iload_n 1 d_A_clearText_16 rfl ?_
  exact x_retI d_A_clearText_17 rfl ⟨rfl, rfl⟩ h
set_option maxHeartbeats 1000000 in
theorem r_A_isElement {x1 : Int32} {w : Wd} {K : Bool → Wd → Prop} (h : (x1 < 0 → K false w) ∧ (¬ x1 < 0 → ((w.1 1 2) ≤ x1 → K false w) ∧ (¬ (w.1 1 2) ≤ x1 → K true w))) : RunZ 1 M_A_isElement [.ref 0, .int x1] w K := by
  refine runs_of (L := [(0, .ref 0), (1, .int x1)]) rfl (Nat.le_of_ble_eq_true rfl) rfl ?_
  refine x_iload_n 1 d_A_isElement_0 rfl ?_
  refine x_if_lt 19 d_A_isElement_1 (by decide) (fun c0 => ?_) (fun c0 => ?_)
  · have h := h.1 c0
    refine x_iconst (v := 0) d_A_isElement_19 (by decide) ?_
    exact x_retZ (z := false) d_A_isElement_20 rfl rfl ⟨rfl, rfl⟩ h
  · have h := h.2 c0
    refine x_iload_n 1 d_A_isElement_4 rfl ?_
    refine x_aload_n 0 d_A_isElement_5 rfl ?_
    refine x_getR 10 0 1 d_A_isElement_6 fg_10_19 rfl rfl rfl (Nf_58 (by decide)) ?_
    refine x_getI 5 2 d_A_isElement_9 fg_10_102 rfl rfl (Nf_58 (by decide)) ?_
    refine x_icmp_ge 19 d_A_isElement_12 (by decide) (fun c0 => ?_) (fun c0 => ?_)
    · have h := h.1 c0
      refine x_iconst (v := 0) d_A_isElement_19 (by decide) ?_
      exact x_retZ (z := false) d_A_isElement_20 rfl rfl ⟨rfl, rfl⟩ h
    · have h := h.2 c0
      refine x_iconst (v := 1) d_A_isElement_15 (by decide) ?_
      refine x_goto 20 d_A_isElement_16 (by decide) ?_
      exact x_retZ (z := true) d_A_isElement_20 rfl rfl ⟨rfl, rfl⟩ h
set_option maxHeartbeats 1000000 in
theorem r_A_count {x1 : Int32} {w : Wd} {K : Int32 → Wd → Prop} (h : RunZ 1 M_A_isElement [.ref 0, .int x1] w (fun z2 w1 => (z2 = false → K ((-1)) w1) ∧ (z2 = true → (¬ x1 = 0 → RunV 1 M_F_tally [.ref 8, .ref 10] w1 (fun w3 => vp_in x1 40 ∧ K (w3.1 9 x1.toNatClampNeg) w3)) ∧ (x1 = 0 → K ((-1)) w1)))) : RunI 1 M_A_count [.ref 0, .int x1] w K := by
  refine runs_of (L := [(0, .ref 0), (1, .int x1)]) rfl (Nat.le_of_ble_eq_true rfl) rfl ?_
  refine x_aload_n 0 d_A_count_0 rfl ?_
  refine x_iload_n 1 d_A_count_1 rfl ?_
  refine x_callVZ (st := []) M_A_isElement [.int x1] d_A_count_2 ml_10_120 cv_A_isElement rfl rfl (Nf_58 (by decide)) rfl (Nat.le_of_ble_eq_true rfl) ⟨Nat.le_of_ble_eq_true rfl, Nat.le_of_ble_eq_true rfl⟩ ⟨rfl, rfl⟩ h (fun z2 w1 h => ?_)
  refine x_zif_eq 12 d_A_count_5 (by decide) (fun c0 => ?_) (fun c0 => ?_)
  · have h := h.1 c0
    refine x_iconst (v := (-1)) d_A_count_12 (by decide) ?_
    exact x_retI d_A_count_13 rfl ⟨rfl, rfl⟩ h
  · have h := h.2 c0
    refine x_iload_n 1 d_A_count_8 rfl ?_
    refine x_if_ne 14 d_A_count_9 (by decide) (fun c0 => ?_) (fun c0 => ?_)
    · have h := h.1 c0
      refine x_aload_n 0 d_A_count_14 rfl ?_
      refine x_getR 10 3 8 d_A_count_15 fg_10_36 rfl rfl rfl (Nf_58 (by decide)) ?_
      refine x_aload_n 0 d_A_count_18 rfl ?_
      refine x_getR 10 1 10 d_A_count_19 fg_10_25 rfl rfl rfl (Nf_58 (by decide)) ?_
      refine x_callVV (st := []) M_F_tally [.ref 10] d_A_count_22 ml_10_185 cv_F_tally rfl rfl (Nf_58 (by decide)) rfl (Nat.le_of_ble_eq_true rfl) ⟨Nat.le_of_ble_eq_true rfl, Nat.le_of_ble_eq_true rfl⟩ ⟨rfl, rfl⟩ h (fun w3 h => ?_)
      refine x_aload_n 0 d_A_count_25 rfl ?_
      refine x_getR 10 3 8 d_A_count_26 fg_10_36 rfl rfl rfl (Nf_58 (by decide)) ?_
      refine x_getR 1 1 9 d_A_count_29 fg_10_220 rfl rfl rfl (Nf_58 (by decide)) ?_
      refine x_iload_n 1 d_A_count_32 rfl ?_
      obtain ⟨h0, h⟩ := h
      refine x_iald d_A_count_33 rfl (Nf_58 (by decide)) h0 ?_
      exact x_retI d_A_count_34 rfl ⟨rfl, rfl⟩ h
    · have h := h.2 c0
      refine x_iconst (v := (-1)) d_A_count_12 (by decide) ?_
      exact x_retI d_A_count_13 rfl ⟨rfl, rfl⟩ h
set_option maxHeartbeats 1000000 in
theorem r_F_positiveCounts {w : Wd} {K : Int32 → Wd → Prop} (h : E 1 M_F_positiveCounts 4 [(0, .ref 8), (1, .int 0), (2, .int 1)] [] w (qI 1 K)) : RunI 1 M_F_positiveCounts [.ref 8] w K := by
  refine runs_of (L := [(0, .ref 8)]) rfl (Nat.le_of_ble_eq_true rfl) rfl ?_
  refine x_iconst (v := 0) d_F_positiveCounts_0 (by decide) ?_
  refine x_istore_n (L' := [(0, .ref 8), (1, .int 0)]) [1, 0] d_F_positiveCounts_1 (by decide) rfl ?_
  refine x_iconst (v := 1) d_F_positiveCounts_2 (by decide) ?_
  refine x_istore_n (L' := [(0, .ref 8), (1, .int 0), (2, .int 1)]) [1, 2, 0] d_F_positiveCounts_3 (by decide) rfl ?_
  exact h
set_option maxHeartbeats 1000000 in
theorem w_F_positiveCounts_4 {x1 x2 : Int32} {w : Wd} {K : Int32 → Wd → Prop} (h : ((w.1 1 2) ≤ x2 → K x1 w) ∧ (¬ (w.1 1 2) ≤ x2 → vp_in x2 40 ∧ ((w.1 9 x2.toNatClampNeg) ≤ 0 → ∀ a1 : Int32, a1 = x2 + 1 → E 1 M_F_positiveCounts 4 [(0, .ref 8), (1, .int x1), (2, .int a1)] [] w (qI 1 K)) ∧ (¬ (w.1 9 x2.toNatClampNeg) ≤ 0 → ∀ a2 : Int32, a2 = x1 + 1 → ∀ a3 : Int32, a3 = x2 + 1 → E 1 M_F_positiveCounts 4 [(0, .ref 8), (1, .int a2), (2, .int a3)] [] w (qI 1 K)))) : E 1 M_F_positiveCounts 4 [(0, .ref 8), (1, .int x1), (2, .int x2)] [] w (qI 1 K) := by
  refine x_iload_n 2 d_F_positiveCounts_4 rfl ?_
  refine x_aload_n 0 d_F_positiveCounts_5 rfl ?_
  refine x_getR 1 0 1 d_F_positiveCounts_6 fg_1_15 rfl rfl rfl (Nf_58 (by decide)) ?_
  refine x_getI 5 2 d_F_positiveCounts_9 fg_1_29 rfl rfl (Nf_58 (by decide)) ?_
  refine x_icmp_ge 33 d_F_positiveCounts_12 (by decide) (fun c0 => ?_) (fun c0 => ?_)
  · have h := h.1 c0
    refine x_iload_n 1 d_F_positiveCounts_33 rfl ?_
    exact x_retI d_F_positiveCounts_34 rfl ⟨rfl, rfl⟩ h
  · have h := h.2 c0
    refine x_aload_n 0 d_F_positiveCounts_15 rfl ?_
    refine x_getR 1 1 9 d_F_positiveCounts_16 fg_1_9 rfl rfl rfl (Nf_58 (by decide)) ?_
    refine x_iload_n 2 d_F_positiveCounts_19 rfl ?_
    obtain ⟨h0, h⟩ := h
    refine x_iald d_F_positiveCounts_20 rfl (Nf_58 (by decide)) h0 ?_
    refine x_if_le 27 d_F_positiveCounts_21 (by decide) (fun c0 => ?_) (fun c0 => ?_)
    · have h := h.1 c0
      obtain ⟨a1, ea1⟩ : ∃ z : Int32, z = x2 + 1 := ⟨_, rfl⟩
      have h := h a1 ea1
      refine x_iincE (L' := [(0, .ref 8), (1, .int x1), (2, .int a1)]) 2 [1, 2, 0] d_F_positiveCounts_27 rfl ea1 (by decide) rfl ?_
      refine x_goto 4 d_F_positiveCounts_30 (by decide) ?_
      exact h
    · have h := h.2 c0
      obtain ⟨a2, ea2⟩ : ∃ z : Int32, z = x1 + 1 := ⟨_, rfl⟩
      have h := h a2 ea2
      refine x_iincE (L' := [(0, .ref 8), (1, .int a2), (2, .int x2)]) 1 [1, 0, 2] d_F_positiveCounts_24 rfl ea2 (by decide) rfl ?_
      obtain ⟨a3, ea3⟩ : ∃ z : Int32, z = x2 + 1 := ⟨_, rfl⟩
      have h := h a3 ea3
      refine x_iincE (L' := [(0, .ref 8), (1, .int a2), (2, .int a3)]) 2 [1, 2, 0] d_F_positiveCounts_27 rfl ea3 (by decide) rfl ?_
      refine x_goto 4 d_F_positiveCounts_30 (by decide) ?_
      exact h
set_option maxHeartbeats 1000000 in
theorem r_A_covered {w : Wd} {K : Int32 → Wd → Prop} (h : RunV 1 M_F_tally [.ref 8, .ref 10] w (fun w1 => RunI 1 M_F_positiveCounts [.ref 8] w1 (fun r3 w2 => K r3 w2))) : RunI 1 M_A_covered [.ref 0] w K := by
  refine runs_of (L := [(0, .ref 0)]) rfl (Nat.le_of_ble_eq_true rfl) rfl ?_
  refine x_aload_n 0 d_A_covered_0 rfl ?_
  refine x_getR 10 3 8 d_A_covered_1 fg_10_36 rfl rfl rfl (Nf_58 (by decide)) ?_
  refine x_aload_n 0 d_A_covered_4 rfl ?_
  refine x_getR 10 1 10 d_A_covered_5 fg_10_25 rfl rfl rfl (Nf_58 (by decide)) ?_
  refine x_callVV (st := []) M_F_tally [.ref 10] d_A_covered_8 ml_10_185 cv_F_tally rfl rfl (Nf_58 (by decide)) rfl (Nat.le_of_ble_eq_true rfl) ⟨Nat.le_of_ble_eq_true rfl, Nat.le_of_ble_eq_true rfl⟩ ⟨rfl, rfl⟩ h (fun w1 h => ?_)
  refine x_aload_n 0 d_A_covered_11 rfl ?_
  refine x_getR 10 3 8 d_A_covered_12 fg_10_36 rfl rfl rfl (Nf_58 (by decide)) ?_
  refine x_callVI (st := []) M_F_positiveCounts [] d_A_covered_15 ml_10_223 cv_F_positiveCounts rfl rfl (Nf_58 (by decide)) rfl (Nat.le_of_ble_eq_true rfl) ⟨Nat.le_of_ble_eq_true rfl, Nat.le_of_ble_eq_true rfl⟩ ⟨rfl, rfl⟩ h (fun r3 w2 h => ?_)
  exact x_retI d_A_covered_18 rfl ⟨rfl, rfl⟩ h
set_option maxHeartbeats 1000000 in
theorem r_F_lackWith {x5 : Int32} {y1 y3 : Int64} {w : Wd} {K : Int32 → Wd → Prop} (h : E 1 M_F_lackWith 9 [(0, .ref 8), (1, .long y1), (3, .long y3), (5, .int x5), (6, .int 0), (7, .long y1), (9, .int 1)] [] w (qI 1 K)) : RunI 1 M_F_lackWith [.ref 8, .long y1, .long y3, .int x5] w K := by
  refine runs_of (L := [(0, .ref 8), (1, .long y1), (3, .long y3), (5, .int x5)]) rfl (Nat.le_of_ble_eq_true rfl) rfl ?_
  refine x_iconst (v := 0) d_F_lackWith_0 (by decide) ?_
  refine x_istore (L' := [(0, .ref 8), (1, .long y1), (3, .long y3), (5, .int x5), (6, .int 0)]) [1, 2, 3, 4, 0] d_F_lackWith_1 (by decide) rfl ?_
  refine x_lload_n 1 d_F_lackWith_3 rfl ?_
  refine x_lstore (L' := [(0, .ref 8), (1, .long y1), (3, .long y3), (5, .int x5), (6, .int 0), (7, .long y1)]) [1, 2, 3, 4, 5, 0] d_F_lackWith_4 (by decide) rfl ?_
  refine x_iconst (v := 1) d_F_lackWith_6 (by decide) ?_
  refine x_istore (L' := [(0, .ref 8), (1, .long y1), (3, .long y3), (5, .int x5), (6, .int 0), (7, .long y1), (9, .int 1)]) [1, 2, 3, 4, 5, 6, 0] d_F_lackWith_7 (by decide) rfl ?_
  exact h
set_option maxHeartbeats 1000000 in
theorem w_F_lackWith_9 {x5 x6 x9 : Int32} {y1 y3 y7 : Int64} {w : Wd} {K : Int32 → Wd → Prop} (h : ((w.1 1 2) ≤ x9 → K x6 w) ∧ (¬ (w.1 1 2) ≤ x9 → RunL 1 M_G_onward [.ref 1, .long y7, .int (x9 - 1)] w (fun r2 w1 => vp_in x9 40 ∧ RunI 1 M_J_bitCount [.long (y1 &&& r2)] w1 (fun r4 w3 => ∀ a5 : Int32, a5 = (w1.1 9 x9.toNatClampNeg) + r4 → RunZ 1 M_A_holds [.long y3, .int x9] w3 (fun z7 w6 => (z7 = false → ∀ a8 : Int32, a8 = x6 + ((if 0 ≤ (a5 - x5) then (a5 - x5) else 0 - (a5 - x5))) → ∀ a9 : Int32, a9 = x9 + 1 → E 1 M_F_lackWith 9 [(0, .ref 8), (1, .long y1), (3, .long y3), (5, .int x5), (6, .int a8), (7, .long r2), (9, .int a9)] [] w6 (qI 1 K)) ∧ (z7 = true → ∀ a10 : Int32, a10 = x6 + a5 → ∀ a11 : Int32, a11 = x9 + 1 → E 1 M_F_lackWith 9 [(0, .ref 8), (1, .long y1), (3, .long y3), (5, .int x5), (6, .int a10), (7, .long r2), (9, .int a11)] [] w6 (qI 1 K))))))) : E 1 M_F_lackWith 9 [(0, .ref 8), (1, .long y1), (3, .long y3), (5, .int x5), (6, .int x6), (7, .long y7), (9, .int x9)] [] w (qI 1 K) := by
  refine x_iload 6 d_F_lackWith_9 rfl ?_
  refine x_aload_n 0 d_F_lackWith_11 rfl ?_
  refine x_getR 1 0 1 d_F_lackWith_12 fg_1_15 rfl rfl rfl (Nf_58 (by decide)) ?_
  refine x_getI 5 2 d_F_lackWith_15 fg_1_29 rfl rfl (Nf_58 (by decide)) ?_
  refine x_icmp_ge 86 d_F_lackWith_18 (by decide) (fun c0 => ?_) (fun c0 => ?_)
  · have h := h.1 c0
    refine x_iload 4 d_F_lackWith_86 rfl ?_
    exact x_retI d_F_lackWith_88 rfl ⟨rfl, rfl⟩ h
  · have h := h.2 c0
    refine x_aload_n 0 d_F_lackWith_21 rfl ?_
    refine x_getR 1 0 1 d_F_lackWith_22 fg_1_15 rfl rfl rfl (Nf_58 (by decide)) ?_
    refine x_lload 5 d_F_lackWith_25 rfl ?_
    refine x_iload 6 d_F_lackWith_27 rfl ?_
    refine x_iconst (v := 1) d_F_lackWith_29 (by decide) ?_
    refine x_isub d_F_lackWith_30 ?_
    refine x_callVL (st := []) M_G_onward [.long y7, .int (x9 - 1)] d_F_lackWith_31 ml_1_35 cv_G_onward rfl rfl (Nf_58 (by decide)) rfl (Nat.le_of_ble_eq_true rfl) ⟨Nat.le_of_ble_eq_true rfl, Nat.le_of_ble_eq_true rfl⟩ ⟨rfl, rfl⟩ h (fun r2 w1 h => ?_)
    refine x_lstore (L' := [(0, .ref 8), (1, .long y1), (3, .long y3), (5, .int x5), (6, .int x6), (7, .long r2), (9, .int x9)]) [1, 2, 3, 4, 5, 0, 6] d_F_lackWith_34 (by decide) rfl ?_
    refine x_aload_n 0 d_F_lackWith_36 rfl ?_
    refine x_getR 1 1 9 d_F_lackWith_37 fg_1_9 rfl rfl rfl (Nf_58 (by decide)) ?_
    refine x_iload 6 d_F_lackWith_40 rfl ?_
    obtain ⟨h0, h⟩ := h
    refine x_iald d_F_lackWith_42 rfl (Nf_58 (by decide)) h0 ?_
    refine x_lload_n 1 d_F_lackWith_43 rfl ?_
    refine x_lload 5 d_F_lackWith_44 rfl ?_
    refine x_land d_F_lackWith_46 ?_
    refine x_callSI (st := [.int (w1.1 9 x9.toNatClampNeg)]) M_J_bitCount [.long (y1 &&& r2)] d_F_lackWith_47 ml_1_39 cv_J_bitCount rfl (Nat.le_of_ble_eq_true rfl) ⟨Nat.le_of_ble_eq_true rfl, Nat.le_of_ble_eq_true rfl⟩ ⟨rfl, rfl⟩ h (fun r4 w3 h => ?_)
    refine x_iadd d_F_lackWith_50 ?_
    obtain ⟨a5, ea5⟩ : ∃ z : Int32, z = (w1.1 9 x9.toNatClampNeg) + r4 := ⟨_, rfl⟩
    have h := h a5 ea5
    refine x_istoreE (L' := [(0, .ref 8), (1, .long y1), (3, .long y3), (5, .int x5), (6, .int x6), (7, .long r2), (9, .int x9), (10, .int a5)]) [1, 2, 3, 4, 5, 6, 7, 0] d_F_lackWith_51 (by decide) ea5 rfl ?_
    refine x_iload 4 d_F_lackWith_53 rfl ?_
    refine x_lload_n 2 d_F_lackWith_55 rfl ?_
    refine x_iload 6 d_F_lackWith_56 rfl ?_
    refine x_callSZ (st := [.int x6]) M_A_holds [.long y3, .int x9] d_F_lackWith_58 ml_1_49 cv_A_holds rfl (Nat.le_of_ble_eq_true rfl) ⟨Nat.le_of_ble_eq_true rfl, Nat.le_of_ble_eq_true rfl⟩ ⟨rfl, rfl⟩ h (fun z7 w6 h => ?_)
    refine x_zif_eq 69 d_F_lackWith_61 (by decide) (fun c0 => ?_) (fun c0 => ?_)
    · have h := h.1 c0
      refine x_iload 7 d_F_lackWith_69 rfl ?_
      refine x_iload 3 d_F_lackWith_71 rfl ?_
      refine x_isub d_F_lackWith_73 ?_
      refine x_mabs d_F_lackWith_74 mth_1_53 (Nat.le_of_ble_eq_true rfl) ⟨Nat.le_of_ble_eq_true rfl, Nat.le_of_ble_eq_true rfl⟩ (Nat.zero_le _) (Nat.zero_le _) ?_
      refine x_iadd d_F_lackWith_77 ?_
      obtain ⟨a8, ea8⟩ : ∃ z : Int32, z = x6 + ((if 0 ≤ (a5 - x5) then (a5 - x5) else 0 - (a5 - x5))) := ⟨_, rfl⟩
      have h := h a8 ea8
      refine x_istoreE (L' := [(0, .ref 8), (1, .long y1), (3, .long y3), (5, .int x5), (6, .int a8), (7, .long r2), (9, .int x9), (10, .int a5)]) [1, 2, 3, 4, 0, 5, 6, 7] d_F_lackWith_78 (by decide) ea8 rfl ?_
      obtain ⟨a9, ea9⟩ : ∃ z : Int32, z = x9 + 1 := ⟨_, rfl⟩
      have h := h a9 ea9
      refine x_iincE (L' := [(0, .ref 8), (1, .long y1), (3, .long y3), (5, .int x5), (6, .int a8), (7, .long r2), (9, .int a9), (10, .int a5)]) 6 [1, 2, 3, 4, 5, 6, 0, 7] d_F_lackWith_80 rfl ea9 (by decide) rfl ?_
      refine x_goto 9 d_F_lackWith_83 (by decide) ?_
      exact x_perm [0, 1, 2, 3, 4, 5, 6] rfl h
    · have h := h.2 c0
      refine x_iload 7 d_F_lackWith_64 rfl ?_
      refine x_goto 77 d_F_lackWith_66 (by decide) ?_
      refine x_iadd d_F_lackWith_77 ?_
      obtain ⟨a10, ea10⟩ : ∃ z : Int32, z = x6 + a5 := ⟨_, rfl⟩
      have h := h a10 ea10
      refine x_istoreE (L' := [(0, .ref 8), (1, .long y1), (3, .long y3), (5, .int x5), (6, .int a10), (7, .long r2), (9, .int x9), (10, .int a5)]) [1, 2, 3, 4, 0, 5, 6, 7] d_F_lackWith_78 (by decide) ea10 rfl ?_
      obtain ⟨a11, ea11⟩ : ∃ z : Int32, z = x9 + 1 := ⟨_, rfl⟩
      have h := h a11 ea11
      refine x_iincE (L' := [(0, .ref 8), (1, .long y1), (3, .long y3), (5, .int x5), (6, .int a10), (7, .long r2), (9, .int a11), (10, .int a5)]) 6 [1, 2, 3, 4, 5, 6, 0, 7] d_F_lackWith_80 rfl ea11 (by decide) rfl ?_
      refine x_goto 9 d_F_lackWith_83 (by decide) ?_
      exact x_perm [0, 1, 2, 3, 4, 5, 6] rfl h
set_option maxHeartbeats 1000000 in
theorem r_F_lack {x3 : Int32} {y1 : Int64} {w : Wd} {K : Int32 → Wd → Prop} (h : RunI 1 M_F_lackWith [.ref 8, .long 0, .long y1, .int x3] w (fun r2 w1 => K r2 w1)) : RunI 1 M_F_lack [.ref 8, .long y1, .int x3] w K := by
  refine runs_of (L := [(0, .ref 8), (1, .long y1), (3, .int x3)]) rfl (Nat.le_of_ble_eq_true rfl) rfl ?_
  refine x_aload_n 0 d_F_lack_0 rfl ?_
  refine x_lconst (v := 0) d_F_lack_1 (by decide) ?_
  refine x_lload_n 1 d_F_lack_2 rfl ?_
  refine x_iload_n 2 d_F_lack_3 rfl ?_
  refine x_callVI (st := []) M_F_lackWith [.long 0, .long y1, .int x3] d_F_lack_4 ml_1_45 cv_F_lackWith rfl rfl (Nf_58 (by decide)) rfl (Nat.le_of_ble_eq_true rfl) ⟨Nat.le_of_ble_eq_true rfl, Nat.le_of_ble_eq_true rfl⟩ ⟨rfl, rfl⟩ h (fun r2 w1 h => ?_)
  exact x_retI d_F_lack_7 rfl ⟨rfl, rfl⟩ h
set_option maxHeartbeats 1000000 in
theorem r_A_deficiency {x1 : Int32} {w : Wd} {K : Int32 → Wd → Prop} (h : RunZ 1 M_A_isWithin [.int x1, .int 1, .int 20] w (fun z2 w1 => (z2 = true → RunV 1 M_F_tally [.ref 8, .ref 10] w1 (fun w3 => RunI 1 M_F_lack [.ref 8, .long (w3.2 0 12), .int x1] w3 (fun r5 w4 => K r5 w4))) ∧ (z2 = false → K ((-1)) w1))) : RunI 1 M_A_deficiency [.ref 0, .int x1] w K := by
  refine runs_of (L := [(0, .ref 0), (1, .int x1)]) rfl (Nat.le_of_ble_eq_true rfl) rfl ?_
  refine x_iload_n 1 d_A_deficiency_0 rfl ?_
  refine x_iconst (v := 1) d_A_deficiency_1 (by decide) ?_
  refine x_bipush (v := 20) d_A_deficiency_2 (by decide) ?_
  refine x_callSZ (st := []) M_A_isWithin [.int x1, .int 1, .int 20] d_A_deficiency_4 ml_10_128 cv_A_isWithin rfl (Nat.le_of_ble_eq_true rfl) ⟨Nat.le_of_ble_eq_true rfl, Nat.le_of_ble_eq_true rfl⟩ ⟨rfl, rfl⟩ h (fun z2 w1 h => ?_)
  refine x_zif_ne 12 d_A_deficiency_7 (by decide) (fun c0 => ?_) (fun c0 => ?_)
  · have h := h.1 c0
    refine x_aload_n 0 d_A_deficiency_12 rfl ?_
    refine x_getR 10 3 8 d_A_deficiency_13 fg_10_36 rfl rfl rfl (Nf_58 (by decide)) ?_
    refine x_aload_n 0 d_A_deficiency_16 rfl ?_
    refine x_getR 10 1 10 d_A_deficiency_17 fg_10_25 rfl rfl rfl (Nf_58 (by decide)) ?_
    refine x_callVV (st := []) M_F_tally [.ref 10] d_A_deficiency_20 ml_10_185 cv_F_tally rfl rfl (Nf_58 (by decide)) rfl (Nat.le_of_ble_eq_true rfl) ⟨Nat.le_of_ble_eq_true rfl, Nat.le_of_ble_eq_true rfl⟩ ⟨rfl, rfl⟩ h (fun w3 h => ?_)
    refine x_aload_n 0 d_A_deficiency_23 rfl ?_
    refine x_getR 10 3 8 d_A_deficiency_24 fg_10_36 rfl rfl rfl (Nf_58 (by decide)) ?_
    refine x_aload_n 0 d_A_deficiency_27 rfl ?_
    refine x_getL 10 12 d_A_deficiency_28 fg_10_94 rfl rfl (Nf_58 (by decide)) ?_
    refine x_iload_n 1 d_A_deficiency_31 rfl ?_
    refine x_callVI (st := []) M_F_lack [.long (w3.2 0 12), .int x1] d_A_deficiency_32 ml_10_188 cv_F_lack rfl rfl (Nf_58 (by decide)) rfl (Nat.le_of_ble_eq_true rfl) ⟨Nat.le_of_ble_eq_true rfl, Nat.le_of_ble_eq_true rfl⟩ ⟨rfl, rfl⟩ h (fun r5 w4 h => ?_)
    exact x_retI d_A_deficiency_35 rfl ⟨rfl, rfl⟩ h
  · have h := h.2 c0
    refine x_iconst (v := (-1)) d_A_deficiency_10 (by decide) ?_
    exact x_retI d_A_deficiency_11 rfl ⟨rfl, rfl⟩ h
set_option maxHeartbeats 1000000 in
theorem r_A_designBlock {x1 : Int32} {w : Wd} {K : Int64 → Wd → Prop} (h : RunV 1 M_D_develop [.ref 19, .ref 10] w (fun w1 => RunZ 1 M_A_isWithin [.int x1, .int 0, .int ((w1.1 19 2) - 1)] w1 (fun z3 w2 => (z3 = true → vp_in x1 240 ∧ K (w2.2 20 x1.toNatClampNeg) w2) ∧ (z3 = false → K ((-1)) w2)))) : RunL 1 M_A_designBlock [.ref 0, .int x1] w K := by
  refine runs_of (L := [(0, .ref 0), (1, .int x1)]) rfl (Nat.le_of_ble_eq_true rfl) rfl ?_
  refine x_aload_n 0 d_A_designBlock_0 rfl ?_
  refine x_getR 10 6 19 d_A_designBlock_1 fg_10_59 rfl rfl rfl (Nf_58 (by decide)) ?_
  refine x_aload_n 0 d_A_designBlock_4 rfl ?_
  refine x_getR 10 1 10 d_A_designBlock_5 fg_10_25 rfl rfl rfl (Nf_58 (by decide)) ?_
  refine x_callVV (st := []) M_D_develop [.ref 10] d_A_designBlock_8 ml_10_265 cv_D_develop rfl rfl (Nf_58 (by decide)) rfl (Nat.le_of_ble_eq_true rfl) ⟨Nat.le_of_ble_eq_true rfl, Nat.le_of_ble_eq_true rfl⟩ ⟨rfl, rfl⟩ h (fun w1 h => ?_)
  refine x_iload_n 1 d_A_designBlock_11 rfl ?_
  refine x_iconst (v := 0) d_A_designBlock_12 (by decide) ?_
  refine x_aload_n 0 d_A_designBlock_13 rfl ?_
  refine x_getR 10 6 19 d_A_designBlock_14 fg_10_59 rfl rfl rfl (Nf_58 (by decide)) ?_
  refine x_getI 0 2 d_A_designBlock_17 fg_10_268 rfl rfl (Nf_58 (by decide)) ?_
  refine x_iconst (v := 1) d_A_designBlock_20 (by decide) ?_
  refine x_isub d_A_designBlock_21 ?_
  refine x_callSZ (st := []) M_A_isWithin [.int x1, .int 0, .int ((w1.1 19 2) - 1)] d_A_designBlock_22 ml_10_128 cv_A_isWithin rfl (Nat.le_of_ble_eq_true rfl) ⟨Nat.le_of_ble_eq_true rfl, Nat.le_of_ble_eq_true rfl⟩ ⟨rfl, rfl⟩ h (fun z3 w2 h => ?_)
  refine x_zif_ne 32 d_A_designBlock_25 (by decide) (fun c0 => ?_) (fun c0 => ?_)
  · have h := h.1 c0
    refine x_aload_n 0 d_A_designBlock_32 rfl ?_
    refine x_getR 10 6 19 d_A_designBlock_33 fg_10_59 rfl rfl rfl (Nf_58 (by decide)) ?_
    refine x_getR 0 1 20 d_A_designBlock_36 fg_10_269 rfl rfl rfl (Nf_58 (by decide)) ?_
    refine x_iload_n 1 d_A_designBlock_39 rfl ?_
    obtain ⟨h0, h⟩ := h
    refine x_lald d_A_designBlock_40 rfl (Nf_58 (by decide)) h0 ?_
    exact x_retL d_A_designBlock_41 rfl ⟨rfl, rfl⟩ h
  · have h := h.2 c0
    refine x_ldc2 (v := (-1)) d_A_designBlock_28 mw_467 ?_
    exact x_retL d_A_designBlock_31 rfl ⟨rfl, rfl⟩ h
set_option maxHeartbeats 1000000 in
theorem r_D_disjointFromFirst {w : Wd} {K : Int32 → Wd → Prop} (h : E 1 M_D_disjointFromFirst 7 [(0, .ref 19), (1, .int 0), (2, .long 0), (4, .int 0)] [] w (qI 1 K)) : RunI 1 M_D_disjointFromFirst [.ref 19] w K := by
  refine runs_of (L := [(0, .ref 19)]) rfl (Nat.le_of_ble_eq_true rfl) rfl ?_
  refine x_iconst (v := 0) d_D_disjointFromFirst_0 (by decide) ?_
  refine x_istore_n (L' := [(0, .ref 19), (1, .int 0)]) [1, 0] d_D_disjointFromFirst_1 (by decide) rfl ?_
  refine x_lconst (v := 0) d_D_disjointFromFirst_2 (by decide) ?_
  refine x_lstore_n (L' := [(0, .ref 19), (1, .int 0), (2, .long 0)]) [1, 2, 0] d_D_disjointFromFirst_3 (by decide) rfl ?_
  refine x_iconst (v := 0) d_D_disjointFromFirst_4 (by decide) ?_
  refine x_istore (L' := [(0, .ref 19), (1, .int 0), (2, .long 0), (4, .int 0)]) [1, 2, 3, 0] d_D_disjointFromFirst_5 (by decide) rfl ?_
  exact h
set_option maxHeartbeats 1000000 in
theorem w_D_disjointFromFirst_7 {x1 x4 : Int32} {y2 : Int64} {w : Wd} {K : Int32 → Wd → Prop} (h : ((w.1 19 2) ≤ x4 → K x1 w) ∧ (¬ (w.1 19 2) ≤ x4 → vp_in x4 240 ∧ (¬ ((w.2 20 x4.toNatClampNeg) &&& y2) = 0 → ∀ a1 : Int32, a1 = x4 + 1 → E 1 M_D_disjointFromFirst 7 [(0, .ref 19), (1, .int x1), (2, .long y2), (4, .int a1)] [] w (qI 1 K)) ∧ (((w.2 20 x4.toNatClampNeg) &&& y2) = 0 → vp_in x4 240 ∧ ∀ b2 : Int64, b2 = y2 ||| (w.2 20 x4.toNatClampNeg) → ∀ a3 : Int32, a3 = x1 + 1 → ∀ a4 : Int32, a4 = x4 + 1 → E 1 M_D_disjointFromFirst 7 [(0, .ref 19), (1, .int a3), (2, .long b2), (4, .int a4)] [] w (qI 1 K)))) : E 1 M_D_disjointFromFirst 7 [(0, .ref 19), (1, .int x1), (2, .long y2), (4, .int x4)] [] w (qI 1 K) := by
  refine x_iload 3 d_D_disjointFromFirst_7 rfl ?_
  refine x_aload_n 0 d_D_disjointFromFirst_9 rfl ?_
  refine x_getI 0 2 d_D_disjointFromFirst_10 fg_0_19 rfl rfl (Nf_58 (by decide)) ?_
  refine x_icmp_ge 49 d_D_disjointFromFirst_13 (by decide) (fun c0 => ?_) (fun c0 => ?_)
  · have h := h.1 c0
    refine x_iload_n 1 d_D_disjointFromFirst_49 rfl ?_
    exact x_retI d_D_disjointFromFirst_50 rfl ⟨rfl, rfl⟩ h
  · have h := h.2 c0
    refine x_aload_n 0 d_D_disjointFromFirst_16 rfl ?_
    refine x_getR 0 1 20 d_D_disjointFromFirst_17 fg_0_9 rfl rfl rfl (Nf_58 (by decide)) ?_
    refine x_iload 3 d_D_disjointFromFirst_20 rfl ?_
    obtain ⟨h0, h⟩ := h
    refine x_lald d_D_disjointFromFirst_22 rfl (Nf_58 (by decide)) h0 ?_
    refine x_lload_n 2 d_D_disjointFromFirst_23 rfl ?_
    refine x_land d_D_disjointFromFirst_24 ?_
    refine x_lconst (v := 0) d_D_disjointFromFirst_25 (by decide) ?_
    refine x_lif_ne 43 d_D_disjointFromFirst_26 d_D_disjointFromFirst_27 (by decide) (fun c0 => ?_) (fun c0 => ?_)
    · have h := h.1 c0
      obtain ⟨a1, ea1⟩ : ∃ z : Int32, z = x4 + 1 := ⟨_, rfl⟩
      have h := h a1 ea1
      refine x_iincE (L' := [(0, .ref 19), (1, .int x1), (2, .long y2), (4, .int a1)]) 3 [1, 2, 3, 0] d_D_disjointFromFirst_43 rfl ea1 (by decide) rfl ?_
      refine x_goto 7 d_D_disjointFromFirst_46 (by decide) ?_
      exact h
    · have h := h.2 c0
      refine x_lload_n 2 d_D_disjointFromFirst_30 rfl ?_
      refine x_aload_n 0 d_D_disjointFromFirst_31 rfl ?_
      refine x_getR 0 1 20 d_D_disjointFromFirst_32 fg_0_9 rfl rfl rfl (Nf_58 (by decide)) ?_
      refine x_iload 3 d_D_disjointFromFirst_35 rfl ?_
      obtain ⟨h0, h⟩ := h
      refine x_lald d_D_disjointFromFirst_37 rfl (Nf_58 (by decide)) h0 ?_
      refine x_lor d_D_disjointFromFirst_38 ?_
      obtain ⟨b2, eb2⟩ : ∃ z : Int64, z = y2 ||| (w.2 20 x4.toNatClampNeg) := ⟨_, rfl⟩
      have h := h b2 eb2
      refine x_lstore_nE (L' := [(0, .ref 19), (1, .int x1), (2, .long b2), (4, .int x4)]) [1, 2, 0, 3] d_D_disjointFromFirst_39 (by decide) eb2 rfl ?_
      obtain ⟨a3, ea3⟩ : ∃ z : Int32, z = x1 + 1 := ⟨_, rfl⟩
      have h := h a3 ea3
      refine x_iincE (L' := [(0, .ref 19), (1, .int a3), (2, .long b2), (4, .int x4)]) 1 [1, 0, 2, 3] d_D_disjointFromFirst_40 rfl ea3 (by decide) rfl ?_
      obtain ⟨a4, ea4⟩ : ∃ z : Int32, z = x4 + 1 := ⟨_, rfl⟩
      have h := h a4 ea4
      refine x_iincE (L' := [(0, .ref 19), (1, .int a3), (2, .long b2), (4, .int a4)]) 3 [1, 2, 3, 0] d_D_disjointFromFirst_43 rfl ea4 (by decide) rfl ?_
      refine x_goto 7 d_D_disjointFromFirst_46 (by decide) ?_
      exact h
set_option maxHeartbeats 1000000 in
theorem r_A_disjointBlocks {w : Wd} {K : Int32 → Wd → Prop} (h : RunV 1 M_D_develop [.ref 19, .ref 10] w (fun w1 => RunI 1 M_D_disjointFromFirst [.ref 19] w1 (fun r3 w2 => K r3 w2))) : RunI 1 M_A_disjointBlocks [.ref 0] w K := by
  refine runs_of (L := [(0, .ref 0)]) rfl (Nat.le_of_ble_eq_true rfl) rfl ?_
  refine x_aload_n 0 d_A_disjointBlocks_0 rfl ?_
  refine x_getR 10 6 19 d_A_disjointBlocks_1 fg_10_59 rfl rfl rfl (Nf_58 (by decide)) ?_
  refine x_aload_n 0 d_A_disjointBlocks_4 rfl ?_
  refine x_getR 10 1 10 d_A_disjointBlocks_5 fg_10_25 rfl rfl rfl (Nf_58 (by decide)) ?_
  refine x_callVV (st := []) M_D_develop [.ref 10] d_A_disjointBlocks_8 ml_10_265 cv_D_develop rfl rfl (Nf_58 (by decide)) rfl (Nat.le_of_ble_eq_true rfl) ⟨Nat.le_of_ble_eq_true rfl, Nat.le_of_ble_eq_true rfl⟩ ⟨rfl, rfl⟩ h (fun w1 h => ?_)
  refine x_aload_n 0 d_A_disjointBlocks_11 rfl ?_
  refine x_getR 10 6 19 d_A_disjointBlocks_12 fg_10_59 rfl rfl rfl (Nf_58 (by decide)) ?_
  refine x_callVI (st := []) M_D_disjointFromFirst [] d_A_disjointBlocks_15 ml_10_283 cv_D_disjointFromFirst rfl rfl (Nf_58 (by decide)) rfl (Nat.le_of_ble_eq_true rfl) ⟨Nat.le_of_ble_eq_true rfl, Nat.le_of_ble_eq_true rfl⟩ ⟨rfl, rfl⟩ h (fun r3 w2 h => ?_)
  exact x_retI d_A_disjointBlocks_18 rfl ⟨rfl, rfl⟩ h
set_option maxHeartbeats 1000000 in
theorem r_A_exchange {x1 x2 x3 : Int32} {w : Wd} {K : Int32 → Wd → Prop} (h : RunZ 1 M_A_isBlock [.int x1] w (fun z2 w1 => (z2 = false → K ((-1)) w1) ∧ (z2 = true → RunZ 1 M_A_isElement [.ref 0, .int x2] w1 (fun z4 w3 => (z4 = false → K ((-1)) w3) ∧ (z4 = true → RunZ 1 M_A_isElement [.ref 0, .int x3] w3 (fun z6 w5 => (z6 = true → vp_in x1 6 ∧ RunZ 1 M_A_holds [.long (w5.2 10 x1.toNatClampNeg), .int x2] w5 (fun z8 w7 => (z8 = false → K ((-3)) w7) ∧ (z8 = true → vp_in x1 6 ∧ RunZ 1 M_A_holds [.long (w7.2 10 x1.toNatClampNeg), .int x3] w7 (fun z10 w9 => (z10 = false → RunV 1 M_H_note [.ref 11, .ref 10] w9 (fun w11 => vp_in x1 6 ∧ vp_in x1 6 ∧ ∀ w12 : Wd, w12 = upL w11 10 x1.toNatClampNeg ((w11.2 10 x1.toNatClampNeg) ^^^ ((1 <<< (x2.toInt64 &&& 63)) ||| (1 <<< (x3.toInt64 &&& 63)))) → RunV 1 M_F_tally [.ref 8, .ref 10] w12 (fun w13 => RunI 1 M_F_lack [.ref 8, .long (w13.2 0 12), .int 1] w13 (fun r15 w14 => K r15 w14)))) ∧ (z10 = true → K ((-3)) w9))))) ∧ (z6 = false → K ((-1)) w5))))))) : RunI 1 M_A_exchange [.ref 0, .int x1, .int x2, .int x3] w K := by
  refine runs_of (L := [(0, .ref 0), (1, .int x1), (2, .int x2), (3, .int x3)]) rfl (Nat.le_of_ble_eq_true rfl) rfl ?_
  refine x_iload_n 1 d_A_exchange_0 rfl ?_
  refine x_callSZ (st := []) M_A_isBlock [.int x1] d_A_exchange_1 ml_10_158 cv_A_isBlock rfl (Nat.le_of_ble_eq_true rfl) ⟨Nat.le_of_ble_eq_true rfl, Nat.le_of_ble_eq_true rfl⟩ ⟨rfl, rfl⟩ h (fun z2 w1 h => ?_)
  refine x_zif_eq 23 d_A_exchange_4 (by decide) (fun c0 => ?_) (fun c0 => ?_)
  · have h := h.1 c0
    refine x_iconst (v := (-1)) d_A_exchange_23 (by decide) ?_
    exact x_retI d_A_exchange_24 rfl ⟨rfl, rfl⟩ h
  · have h := h.2 c0
    refine x_aload_n 0 d_A_exchange_7 rfl ?_
    refine x_iload_n 2 d_A_exchange_8 rfl ?_
    refine x_callVZ (st := []) M_A_isElement [.int x2] d_A_exchange_9 ml_10_120 cv_A_isElement rfl rfl (Nf_58 (by decide)) rfl (Nat.le_of_ble_eq_true rfl) ⟨Nat.le_of_ble_eq_true rfl, Nat.le_of_ble_eq_true rfl⟩ ⟨rfl, rfl⟩ h (fun z4 w3 h => ?_)
    refine x_zif_eq 23 d_A_exchange_12 (by decide) (fun c0 => ?_) (fun c0 => ?_)
    · have h := h.1 c0
      refine x_iconst (v := (-1)) d_A_exchange_23 (by decide) ?_
      exact x_retI d_A_exchange_24 rfl ⟨rfl, rfl⟩ h
    · have h := h.2 c0
      refine x_aload_n 0 d_A_exchange_15 rfl ?_
      refine x_iload_n 3 d_A_exchange_16 rfl ?_
      refine x_callVZ (st := []) M_A_isElement [.int x3] d_A_exchange_17 ml_10_120 cv_A_isElement rfl rfl (Nf_58 (by decide)) rfl (Nat.le_of_ble_eq_true rfl) ⟨Nat.le_of_ble_eq_true rfl, Nat.le_of_ble_eq_true rfl⟩ ⟨rfl, rfl⟩ h (fun z6 w5 h => ?_)
      refine x_zif_ne 25 d_A_exchange_20 (by decide) (fun c0 => ?_) (fun c0 => ?_)
      · have h := h.1 c0
        refine x_aload_n 0 d_A_exchange_25 rfl ?_
        refine x_getR 10 1 10 d_A_exchange_26 fg_10_25 rfl rfl rfl (Nf_58 (by decide)) ?_
        refine x_iload_n 1 d_A_exchange_29 rfl ?_
        obtain ⟨h0, h⟩ := h
        refine x_lald d_A_exchange_30 rfl (Nf_58 (by decide)) h0 ?_
        refine x_iload_n 2 d_A_exchange_31 rfl ?_
        refine x_callSZ (st := []) M_A_holds [.long (w5.2 10 x1.toNatClampNeg), .int x2] d_A_exchange_32 ml_10_161 cv_A_holds rfl (Nat.le_of_ble_eq_true rfl) ⟨Nat.le_of_ble_eq_true rfl, Nat.le_of_ble_eq_true rfl⟩ ⟨rfl, rfl⟩ h (fun z8 w7 h => ?_)
        refine x_zif_eq 51 d_A_exchange_35 (by decide) (fun c0 => ?_) (fun c0 => ?_)
        · have h := h.1 c0
          refine x_bipush (v := (-3)) d_A_exchange_51 (by decide) ?_
          exact x_retI d_A_exchange_53 rfl ⟨rfl, rfl⟩ h
        · have h := h.2 c0
          refine x_aload_n 0 d_A_exchange_38 rfl ?_
          refine x_getR 10 1 10 d_A_exchange_39 fg_10_25 rfl rfl rfl (Nf_58 (by decide)) ?_
          refine x_iload_n 1 d_A_exchange_42 rfl ?_
          obtain ⟨h0, h⟩ := h
          refine x_lald d_A_exchange_43 rfl (Nf_58 (by decide)) h0 ?_
          refine x_iload_n 3 d_A_exchange_44 rfl ?_
          refine x_callSZ (st := []) M_A_holds [.long (w7.2 10 x1.toNatClampNeg), .int x3] d_A_exchange_45 ml_10_161 cv_A_holds rfl (Nat.le_of_ble_eq_true rfl) ⟨Nat.le_of_ble_eq_true rfl, Nat.le_of_ble_eq_true rfl⟩ ⟨rfl, rfl⟩ h (fun z10 w9 h => ?_)
          refine x_zif_eq 54 d_A_exchange_48 (by decide) (fun c0 => ?_) (fun c0 => ?_)
          · have h := h.1 c0
            refine x_aload_n 0 d_A_exchange_54 rfl ?_
            refine x_getR 10 2 11 d_A_exchange_55 fg_10_32 rfl rfl rfl (Nf_58 (by decide)) ?_
            refine x_aload_n 0 d_A_exchange_58 rfl ?_
            refine x_getR 10 1 10 d_A_exchange_59 fg_10_25 rfl rfl rfl (Nf_58 (by decide)) ?_
            refine x_callVV (st := []) M_H_note [.ref 10] d_A_exchange_62 ml_10_165 cv_H_note rfl rfl (Nf_58 (by decide)) rfl (Nat.le_of_ble_eq_true rfl) ⟨Nat.le_of_ble_eq_true rfl, Nat.le_of_ble_eq_true rfl⟩ ⟨rfl, rfl⟩ h (fun w11 h => ?_)
            refine x_aload_n 0 d_A_exchange_65 rfl ?_
            refine x_getR 10 1 10 d_A_exchange_66 fg_10_25 rfl rfl rfl (Nf_58 (by decide)) ?_
            refine x_iload_n 1 d_A_exchange_69 rfl ?_
            refine x_dup2 d_A_exchange_70 rfl rfl ?_
            obtain ⟨h0, h⟩ := h
            refine x_lald d_A_exchange_71 rfl (Nf_58 (by decide)) h0 ?_
            refine x_lconst (v := 1) d_A_exchange_72 (by decide) ?_
            refine x_iload_n 2 d_A_exchange_73 rfl ?_
            refine x_lshl d_A_exchange_74 ?_
            refine x_lconst (v := 1) d_A_exchange_75 (by decide) ?_
            refine x_iload_n 3 d_A_exchange_76 rfl ?_
            refine x_lshl d_A_exchange_77 ?_
            refine x_lor d_A_exchange_78 ?_
            refine x_lxor d_A_exchange_79 ?_
            obtain ⟨h0, h⟩ := h
            refine x_lastE d_A_exchange_80 rfl (Nf_58 (by decide)) h0 (fun w12 ew12 => ?_)
            have h := h w12 ew12
            refine x_aload_n 0 d_A_exchange_81 rfl ?_
            refine x_getR 10 3 8 d_A_exchange_82 fg_10_36 rfl rfl rfl (Nf_58 (by decide)) ?_
            refine x_aload_n 0 d_A_exchange_85 rfl ?_
            refine x_getR 10 1 10 d_A_exchange_86 fg_10_25 rfl rfl rfl (Nf_58 (by decide)) ?_
            refine x_callVV (st := []) M_F_tally [.ref 10] d_A_exchange_89 ml_10_185 cv_F_tally rfl rfl (Nf_58 (by decide)) rfl (Nat.le_of_ble_eq_true rfl) ⟨Nat.le_of_ble_eq_true rfl, Nat.le_of_ble_eq_true rfl⟩ ⟨rfl, rfl⟩ h (fun w13 h => ?_)
            refine x_aload_n 0 d_A_exchange_92 rfl ?_
            refine x_getR 10 3 8 d_A_exchange_93 fg_10_36 rfl rfl rfl (Nf_58 (by decide)) ?_
            refine x_aload_n 0 d_A_exchange_96 rfl ?_
            refine x_getL 10 12 d_A_exchange_97 fg_10_94 rfl rfl (Nf_58 (by decide)) ?_
            refine x_iconst (v := 1) d_A_exchange_100 (by decide) ?_
            refine x_callVI (st := []) M_F_lack [.long (w13.2 0 12), .int 1] d_A_exchange_101 ml_10_188 cv_F_lack rfl rfl (Nf_58 (by decide)) rfl (Nat.le_of_ble_eq_true rfl) ⟨Nat.le_of_ble_eq_true rfl, Nat.le_of_ble_eq_true rfl⟩ ⟨rfl, rfl⟩ h (fun r15 w14 h => ?_)
            exact x_retI d_A_exchange_104 rfl ⟨rfl, rfl⟩ h
          · have h := h.2 c0
            refine x_bipush (v := (-3)) d_A_exchange_51 (by decide) ?_
            exact x_retI d_A_exchange_53 rfl ⟨rfl, rfl⟩ h
      · have h := h.2 c0
        refine x_iconst (v := (-1)) d_A_exchange_23 (by decide) ?_
        exact x_retI d_A_exchange_24 rfl ⟨rfl, rfl⟩ h
