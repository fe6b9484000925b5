set_option maxHeartbeats 1000000 in
theorem r_D_meetingsIn {x1 : Int32} {w : Wd} {K : Int32 → Wd → Prop} (h : E 1 M_D_meetingsIn 4 [(0, .ref 19), (1, .int x1), (2, .int 0), (3, .int 1)] [] w (qI 1 K)) : RunI 1 M_D_meetingsIn [.ref 19, .int x1] w K := by
  refine runs_of (L := [(0, .ref 19), (1, .int x1)]) rfl (Nat.le_of_ble_eq_true rfl) rfl ?_
  refine x_iconst (v := 0) d_D_meetingsIn_0 (by decide) ?_
  refine x_istore_n (L' := [(0, .ref 19), (1, .int x1), (2, .int 0)]) [1, 2, 0] d_D_meetingsIn_1 (by decide) rfl ?_
  refine x_iconst (v := 1) d_D_meetingsIn_2 (by decide) ?_
  refine x_istore_n (L' := [(0, .ref 19), (1, .int x1), (2, .int 0), (3, .int 1)]) [1, 2, 3, 0] d_D_meetingsIn_3 (by decide) rfl ?_
  exact h
set_option maxHeartbeats 1000000 in
theorem w_D_meetingsIn_4 {x1 x2 x3 : Int32} {w : Wd} {K : Int32 → Wd → Prop} (h : ((w.1 19 2) ≤ x3 → K x2 w) ∧ (¬ (w.1 19 2) ≤ x3 → E 1 M_D_meetingsIn 15 [(0, .ref 19), (1, .int x1), (2, .int x2), (3, .int x3), (4, .int 0)] [] w (qI 1 K))) : E 1 M_D_meetingsIn 4 [(0, .ref 19), (1, .int x1), (2, .int x2), (3, .int x3)] [] w (qI 1 K) := by
  refine x_iload_n 3 d_D_meetingsIn_4 rfl ?_
  refine x_aload_n 0 d_D_meetingsIn_5 rfl ?_
  refine x_getI 0 2 d_D_meetingsIn_6 fg_0_19 rfl rfl (Nf_58 (by decide)) ?_
  refine x_icmp_ge 57 d_D_meetingsIn_9 (by decide) (fun c0 => ?_) (fun c0 => ?_)
  · have h := h.1 c0
    refine x_iload_n 2 d_D_meetingsIn_57 rfl ?_
    exact x_retI d_D_meetingsIn_58 rfl ⟨rfl, rfl⟩ h
  · have h := h.2 c0
    refine x_iconst (v := 0) d_D_meetingsIn_12 (by decide) ?_
    refine x_istore (L' := [(0, .ref 19), (1, .int x1), (2, .int x2), (3, .int x3), (4, .int 0)]) [1, 2, 3, 4, 0] d_D_meetingsIn_13 (by decide) rfl ?_
    exact h
set_option maxHeartbeats 1000000 in
theorem w_D_meetingsIn_15 {x1 x2 x3 x4 : Int32} {w : Wd} {K : Int32 → Wd → Prop} (h : (x3 ≤ x4 → ∀ a1 : Int32, a1 = x3 + 1 → E 1 M_D_meetingsIn 4 [(0, .ref 19), (1, .int x1), (2, .int x2), (3, .int a1)] [] w (qI 1 K)) ∧ (¬ x3 ≤ x4 → vp_in x3 240 ∧ vp_in x4 240 ∧ RunI 1 M_J_bitCount [.long ((w.2 20 x3.toNatClampNeg) &&& (w.2 20 x4.toNatClampNeg))] w (fun r3 w2 => (¬ r3 = x1 → ∀ a4 : Int32, a4 = x4 + 1 → E 1 M_D_meetingsIn 15 [(0, .ref 19), (1, .int x1), (2, .int x2), (3, .int x3), (4, .int a4)] [] w2 (qI 1 K)) ∧ (r3 = x1 → ∀ a5 : Int32, a5 = x2 + 1 → ∀ a6 : Int32, a6 = x4 + 1 → E 1 M_D_meetingsIn 15 [(0, .ref 19), (1, .int x1), (2, .int a5), (3, .int x3), (4, .int a6)] [] w2 (qI 1 K))))) : E 1 M_D_meetingsIn 15 [(0, .ref 19), (1, .int x1), (2, .int x2), (3, .int x3), (4, .int x4)] [] w (qI 1 K) := by
  refine x_iload 4 d_D_meetingsIn_15 rfl ?_
  refine x_iload_n 3 d_D_meetingsIn_17 rfl ?_
  refine x_icmp_ge 51 d_D_meetingsIn_18 (by decide) (fun c0 => ?_) (fun c0 => ?_)
  · have h := h.1 c0
    obtain ⟨a1, ea1⟩ : ∃ z : Int32, z = x3 + 1 := ⟨_, rfl⟩
    have h := h a1 ea1
    refine x_iincE (L' := [(0, .ref 19), (1, .int x1), (2, .int x2), (3, .int a1), (4, .int x4)]) 3 [1, 2, 3, 0, 4] d_D_meetingsIn_51 rfl ea1 (by decide) rfl ?_
    refine x_goto 4 d_D_meetingsIn_54 (by decide) ?_
    exact x_perm [0, 1, 2, 3] rfl h
  · have h := h.2 c0
    refine x_aload_n 0 d_D_meetingsIn_21 rfl ?_
    refine x_getR 0 1 20 d_D_meetingsIn_22 fg_0_9 rfl rfl rfl (Nf_58 (by decide)) ?_
    refine x_iload_n 3 d_D_meetingsIn_25 rfl ?_
    obtain ⟨h0, h⟩ := h
    refine x_lald d_D_meetingsIn_26 rfl (Nf_58 (by decide)) h0 ?_
    refine x_aload_n 0 d_D_meetingsIn_27 rfl ?_
    refine x_getR 0 1 20 d_D_meetingsIn_28 fg_0_9 rfl rfl rfl (Nf_58 (by decide)) ?_
    refine x_iload 4 d_D_meetingsIn_31 rfl ?_
    obtain ⟨h0, h⟩ := h
    refine x_lald d_D_meetingsIn_33 rfl (Nf_58 (by decide)) h0 ?_
    refine x_land d_D_meetingsIn_34 ?_
    refine x_callSI (st := []) M_J_bitCount [.long ((w.2 20 x3.toNatClampNeg) &&& (w.2 20 x4.toNatClampNeg))] d_D_meetingsIn_35 ml_0_40 cv_J_bitCount rfl (Nat.le_of_ble_eq_true rfl) ⟨Nat.le_of_ble_eq_true rfl, Nat.le_of_ble_eq_true rfl⟩ ⟨rfl, rfl⟩ h (fun r3 w2 h => ?_)
    refine x_iload_n 1 d_D_meetingsIn_38 rfl ?_
    refine x_icmp_ne 45 d_D_meetingsIn_39 (by decide) (fun c0 => ?_) (fun c0 => ?_)
    · have h := h.1 c0
      obtain ⟨a4, ea4⟩ : ∃ z : Int32, z = x4 + 1 := ⟨_, rfl⟩
      have h := h a4 ea4
      refine x_iincE (L' := [(0, .ref 19), (1, .int x1), (2, .int x2), (3, .int x3), (4, .int a4)]) 4 [1, 2, 3, 4, 0] d_D_meetingsIn_45 rfl ea4 (by decide) rfl ?_
      refine x_goto 15 d_D_meetingsIn_48 (by decide) ?_
      exact h
    · have h := h.2 c0
      obtain ⟨a5, ea5⟩ : ∃ z : Int32, z = x2 + 1 := ⟨_, rfl⟩
      have h := h a5 ea5
      refine x_iincE (L' := [(0, .ref 19), (1, .int x1), (2, .int a5), (3, .int x3), (4, .int x4)]) 2 [1, 2, 0, 3, 4] d_D_meetingsIn_42 rfl ea5 (by decide) rfl ?_
      obtain ⟨a6, ea6⟩ : ∃ z : Int32, z = x4 + 1 := ⟨_, rfl⟩
      have h := h a6 ea6
      refine x_iincE (L' := [(0, .ref 19), (1, .int x1), (2, .int a5), (3, .int x3), (4, .int a6)]) 4 [1, 2, 3, 4, 0] d_D_meetingsIn_45 rfl ea6 (by decide) rfl ?_
      refine x_goto 15 d_D_meetingsIn_48 (by decide) ?_
      exact h
set_option maxHeartbeats 1000000 in
theorem r_A_intersections {x1 : Int32} {w : Wd} {K : Int32 → Wd → Prop} (h : RunZ 1 M_A_isWithin [.int x1, .int 0, .int 40] w (fun z2 w1 => (z2 = true → RunV 1 M_D_develop [.ref 19, .ref 10] w1 (fun w3 => RunI 1 M_D_meetingsIn [.ref 19, .int x1] w3 (fun r5 w4 => K r5 w4))) ∧ (z2 = false → K ((-1)) w1))) : RunI 1 M_A_intersections [.ref 0, .int x1] w K := by
  refine runs_of (L := [(0, .ref 0), (1, .int x1)]) rfl (Nat.le_of_ble_eq_true rfl) rfl ?_
  refine x_iload_n 1 d_A_intersections_0 rfl ?_
  refine x_iconst (v := 0) d_A_intersections_1 (by decide) ?_
  refine x_bipush (v := 40) d_A_intersections_2 (by decide) ?_
  refine x_callSZ (st := []) M_A_isWithin [.int x1, .int 0, .int 40] d_A_intersections_4 ml_10_128 cv_A_isWithin rfl (Nat.le_of_ble_eq_true rfl) ⟨Nat.le_of_ble_eq_true rfl, Nat.le_of_ble_eq_true rfl⟩ ⟨rfl, rfl⟩ h (fun z2 w1 h => ?_)
  refine x_zif_ne 12 d_A_intersections_7 (by decide) (fun c0 => ?_) (fun c0 => ?_)
  · have h := h.1 c0
    refine x_aload_n 0 d_A_intersections_12 rfl ?_
    refine x_getR 10 6 19 d_A_intersections_13 fg_10_59 rfl rfl rfl (Nf_58 (by decide)) ?_
    refine x_aload_n 0 d_A_intersections_16 rfl ?_
    refine x_getR 10 1 10 d_A_intersections_17 fg_10_25 rfl rfl rfl (Nf_58 (by decide)) ?_
    refine x_callVV (st := []) M_D_develop [.ref 10] d_A_intersections_20 ml_10_265 cv_D_develop rfl rfl (Nf_58 (by decide)) rfl (Nat.le_of_ble_eq_true rfl) ⟨Nat.le_of_ble_eq_true rfl, Nat.le_of_ble_eq_true rfl⟩ ⟨rfl, rfl⟩ h (fun w3 h => ?_)
    refine x_aload_n 0 d_A_intersections_23 rfl ?_
    refine x_getR 10 6 19 d_A_intersections_24 fg_10_59 rfl rfl rfl (Nf_58 (by decide)) ?_
    refine x_iload_n 1 d_A_intersections_27 rfl ?_
    refine x_callVI (st := []) M_D_meetingsIn [.int x1] d_A_intersections_28 ml_10_275 cv_D_meetingsIn rfl rfl (Nf_58 (by decide)) rfl (Nat.le_of_ble_eq_true rfl) ⟨Nat.le_of_ble_eq_true rfl, Nat.le_of_ble_eq_true rfl⟩ ⟨rfl, rfl⟩ h (fun r5 w4 h => ?_)
    exact x_retI d_A_intersections_31 rfl ⟨rfl, rfl⟩ h
  · have h := h.2 c0
    refine x_iconst (v := (-1)) d_A_intersections_10 (by decide) ?_
    exact x_retI d_A_intersections_11 rfl ⟨rfl, rfl⟩ h
set_option maxHeartbeats 1000000 in
theorem r_A_isSlot {x0 : Int32} {w : Wd} {K : Bool → Wd → Prop} (h : (x0 = 0 → K true w) ∧ (¬ x0 = 0 → (¬ x0 = 1 → K false w) ∧ (x0 = 1 → K true w))) : RunZ 1 M_A_isSlot [.int x0] w K := by
  refine runs_of (L := [(0, .int x0)]) rfl (Nat.le_of_ble_eq_true rfl) rfl ?_
  refine x_iload_n 0 d_A_isSlot_0 rfl ?_
  refine x_if_eq 9 d_A_isSlot_1 (by decide) (fun c0 => ?_) (fun c0 => ?_)
  · have h := h.1 c0
    refine x_iconst (v := 1) d_A_isSlot_9 (by decide) ?_
    refine x_goto 14 d_A_isSlot_10 (by decide) ?_
    exact x_retZ (z := true) d_A_isSlot_14 rfl rfl ⟨rfl, rfl⟩ h
  · have h := h.2 c0
    refine x_iload_n 0 d_A_isSlot_4 rfl ?_
    refine x_iconst (v := 1) d_A_isSlot_5 (by decide) ?_
    refine x_icmp_ne 13 d_A_isSlot_6 (by decide) (fun c0 => ?_) (fun c0 => ?_)
    · have h := h.1 c0
      refine x_iconst (v := 0) d_A_isSlot_13 (by decide) ?_
      exact x_retZ (z := false) d_A_isSlot_14 rfl rfl ⟨rfl, rfl⟩ h
    · have h := h.2 c0
      refine x_iconst (v := 1) d_A_isSlot_9 (by decide) ?_
      refine x_goto 14 d_A_isSlot_10 (by decide) ?_
      exact x_retZ (z := true) d_A_isSlot_14 rfl rfl ⟨rfl, rfl⟩ h
set_option maxHeartbeats 1000000 in
theorem r_A_slotAt {x1 : Int32} {w : Wd} {K : Nat → Wd → Prop} (h : (¬ x1 = 0 → K 37 w) ∧ (x1 = 0 → K 35 w)) : RunP 1 M_A_slotAt [.ref 0, .int x1] w K := by
  refine runs_of (L := [(0, .ref 0), (1, .int x1)]) rfl (Nat.le_of_ble_eq_true rfl) rfl ?_
  refine x_iload_n 1 d_A_slotAt_0 rfl ?_
  refine x_if_ne 11 d_A_slotAt_1 (by decide) (fun c0 => ?_) (fun c0 => ?_)
  · have h := h.1 c0
    refine x_aload_n 0 d_A_slotAt_11 rfl ?_
    refine x_getR 10 11 37 d_A_slotAt_12 fg_10_91 rfl rfl rfl (Nf_58 (by decide)) ?_
    exact x_retP d_A_slotAt_15 rfl ⟨rfl, rfl⟩ h
  · have h := h.2 c0
    refine x_aload_n 0 d_A_slotAt_4 rfl ?_
    refine x_getR 10 10 35 d_A_slotAt_5 fg_10_87 rfl rfl rfl (Nf_58 (by decide)) ?_
    refine x_goto 15 d_A_slotAt_8 (by decide) ?_
    exact x_retP d_A_slotAt_15 rfl ⟨rfl, rfl⟩ h
set_option maxHeartbeats 1000000 in
theorem r_K_areAlike {p1 : Nat} (hk1 : kd p1 = .inl (1, 6)) (hp1 : p1 < Nf 1) {w : Wd} {K : Bool → Wd → Prop} (h : RunI 1 M_K_listSame [.ref 14, .ref p1, .ref 16] w (fun r2 w1 => RunI 1 M_K_listSame [.ref 14, .ref 10, .ref 17] w1 (fun r4 w3 => (r4 = r2 → E 1 M_K_areAlike 28 [(0, .ref 14), (1, .ref 10), (3, .int r2), (4, .int 0)] [] w3 (qZ 1 K)) ∧ (¬ r4 = r2 → K false w3)))) : RunZ 1 M_K_areAlike [.ref 14, .ref 10, .ref p1] w K := by
  refine runs_of (L := [(0, .ref 14), (1, .ref 10), (2, .ref p1)]) rfl (Nat.le_of_ble_eq_true rfl) rfl ?_
  refine x_aload_n 0 d_K_areAlike_0 rfl ?_
  refine x_aload_n 2 d_K_areAlike_1 rfl ?_
  refine x_aload_n 0 d_K_areAlike_2 rfl ?_
  refine x_getR 7 2 16 d_K_areAlike_3 fg_7_15 rfl rfl rfl (Nf_58 (by decide)) ?_
  refine x_callVI (st := []) M_K_listSame [.ref p1, .ref 16] d_K_areAlike_6 ml_7_46 cv_K_listSame rfl rfl (Nf_58 (by decide)) rfl (Nat.le_of_ble_eq_true rfl) ⟨Nat.le_of_ble_eq_true rfl, Nat.le_of_ble_eq_true rfl⟩ ⟨rfl, rfl⟩ h (fun r2 w1 h => ?_)
  refine x_istore_n (L' := [(0, .ref 14), (1, .ref 10), (2, .ref p1), (3, .int r2)]) [1, 2, 3, 0] d_K_areAlike_9 (by decide) rfl ?_
  refine x_aload_n 0 d_K_areAlike_10 rfl ?_
  refine x_aload_n 1 d_K_areAlike_11 rfl ?_
  refine x_aload_n 0 d_K_areAlike_12 rfl ?_
  refine x_getR 7 3 17 d_K_areAlike_13 fg_7_19 rfl rfl rfl (Nf_58 (by decide)) ?_
  refine x_callVI (st := []) M_K_listSame [.ref 10, .ref 17] d_K_areAlike_16 ml_7_46 cv_K_listSame rfl rfl (Nf_58 (by decide)) rfl (Nat.le_of_ble_eq_true rfl) ⟨Nat.le_of_ble_eq_true rfl, Nat.le_of_ble_eq_true rfl⟩ ⟨rfl, rfl⟩ h (fun r4 w3 h => ?_)
  refine x_iload_n 3 d_K_areAlike_19 rfl ?_
  refine x_icmp_eq 25 d_K_areAlike_20 (by decide) (fun c0 => ?_) (fun c0 => ?_)
  · have h := h.1 c0
    refine x_iconst (v := 0) d_K_areAlike_25 (by decide) ?_
    refine x_istore (L' := [(0, .ref 14), (1, .ref 10), (2, .ref p1), (3, .int r2), (4, .int 0)]) [1, 2, 3, 4, 0] d_K_areAlike_26 (by decide) rfl ?_
    exact x_perm [0, 1, 3, 4] rfl h
  · have h := h.2 c0
    refine x_iconst (v := 0) d_K_areAlike_23 (by decide) ?_
    exact x_retZ (z := false) d_K_areAlike_24 rfl rfl ⟨rfl, rfl⟩ h
set_option maxHeartbeats 1000000 in
theorem w_K_areAlike_28 {p1 : Nat} (hk1 : kd p1 = .inl (1, 6)) (hp1 : p1 < Nf 1) {x3 x4 : Int32} {w : Wd} {K : Bool → Wd → Prop} (h : ((w.1 1 5) ≤ x4 → K false w) ∧ (¬ (w.1 1 5) ≤ x4 → RunV 1 M_G_fillAutomorphism [.ref 1, .int x4, .ref 15] w (fun w1 => RunI 1 M_K_listImage [.ref 14, .ref 10, .ref 17] w1 (fun r3 w2 => RunI 1 M_K_compareLists [.ref 17, .ref 16, .int x3] w2 (fun r5 w4 => (¬ r5 = 0 → ∀ a6 : Int32, a6 = x4 + 1 → E 1 M_K_areAlike 28 [(0, .ref 14), (1, .ref 10), (3, .int x3), (4, .int a6)] [] w4 (qZ 1 K)) ∧ (r5 = 0 → K true w4)))))) : E 1 M_K_areAlike 28 [(0, .ref 14), (1, .ref 10), (3, .int x3), (4, .int x4)] [] w (qZ 1 K) := by
  refine x_iload 3 d_K_areAlike_28 rfl ?_
  refine x_aload_n 0 d_K_areAlike_30 rfl ?_
  refine x_getR 7 0 1 d_K_areAlike_31 fg_7_25 rfl rfl rfl (Nf_58 (by decide)) ?_
  refine x_getI 5 5 d_K_areAlike_34 fg_7_69 rfl rfl (Nf_58 (by decide)) ?_
  refine x_icmp_ge 86 d_K_areAlike_37 (by decide) (fun c0 => ?_) (fun c0 => ?_)
  · have h := h.1 c0
    refine x_iconst (v := 0) d_K_areAlike_86 (by decide) ?_
    exact x_retZ (z := false) d_K_areAlike_87 rfl rfl ⟨rfl, rfl⟩ h
  · have h := h.2 c0
    refine x_aload_n 0 d_K_areAlike_40 rfl ?_
    refine x_getR 7 0 1 d_K_areAlike_41 fg_7_25 rfl rfl rfl (Nf_58 (by decide)) ?_
    refine x_iload 3 d_K_areAlike_44 rfl ?_
    refine x_aload_n 0 d_K_areAlike_46 rfl ?_
    refine x_getR 7 1 15 d_K_areAlike_47 fg_7_9 rfl rfl rfl (Nf_58 (by decide)) ?_
    refine x_callVV (st := []) M_G_fillAutomorphism [.int x4, .ref 15] d_K_areAlike_50 ml_7_29 cv_G_fillAutomorphism rfl rfl (Nf_58 (by decide)) rfl (Nat.le_of_ble_eq_true rfl) ⟨Nat.le_of_ble_eq_true rfl, Nat.le_of_ble_eq_true rfl⟩ ⟨rfl, rfl⟩ h (fun w1 h => ?_)
    refine x_aload_n 0 d_K_areAlike_53 rfl ?_
    refine x_aload_n 1 d_K_areAlike_54 rfl ?_
    refine x_aload_n 0 d_K_areAlike_55 rfl ?_
    refine x_getR 7 3 17 d_K_areAlike_56 fg_7_19 rfl rfl rfl (Nf_58 (by decide)) ?_
    refine x_callVI (st := []) M_K_listImage [.ref 10, .ref 17] d_K_areAlike_59 ml_7_62 cv_K_listImage rfl rfl (Nf_58 (by decide)) rfl (Nat.le_of_ble_eq_true rfl) ⟨Nat.le_of_ble_eq_true rfl, Nat.le_of_ble_eq_true rfl⟩ ⟨rfl, rfl⟩ h (fun r3 w2 h => ?_)
    refine x_pop d_K_areAlike_62 rfl ?_
    refine x_aload_n 0 d_K_areAlike_63 rfl ?_
    refine x_getR 7 3 17 d_K_areAlike_64 fg_7_19 rfl rfl rfl (Nf_58 (by decide)) ?_
    refine x_aload_n 0 d_K_areAlike_67 rfl ?_
    refine x_getR 7 2 16 d_K_areAlike_68 fg_7_15 rfl rfl rfl (Nf_58 (by decide)) ?_
    refine x_iload_n 2 d_K_areAlike_71 rfl ?_
    refine x_callSI (st := []) M_K_compareLists [.ref 17, .ref 16, .int x3] d_K_areAlike_72 ml_7_65 cv_K_compareLists rfl (Nat.le_of_ble_eq_true rfl) ⟨Nat.le_of_ble_eq_true rfl, Nat.le_of_ble_eq_true rfl⟩ ⟨rfl, rfl⟩ h (fun r5 w4 h => ?_)
    refine x_if_ne 80 d_K_areAlike_75 (by decide) (fun c0 => ?_) (fun c0 => ?_)
    · have h := h.1 c0
      obtain ⟨a6, ea6⟩ : ∃ z : Int32, z = x4 + 1 := ⟨_, rfl⟩
      have h := h a6 ea6
      refine x_iincE (L' := [(0, .ref 14), (1, .ref 10), (3, .int x3), (4, .int a6)]) 3 [1, 2, 3, 0] d_K_areAlike_80 rfl ea6 (by decide) rfl ?_
      refine x_goto 28 d_K_areAlike_83 (by decide) ?_
      exact h
    · have h := h.2 c0
      refine x_iconst (v := 1) d_K_areAlike_78 (by decide) ?_
      exact x_retZ (z := true) d_K_areAlike_79 rfl rfl ⟨rfl, rfl⟩ h
set_option maxHeartbeats 1000000 in
theorem r_A_isEquivalent {x1 : Int32} {w : Wd} {K : Int32 → Wd → Prop} (h : RunZ 1 M_A_isSlot [.int x1] w (fun z2 w1 => (z2 = true → RunP 1 M_A_slotAt [.ref 0, .int x1] w1 (fun p4 w3 => (p4 = 35 ∨ p4 = 37) ∧ (p4 = 35 → (¬ (w3.1 35 2) = 0 → RunP 1 M_A_slotAt [.ref 0, .int x1] w3 (fun p6 w5 => (p6 = 35 ∨ p6 = 37) ∧ (p6 = 35 → RunZ 1 M_K_areAlike [.ref 14, .ref 10, .ref 36] w5 (fun z8 w7 => (z8 = false → K 0 w7) ∧ (z8 = true → K 1 w7))) ∧ (p6 = 37 → RunZ 1 M_K_areAlike [.ref 14, .ref 10, .ref 38] w5 (fun z10 w9 => (z10 = false → K 0 w9) ∧ (z10 = true → K 1 w9))))) ∧ ((w3.1 35 2) = 0 → K ((-3)) w3)) ∧ (p4 = 37 → (¬ (w3.1 37 2) = 0 → RunP 1 M_A_slotAt [.ref 0, .int x1] w3 (fun p12 w11 => (p12 = 35 ∨ p12 = 37) ∧ (p12 = 35 → RunZ 1 M_K_areAlike [.ref 14, .ref 10, .ref 36] w11 (fun z14 w13 => (z14 = false → K 0 w13) ∧ (z14 = true → K 1 w13))) ∧ (p12 = 37 → RunZ 1 M_K_areAlike [.ref 14, .ref 10, .ref 38] w11 (fun z16 w15 => (z16 = false → K 0 w15) ∧ (z16 = true → K 1 w15))))) ∧ ((w3.1 37 2) = 0 → K ((-3)) w3)))) ∧ (z2 = false → K ((-1)) w1))) : RunI 1 M_A_isEquivalent [.ref 0, .int x1] w K := by
  refine runs_of (L := [(0, .ref 0), (1, .int x1)]) rfl (Nat.le_of_ble_eq_true rfl) rfl ?_
  refine x_iload_n 1 d_A_isEquivalent_0 rfl ?_
  refine x_callSZ (st := []) M_A_isSlot [.int x1] d_A_isEquivalent_1 ml_10_251 cv_A_isSlot rfl (Nat.le_of_ble_eq_true rfl) ⟨Nat.le_of_ble_eq_true rfl, Nat.le_of_ble_eq_true rfl⟩ ⟨rfl, rfl⟩ h (fun z2 w1 h => ?_)
  refine x_zif_ne 9 d_A_isEquivalent_4 (by decide) (fun c0 => ?_) (fun c0 => ?_)
  · have h := h.1 c0
    refine x_aload_n 0 d_A_isEquivalent_9 rfl ?_
    refine x_iload_n 1 d_A_isEquivalent_10 rfl ?_
    refine x_callVP (st := []) M_A_slotAt [.int x1] d_A_isEquivalent_11 ml_10_254 cv_A_slotAt rfl rfl (Nf_58 (by decide)) rfl (Nat.le_of_ble_eq_true rfl) ⟨Nat.le_of_ble_eq_true rfl, Nat.le_of_ble_eq_true rfl⟩ ⟨rfl, rfl⟩ h (fun p4 w3 h => ?_)
    obtain ⟨ho, ha, hb⟩ := h
    rcases ho with rfl | rfl
    · have h := ha rfl
      refine x_getI 8 2 d_A_isEquivalent_14 fg_10_116 rfl rfl (Nf_58 (by decide)) ?_
      refine x_if_ne 23 d_A_isEquivalent_17 (by decide) (fun c0 => ?_) (fun c0 => ?_)
      · have h := h.1 c0
        refine x_aload_n 0 d_A_isEquivalent_23 rfl ?_
        refine x_getR 10 5 14 d_A_isEquivalent_24 fg_10_52 rfl rfl rfl (Nf_58 (by decide)) ?_
        refine x_aload_n 0 d_A_isEquivalent_27 rfl ?_
        refine x_getR 10 1 10 d_A_isEquivalent_28 fg_10_25 rfl rfl rfl (Nf_58 (by decide)) ?_
        refine x_aload_n 0 d_A_isEquivalent_31 rfl ?_
        refine x_iload_n 1 d_A_isEquivalent_32 rfl ?_
        refine x_callVP (st := [.ref 10, .ref 14]) M_A_slotAt [.int x1] d_A_isEquivalent_33 ml_10_254 cv_A_slotAt rfl rfl (Nf_58 (by decide)) rfl (Nat.le_of_ble_eq_true rfl) ⟨Nat.le_of_ble_eq_true rfl, Nat.le_of_ble_eq_true rfl⟩ ⟨rfl, rfl⟩ h (fun p6 w5 h => ?_)
        obtain ⟨ho, ha, hb⟩ := h
        rcases ho with rfl | rfl
        · have h := ha rfl
          refine x_getR 8 0 36 d_A_isEquivalent_36 fg_10_258 rfl rfl rfl (Nf_58 (by decide)) ?_
          refine x_callVZ (st := []) M_K_areAlike [.ref 10, .ref 36] d_A_isEquivalent_39 ml_10_261 cv_K_areAlike rfl rfl (Nf_58 (by decide)) rfl (Nat.le_of_ble_eq_true rfl) ⟨Nat.le_of_ble_eq_true rfl, Nat.le_of_ble_eq_true rfl⟩ ⟨rfl, rfl⟩ h (fun z8 w7 h => ?_)
          refine x_zif_eq 49 d_A_isEquivalent_42 (by decide) (fun c0 => ?_) (fun c0 => ?_)
          · have h := h.1 c0
            refine x_iconst (v := 0) d_A_isEquivalent_49 (by decide) ?_
            exact x_retI d_A_isEquivalent_50 rfl ⟨rfl, rfl⟩ h
          · have h := h.2 c0
            refine x_iconst (v := 1) d_A_isEquivalent_45 (by decide) ?_
            refine x_goto 50 d_A_isEquivalent_46 (by decide) ?_
            exact x_retI d_A_isEquivalent_50 rfl ⟨rfl, rfl⟩ h
        · have h := hb rfl
          refine x_getR 8 0 38 d_A_isEquivalent_36 fg_10_258 rfl rfl rfl (Nf_58 (by decide)) ?_
          refine x_callVZ (st := []) M_K_areAlike [.ref 10, .ref 38] d_A_isEquivalent_39 ml_10_261 cv_K_areAlike rfl rfl (Nf_58 (by decide)) rfl (Nat.le_of_ble_eq_true rfl) ⟨Nat.le_of_ble_eq_true rfl, Nat.le_of_ble_eq_true rfl⟩ ⟨rfl, rfl⟩ h (fun z10 w9 h => ?_)
          refine x_zif_eq 49 d_A_isEquivalent_42 (by decide) (fun c0 => ?_) (fun c0 => ?_)
          · have h := h.1 c0
            refine x_iconst (v := 0) d_A_isEquivalent_49 (by decide) ?_
            exact x_retI d_A_isEquivalent_50 rfl ⟨rfl, rfl⟩ h
          · have h := h.2 c0
            refine x_iconst (v := 1) d_A_isEquivalent_45 (by decide) ?_
            refine x_goto 50 d_A_isEquivalent_46 (by decide) ?_
            exact x_retI d_A_isEquivalent_50 rfl ⟨rfl, rfl⟩ h
      · have h := h.2 c0
        refine x_bipush (v := (-3)) d_A_isEquivalent_20 (by decide) ?_
        exact x_retI d_A_isEquivalent_22 rfl ⟨rfl, rfl⟩ h
    · have h := hb rfl
      refine x_getI 8 2 d_A_isEquivalent_14 fg_10_116 rfl rfl (Nf_58 (by decide)) ?_
      refine x_if_ne 23 d_A_isEquivalent_17 (by decide) (fun c0 => ?_) (fun c0 => ?_)
      · have h := h.1 c0
        refine x_aload_n 0 d_A_isEquivalent_23 rfl ?_
        refine x_getR 10 5 14 d_A_isEquivalent_24 fg_10_52 rfl rfl rfl (Nf_58 (by decide)) ?_
        refine x_aload_n 0 d_A_isEquivalent_27 rfl ?_
        refine x_getR 10 1 10 d_A_isEquivalent_28 fg_10_25 rfl rfl rfl (Nf_58 (by decide)) ?_
        refine x_aload_n 0 d_A_isEquivalent_31 rfl ?_
        refine x_iload_n 1 d_A_isEquivalent_32 rfl ?_
        refine x_callVP (st := [.ref 10, .ref 14]) M_A_slotAt [.int x1] d_A_isEquivalent_33 ml_10_254 cv_A_slotAt rfl rfl (Nf_58 (by decide)) rfl (Nat.le_of_ble_eq_true rfl) ⟨Nat.le_of_ble_eq_true rfl, Nat.le_of_ble_eq_true rfl⟩ ⟨rfl, rfl⟩ h (fun p12 w11 h => ?_)
        obtain ⟨ho, ha, hb⟩ := h
        rcases ho with rfl | rfl
        · have h := ha rfl
          refine x_getR 8 0 36 d_A_isEquivalent_36 fg_10_258 rfl rfl rfl (Nf_58 (by decide)) ?_
          refine x_callVZ (st := []) M_K_areAlike [.ref 10, .ref 36] d_A_isEquivalent_39 ml_10_261 cv_K_areAlike rfl rfl (Nf_58 (by decide)) rfl (Nat.le_of_ble_eq_true rfl) ⟨Nat.le_of_ble_eq_true rfl, Nat.le_of_ble_eq_true rfl⟩ ⟨rfl, rfl⟩ h (fun z14 w13 h => ?_)
          refine x_zif_eq 49 d_A_isEquivalent_42 (by decide) (fun c0 => ?_) (fun c0 => ?_)
          · have h := h.1 c0
            refine x_iconst (v := 0) d_A_isEquivalent_49 (by decide) ?_
            exact x_retI d_A_isEquivalent_50 rfl ⟨rfl, rfl⟩ h
          · have h := h.2 c0
            refine x_iconst (v := 1) d_A_isEquivalent_45 (by decide) ?_
            refine x_goto 50 d_A_isEquivalent_46 (by decide) ?_
            exact x_retI d_A_isEquivalent_50 rfl ⟨rfl, rfl⟩ h
        · have h := hb rfl
          refine x_getR 8 0 38 d_A_isEquivalent_36 fg_10_258 rfl rfl rfl (Nf_58 (by decide)) ?_
          refine x_callVZ (st := []) M_K_areAlike [.ref 10, .ref 38] d_A_isEquivalent_39 ml_10_261 cv_K_areAlike rfl rfl (Nf_58 (by decide)) rfl (Nat.le_of_ble_eq_true rfl) ⟨Nat.le_of_ble_eq_true rfl, Nat.le_of_ble_eq_true rfl⟩ ⟨rfl, rfl⟩ h (fun z16 w15 h => ?_)
          refine x_zif_eq 49 d_A_isEquivalent_42 (by decide) (fun c0 => ?_) (fun c0 => ?_)
          · have h := h.1 c0
            refine x_iconst (v := 0) d_A_isEquivalent_49 (by decide) ?_
            exact x_retI d_A_isEquivalent_50 rfl ⟨rfl, rfl⟩ h
          · have h := h.2 c0
            refine x_iconst (v := 1) d_A_isEquivalent_45 (by decide) ?_
            refine x_goto 50 d_A_isEquivalent_46 (by decide) ?_
            exact x_retI d_A_isEquivalent_50 rfl ⟨rfl, rfl⟩ h
      · have h := h.2 c0
        refine x_bipush (v := (-3)) d_A_isEquivalent_20 (by decide) ?_
        exact x_retI d_A_isEquivalent_22 rfl ⟨rfl, rfl⟩ h
  · have h := h.2 c0
    refine x_iconst (v := (-1)) d_A_isEquivalent_7 (by decide) ?_
    exact x_retI d_A_isEquivalent_8 rfl ⟨rfl, rfl⟩ h
set_option maxHeartbeats 1000000 in
theorem r_K_isKeptByFactor {x2 : Int32} {w : Wd} {K : Bool → Wd → Prop} (h : RunI 1 M_K_listSame [.ref 14, .ref 10, .ref 16] w (fun r2 w1 => RunZ 1 M_G_isCoprime [.ref 1, .int x2] w1 (fun z4 w3 => (z4 = false → K false w3) ∧ (z4 = true → RunZ 1 M_K_isOwnByFactor [.ref 14, .ref 10, .int x2, .int r2] w3 (fun z6 w5 => (z6 = false → K false w5) ∧ (z6 = true → K true w5)))))) : RunZ 1 M_K_isKeptByFactor [.ref 14, .ref 10, .int x2] w K := by
  refine runs_of (L := [(0, .ref 14), (1, .ref 10), (2, .int x2)]) rfl (Nat.le_of_ble_eq_true rfl) rfl ?_
  refine x_aload_n 0 d_K_isKeptByFactor_0 rfl ?_
  refine x_aload_n 1 d_K_isKeptByFactor_1 rfl ?_
  refine x_aload_n 0 d_K_isKeptByFactor_2 rfl ?_
  refine x_getR 7 2 16 d_K_isKeptByFactor_3 fg_7_15 rfl rfl rfl (Nf_58 (by decide)) ?_
  refine x_callVI (st := []) M_K_listSame [.ref 10, .ref 16] d_K_isKeptByFactor_6 ml_7_46 cv_K_listSame rfl rfl (Nf_58 (by decide)) rfl (Nat.le_of_ble_eq_true rfl) ⟨Nat.le_of_ble_eq_true rfl, Nat.le_of_ble_eq_true rfl⟩ ⟨rfl, rfl⟩ h (fun r2 w1 h => ?_)
  refine x_istore_n (L' := [(0, .ref 14), (1, .ref 10), (2, .int x2), (3, .int r2)]) [1, 2, 3, 0] d_K_isKeptByFactor_9 (by decide) rfl ?_
  refine x_aload_n 0 d_K_isKeptByFactor_10 rfl ?_
  refine x_getR 7 0 1 d_K_isKeptByFactor_11 fg_7_25 rfl rfl rfl (Nf_58 (by decide)) ?_
  refine x_iload_n 2 d_K_isKeptByFactor_14 rfl ?_
  refine x_callVZ (st := []) M_G_isCoprime [.int x2] d_K_isKeptByFactor_15 ml_7_50 cv_G_isCoprime rfl rfl (Nf_58 (by decide)) rfl (Nat.le_of_ble_eq_true rfl) ⟨Nat.le_of_ble_eq_true rfl, Nat.le_of_ble_eq_true rfl⟩ ⟨rfl, rfl⟩ h (fun z4 w3 h => ?_)
  refine x_zif_eq 35 d_K_isKeptByFactor_18 (by decide) (fun c0 => ?_) (fun c0 => ?_)
  · have h := h.1 c0
    refine x_iconst (v := 0) d_K_isKeptByFactor_35 (by decide) ?_
    exact x_retZ (z := false) d_K_isKeptByFactor_36 rfl rfl ⟨rfl, rfl⟩ h
  · have h := h.2 c0
    refine x_aload_n 0 d_K_isKeptByFactor_21 rfl ?_
    refine x_aload_n 1 d_K_isKeptByFactor_22 rfl ?_
    refine x_iload_n 2 d_K_isKeptByFactor_23 rfl ?_
    refine x_iload_n 3 d_K_isKeptByFactor_24 rfl ?_
    refine x_callVZ (st := []) M_K_isOwnByFactor [.ref 10, .int x2, .int r2] d_K_isKeptByFactor_25 ml_7_54 cv_K_isOwnByFactor rfl rfl (Nf_58 (by decide)) rfl (Nat.le_of_ble_eq_true rfl) ⟨Nat.le_of_ble_eq_true rfl, Nat.le_of_ble_eq_true rfl⟩ ⟨rfl, rfl⟩ h (fun z6 w5 h => ?_)
    refine x_zif_eq 35 d_K_isKeptByFactor_28 (by decide) (fun c0 => ?_) (fun c0 => ?_)
    · have h := h.1 c0
      refine x_iconst (v := 0) d_K_isKeptByFactor_35 (by decide) ?_
      exact x_retZ (z := false) d_K_isKeptByFactor_36 rfl rfl ⟨rfl, rfl⟩ h
    · have h := h.2 c0
      refine x_iconst (v := 1) d_K_isKeptByFactor_31 (by decide) ?_
      refine x_goto 36 d_K_isKeptByFactor_32 (by decide) ?_
      exact x_retZ (z := true) d_K_isKeptByFactor_36 rfl rfl ⟨rfl, rfl⟩ h
set_option maxHeartbeats 1000000 in
theorem r_A_isMultiplier {x1 : Int32} {w : Wd} {K : Int32 → Wd → Prop} (h : RunZ 1 M_A_isWithin [.int x1, .int 1, .int ((w.1 1 2) - 1)] w (fun z2 w1 => (z2 = true → RunZ 1 M_K_isKeptByFactor [.ref 14, .ref 10, .int x1] w1 (fun z4 w3 => (z4 = false → K 0 w3) ∧ (z4 = true → K 1 w3))) ∧ (z2 = false → K ((-1)) w1))) : RunI 1 M_A_isMultiplier [.ref 0, .int x1] w K := by
  refine runs_of (L := [(0, .ref 0), (1, .int x1)]) rfl (Nat.le_of_ble_eq_true rfl) rfl ?_
  refine x_iload_n 1 d_A_isMultiplier_0 rfl ?_
  refine x_iconst (v := 1) d_A_isMultiplier_1 (by decide) ?_
  refine x_aload_n 0 d_A_isMultiplier_2 rfl ?_
  refine x_getR 10 0 1 d_A_isMultiplier_3 fg_10_19 rfl rfl rfl (Nf_58 (by decide)) ?_
  refine x_getI 5 2 d_A_isMultiplier_6 fg_10_102 rfl rfl (Nf_58 (by decide)) ?_
  refine x_iconst (v := 1) d_A_isMultiplier_9 (by decide) ?_
  refine x_isub d_A_isMultiplier_10 ?_
  refine x_callSZ (st := []) M_A_isWithin [.int x1, .int 1, .int ((w.1 1 2) - 1)] d_A_isMultiplier_11 ml_10_128 cv_A_isWithin rfl (Nat.le_of_ble_eq_true rfl) ⟨Nat.le_of_ble_eq_true rfl, Nat.le_of_ble_eq_true rfl⟩ ⟨rfl, rfl⟩ h (fun z2 w1 h => ?_)
  refine x_zif_ne 19 d_A_isMultiplier_14 (by decide) (fun c0 => ?_) (fun c0 => ?_)
  · have h := h.1 c0
    refine x_aload_n 0 d_A_isMultiplier_19 rfl ?_
    refine x_getR 10 5 14 d_A_isMultiplier_20 fg_10_52 rfl rfl rfl (Nf_58 (by decide)) ?_
    refine x_aload_n 0 d_A_isMultiplier_23 rfl ?_
    refine x_getR 10 1 10 d_A_isMultiplier_24 fg_10_25 rfl rfl rfl (Nf_58 (by decide)) ?_
    refine x_iload_n 1 d_A_isMultiplier_27 rfl ?_
    refine x_callVZ (st := []) M_K_isKeptByFactor [.ref 10, .int x1] d_A_isMultiplier_28 ml_10_233 cv_K_isKeptByFactor rfl rfl (Nf_58 (by decide)) rfl (Nat.le_of_ble_eq_true rfl) ⟨Nat.le_of_ble_eq_true rfl, Nat.le_of_ble_eq_true rfl⟩ ⟨rfl, rfl⟩ h (fun z4 w3 h => ?_)
    refine x_zif_eq 38 d_A_isMultiplier_31 (by decide) (fun c0 => ?_) (fun c0 => ?_)
    · have h := h.1 c0
      refine x_iconst (v := 0) d_A_isMultiplier_38 (by decide) ?_
      exact x_retI d_A_isMultiplier_39 rfl ⟨rfl, rfl⟩ h
    · have h := h.2 c0
      refine x_iconst (v := 1) d_A_isMultiplier_34 (by decide) ?_
      refine x_goto 39 d_A_isMultiplier_35 (by decide) ?_
      exact x_retI d_A_isMultiplier_39 rfl ⟨rfl, rfl⟩ h
  · have h := h.2 c0
    refine x_iconst (v := (-1)) d_A_isMultiplier_17 (by decide) ?_
    exact x_retI d_A_isMultiplier_18 rfl ⟨rfl, rfl⟩ h
set_option maxHeartbeats 1000000 in
theorem r_S_fill {ps qs : Nat} (hks : kd ps = .inr 8) (hps : ps < Nf 1) (hrs : Rf 1 ps 0 = some qs) (hkq : kd qs = .inl (1, 6)) (hqs : qs < Nf 1) {y2 : Int64} {w : Wd} {K : Wd → Prop} (h : ((¬ (0 : Int32) < 0) ∧ (¬ (0 : Int32) < 0) ∧ (¬ (6 : Int32) < 0) ∧ (0 : Int32).toNatClampNeg + (6 : Int32).toNatClampNeg ≤ 6 ∧ (0 : Int32).toNatClampNeg + (6 : Int32).toNatClampNeg ≤ 6) ∧ ∀ w1 : Wd, w1 = cpL w 10 qs (0 : Int32).toNatClampNeg (0 : Int32).toNatClampNeg (6 : Int32).toNatClampNeg → ∀ w2 : Wd, w2 = upL w1 ps 1 y2 → ∀ w3 : Wd, w3 = upI w2 ps 2 1 → K w3) : RunV 1 M_S_fill [.ref ps, .ref 10, .long y2] w K := by
  refine runs_of (L := [(0, .ref ps), (1, .ref 10), (2, .long y2)]) rfl (Nat.le_of_ble_eq_true rfl) rfl ?_
  refine x_aload_n 1 d_S_fill_0 rfl ?_
  refine x_iconst (v := 0) d_S_fill_1 (by decide) ?_
  refine x_aload_n 0 d_S_fill_2 rfl ?_
  refine x_getR 8 0 qs d_S_fill_3 fg_8_9 hks rfl hrs hps ?_
  refine x_iconst (v := 0) d_S_fill_6 (by decide) ?_
  refine x_bipush (v := 6) d_S_fill_7 (by decide) ?_
  obtain ⟨h0, h⟩ := h
  refine x_copyE d_S_fill_9 cp_8_15 rfl hkq (Nf_58 (by decide)) hqs h0 (Nat.le_of_ble_eq_true rfl) ⟨Nat.le_of_ble_eq_true rfl, Nat.le_of_ble_eq_true rfl⟩ (fun w1 ew1 => ?_)
  have h := h w1 ew1
  refine x_aload_n 0 d_S_fill_12 rfl ?_
  refine x_lload_n 2 d_S_fill_13 rfl ?_
  refine x_putLE 8 1 d_S_fill_14 fp_8_21 hks rfl hps (fun w2 ew2 => ?_)
  have h := h w2 ew2
  refine x_aload_n 0 d_S_fill_17 rfl ?_
  refine x_iconst (v := 1) d_S_fill_18 (by decide) ?_
  refine x_putZE 8 2 d_S_fill_19 fp_8_25 hks rfl hps (by decide) (fun w3 ew3 => ?_)
  have h := h w3 ew3
  exact x_retV d_S_fill_22 rfl ⟨rfl, rfl⟩ h
set_option maxHeartbeats 1000000 in
theorem r_A_keep {x1 : Int32} {w : Wd} {K : Int32 → Wd → Prop} (h : RunZ 1 M_A_isSlot [.int x1] w (fun z2 w1 => (z2 = true → RunP 1 M_A_slotAt [.ref 0, .int x1] w1 (fun p4 w3 => (p4 = 35 ∨ p4 = 37) ∧ (p4 = 35 → RunV 1 M_S_fill [.ref 35, .ref 10, .long (w3.2 0 12)] w3 (fun w5 => RunI 1 M_A_filledBlocks [.ref 0] w5 (fun r7 w6 => K r7 w6))) ∧ (p4 = 37 → RunV 1 M_S_fill [.ref 37, .ref 10, .long (w3.2 0 12)] w3 (fun w8 => RunI 1 M_A_filledBlocks [.ref 0] w8 (fun r10 w9 => K r10 w9))))) ∧ (z2 = false → K ((-1)) w1))) : RunI 1 M_A_keep [.ref 0, .int x1] w K := by
  refine runs_of (L := [(0, .ref 0), (1, .int x1)]) rfl (Nat.le_of_ble_eq_true rfl) rfl ?_
  refine x_iload_n 1 d_A_keep_0 rfl ?_
  refine x_callSZ (st := []) M_A_isSlot [.int x1] d_A_keep_1 ml_10_251 cv_A_isSlot rfl (Nat.le_of_ble_eq_true rfl) ⟨Nat.le_of_ble_eq_true rfl, Nat.le_of_ble_eq_true rfl⟩ ⟨rfl, rfl⟩ h (fun z2 w1 h => ?_)
  refine x_zif_ne 9 d_A_keep_4 (by decide) (fun c0 => ?_) (fun c0 => ?_)
  · have h := h.1 c0
    refine x_aload_n 0 d_A_keep_9 rfl ?_
    refine x_iload_n 1 d_A_keep_10 rfl ?_
    refine x_callVP (st := []) M_A_slotAt [.int x1] d_A_keep_11 ml_10_254 cv_A_slotAt rfl rfl (Nf_58 (by decide)) rfl (Nat.le_of_ble_eq_true rfl) ⟨Nat.le_of_ble_eq_true rfl, Nat.le_of_ble_eq_true rfl⟩ ⟨rfl, rfl⟩ h (fun p4 w3 h => ?_)
    obtain ⟨ho, ha, hb⟩ := h
    rcases ho with rfl | rfl
    · have h := ha rfl
      refine x_aload_n 0 d_A_keep_14 rfl ?_
      refine x_getR 10 1 10 d_A_keep_15 fg_10_25 rfl rfl rfl (Nf_58 (by decide)) ?_
      refine x_aload_n 0 d_A_keep_18 rfl ?_
      refine x_getL 10 12 d_A_keep_19 fg_10_94 rfl rfl (Nf_58 (by decide)) ?_
      refine x_callVV (st := []) M_S_fill [.ref 10, .long (w3.2 0 12)] d_A_keep_22 ml_10_334 cv_S_fill rfl rfl (Nf_58 (by decide)) rfl (Nat.le_of_ble_eq_true rfl) ⟨Nat.le_of_ble_eq_true rfl, Nat.le_of_ble_eq_true rfl⟩ ⟨rfl, rfl⟩ h (fun w5 h => ?_)
      refine x_aload_n 0 d_A_keep_25 rfl ?_
      refine x_callVI (st := []) M_A_filledBlocks [] d_A_keep_26 ml_10_314 cv_A_filledBlocks rfl rfl (Nf_58 (by decide)) rfl (Nat.le_of_ble_eq_true rfl) ⟨Nat.le_of_ble_eq_true rfl, Nat.le_of_ble_eq_true rfl⟩ ⟨rfl, rfl⟩ h (fun r7 w6 h => ?_)
      exact x_retI d_A_keep_29 rfl ⟨rfl, rfl⟩ h
    · have h := hb rfl
      refine x_aload_n 0 d_A_keep_14 rfl ?_
      refine x_getR 10 1 10 d_A_keep_15 fg_10_25 rfl rfl rfl (Nf_58 (by decide)) ?_
      refine x_aload_n 0 d_A_keep_18 rfl ?_
      refine x_getL 10 12 d_A_keep_19 fg_10_94 rfl rfl (Nf_58 (by decide)) ?_
      refine x_callVV (st := []) M_S_fill [.ref 10, .long (w3.2 0 12)] d_A_keep_22 ml_10_334 cv_S_fill rfl rfl (Nf_58 (by decide)) rfl (Nat.le_of_ble_eq_true rfl) ⟨Nat.le_of_ble_eq_true rfl, Nat.le_of_ble_eq_true rfl⟩ ⟨rfl, rfl⟩ h (fun w8 h => ?_)
      refine x_aload_n 0 d_A_keep_25 rfl ?_
      refine x_callVI (st := []) M_A_filledBlocks [] d_A_keep_26 ml_10_314 cv_A_filledBlocks rfl rfl (Nf_58 (by decide)) rfl (Nat.le_of_ble_eq_true rfl) ⟨Nat.le_of_ble_eq_true rfl, Nat.le_of_ble_eq_true rfl⟩ ⟨rfl, rfl⟩ h (fun r10 w9 h => ?_)
      exact x_retI d_A_keep_29 rfl ⟨rfl, rfl⟩ h
  · have h := h.2 c0
    refine x_iconst (v := (-1)) d_A_keep_7 (by decide) ?_
    exact x_retI d_A_keep_8 rfl ⟨rfl, rfl⟩ h
set_option maxHeartbeats 1000000 in
theorem r_A_multiple {x1 x2 : Int32} {w : Wd} {K : Int32 → Wd → Prop} (h : RunZ 1 M_A_isElement [.ref 0, .int x1] w (fun z2 w1 => (z2 = false → K ((-1)) w1) ∧ (z2 = true → RunZ 1 M_A_isWithin [.int x2, .int 0, .int 1000] w1 (fun z4 w3 => (z4 = true → RunI 1 M_G_times [.ref 1, .int x1, .int x2] w3 (fun r6 w5 => K r6 w5)) ∧ (z4 = false → K ((-1)) w3))))) : RunI 1 M_A_multiple [.ref 0, .int x1, .int x2] w K := by
  refine runs_of (L := [(0, .ref 0), (1, .int x1), (2, .int x2)]) rfl (Nat.le_of_ble_eq_true rfl) rfl ?_
  refine x_aload_n 0 d_A_multiple_0 rfl ?_
  refine x_iload_n 1 d_A_multiple_1 rfl ?_
  refine x_callVZ (st := []) M_A_isElement [.int x1] d_A_multiple_2 ml_10_120 cv_A_isElement rfl rfl (Nf_58 (by decide)) rfl (Nat.le_of_ble_eq_true rfl) ⟨Nat.le_of_ble_eq_true rfl, Nat.le_of_ble_eq_true rfl⟩ ⟨rfl, rfl⟩ h (fun z2 w1 h => ?_)
  refine x_zif_eq 19 d_A_multiple_5 (by decide) (fun c0 => ?_) (fun c0 => ?_)
  · have h := h.1 c0
    refine x_iconst (v := (-1)) d_A_multiple_19 (by decide) ?_
    exact x_retI d_A_multiple_20 rfl ⟨rfl, rfl⟩ h
  · have h := h.2 c0
    refine x_iload_n 2 d_A_multiple_8 rfl ?_
    refine x_iconst (v := 0) d_A_multiple_9 (by decide) ?_
    refine x_sipush (v := 1000) d_A_multiple_10 (by decide) ?_
    refine x_callSZ (st := []) M_A_isWithin [.int x2, .int 0, .int 1000] d_A_multiple_13 ml_10_128 cv_A_isWithin rfl (Nat.le_of_ble_eq_true rfl) ⟨Nat.le_of_ble_eq_true rfl, Nat.le_of_ble_eq_true rfl⟩ ⟨rfl, rfl⟩ h (fun z4 w3 h => ?_)
    refine x_zif_ne 21 d_A_multiple_16 (by decide) (fun c0 => ?_) (fun c0 => ?_)
    · have h := h.1 c0
      refine x_aload_n 0 d_A_multiple_21 rfl ?_
      refine x_getR 10 0 1 d_A_multiple_22 fg_10_19 rfl rfl rfl (Nf_58 (by decide)) ?_
      refine x_iload_n 1 d_A_multiple_25 rfl ?_
      refine x_iload_n 2 d_A_multiple_26 rfl ?_
      refine x_callVI (st := []) M_G_times [.int x1, .int x2] d_A_multiple_27 ml_10_132 cv_G_times rfl rfl (Nf_58 (by decide)) rfl (Nat.le_of_ble_eq_true rfl) ⟨Nat.le_of_ble_eq_true rfl, Nat.le_of_ble_eq_true rfl⟩ ⟨rfl, rfl⟩ h (fun r6 w5 h => ?_)
      exact x_retI d_A_multiple_30 rfl ⟨rfl, rfl⟩ h
    · have h := h.2 c0
      refine x_iconst (v := (-1)) d_A_multiple_19 (by decide) ?_
      exact x_retI d_A_multiple_20 rfl ⟨rfl, rfl⟩ h
set_option maxHeartbeats 1000000 in
theorem r_K_mapByFactor {x2 : Int32} {w : Wd} {K : Int32 → Wd → Prop} (h : RunV 1 M_G_fillMultiples [.ref 1, .int x2, .ref 15] w (fun w1 => RunI 1 M_K_mapAll [.ref 14, .ref 10] w1 (fun r3 w2 => K r3 w2))) : RunI 1 M_K_mapByFactor [.ref 14, .ref 10, .int x2] w K := by
  refine runs_of (L := [(0, .ref 14), (1, .ref 10), (2, .int x2)]) rfl (Nat.le_of_ble_eq_true rfl) rfl ?_
  refine x_aload_n 0 d_K_mapByFactor_0 rfl ?_
  refine x_getR 7 0 1 d_K_mapByFactor_1 fg_7_25 rfl rfl rfl (Nf_58 (by decide)) ?_
  refine x_iload_n 2 d_K_mapByFactor_4 rfl ?_
  refine x_aload_n 0 d_K_mapByFactor_5 rfl ?_
  refine x_getR 7 1 15 d_K_mapByFactor_6 fg_7_9 rfl rfl rfl (Nf_58 (by decide)) ?_
  refine x_callVV (st := []) M_G_fillMultiples [.int x2, .ref 15] d_K_mapByFactor_9 ml_7_39 cv_G_fillMultiples rfl rfl (Nf_58 (by decide)) rfl (Nat.le_of_ble_eq_true rfl) ⟨Nat.le_of_ble_eq_true rfl, Nat.le_of_ble_eq_true rfl⟩ ⟨rfl, rfl⟩ h (fun w1 h => ?_)
  refine x_aload_n 0 d_K_mapByFactor_12 rfl ?_
  refine x_aload_n 1 d_K_mapByFactor_13 rfl ?_
  refine x_callVI (st := []) M_K_mapAll [.ref 10] d_K_mapByFactor_14 ml_7_35 cv_K_mapAll rfl rfl (Nf_58 (by decide)) rfl (Nat.le_of_ble_eq_true rfl) ⟨Nat.le_of_ble_eq_true rfl, Nat.le_of_ble_eq_true rfl⟩ ⟨rfl, rfl⟩ h (fun r3 w2 h => ?_)
  exact x_retI d_K_mapByFactor_17 rfl ⟨rfl, rfl⟩ h
set_option maxHeartbeats 1000000 in
theorem r_A_multiply {x1 : Int32} {w : Wd} {K : Int32 → Wd → Prop} (h : RunZ 1 M_A_isWithin [.int x1, .int 1, .int 1000] w (fun z2 w1 => (z2 = false → K ((-1)) w1) ∧ (z2 = true → RunZ 1 M_G_isCoprime [.ref 1, .int x1] w1 (fun z4 w3 => (z4 = true → RunV 1 M_H_note [.ref 11, .ref 10] w3 (fun w5 => RunI 1 M_K_mapByFactor [.ref 14, .ref 10, .int x1] w5 (fun r7 w6 => K r7 w6))) ∧ (z4 = false → K ((-1)) w3))))) : RunI 1 M_A_multiply [.ref 0, .int x1] w K := by
  refine runs_of (L := [(0, .ref 0), (1, .int x1)]) rfl (Nat.le_of_ble_eq_true rfl) rfl ?_
  refine x_iload_n 1 d_A_multiply_0 rfl ?_
  refine x_iconst (v := 1) d_A_multiply_1 (by decide) ?_
  refine x_sipush (v := 1000) d_A_multiply_2 (by decide) ?_
  refine x_callSZ (st := []) M_A_isWithin [.int x1, .int 1, .int 1000] d_A_multiply_5 ml_10_128 cv_A_isWithin rfl (Nat.le_of_ble_eq_true rfl) ⟨Nat.le_of_ble_eq_true rfl, Nat.le_of_ble_eq_true rfl⟩ ⟨rfl, rfl⟩ h (fun z2 w1 h => ?_)
  refine x_zif_eq 22 d_A_multiply_8 (by decide) (fun c0 => ?_) (fun c0 => ?_)
  · have h := h.1 c0
    refine x_iconst (v := (-1)) d_A_multiply_22 (by decide) ?_
    exact x_retI d_A_multiply_23 rfl ⟨rfl, rfl⟩ h
  · have h := h.2 c0
    refine x_aload_n 0 d_A_multiply_11 rfl ?_
    refine x_getR 10 0 1 d_A_multiply_12 fg_10_19 rfl rfl rfl (Nf_58 (by decide)) ?_
    refine x_iload_n 1 d_A_multiply_15 rfl ?_
    refine x_callVZ (st := []) M_G_isCoprime [.int x1] d_A_multiply_16 ml_10_179 cv_G_isCoprime rfl rfl (Nf_58 (by decide)) rfl (Nat.le_of_ble_eq_true rfl) ⟨Nat.le_of_ble_eq_true rfl, Nat.le_of_ble_eq_true rfl⟩ ⟨rfl, rfl⟩ h (fun z4 w3 h => ?_)
    refine x_zif_ne 24 d_A_multiply_19 (by decide) (fun c0 => ?_) (fun c0 => ?_)
    · have h := h.1 c0
      refine x_aload_n 0 d_A_multiply_24 rfl ?_
      refine x_getR 10 2 11 d_A_multiply_25 fg_10_32 rfl rfl rfl (Nf_58 (by decide)) ?_
      refine x_aload_n 0 d_A_multiply_28 rfl ?_
      refine x_getR 10 1 10 d_A_multiply_29 fg_10_25 rfl rfl rfl (Nf_58 (by decide)) ?_
      refine x_callVV (st := []) M_H_note [.ref 10] d_A_multiply_32 ml_10_165 cv_H_note rfl rfl (Nf_58 (by decide)) rfl (Nat.le_of_ble_eq_true rfl) ⟨Nat.le_of_ble_eq_true rfl, Nat.le_of_ble_eq_true rfl⟩ ⟨rfl, rfl⟩ h (fun w5 h => ?_)
      refine x_aload_n 0 d_A_multiply_35 rfl ?_
      refine x_getR 10 5 14 d_A_multiply_36 fg_10_52 rfl rfl rfl (Nf_58 (by decide)) ?_
      refine x_aload_n 0 d_A_multiply_39 rfl ?_
      refine x_getR 10 1 10 d_A_multiply_40 fg_10_25 rfl rfl rfl (Nf_58 (by decide)) ?_
      refine x_iload_n 1 d_A_multiply_43 rfl ?_
      refine x_callVI (st := []) M_K_mapByFactor [.ref 10, .int x1] d_A_multiply_44 ml_10_182 cv_K_mapByFactor rfl rfl (Nf_58 (by decide)) rfl (Nat.le_of_ble_eq_true rfl) ⟨Nat.le_of_ble_eq_true rfl, Nat.le_of_ble_eq_true rfl⟩ ⟨rfl, rfl⟩ h (fun r7 w6 h => ?_)
      exact x_retI d_A_multiply_47 rfl ⟨rfl, rfl⟩ h
    · have h := h.2 c0
      refine x_iconst (v := (-1)) d_A_multiply_22 (by decide) ?_
      exact x_retI d_A_multiply_23 rfl ⟨rfl, rfl⟩ h
set_option maxHeartbeats 1000000 in
theorem r_A_normal {x1 : Int32} {w : Wd} {K : Int64 → Wd → Prop} (h : RunZ 1 M_A_isBlock [.int x1] w (fun z2 w1 => (z2 = true → vp_in x1 6 ∧ (¬ (w1.2 10 x1.toNatClampNeg) = 0 → vp_in x1 6 ∧ RunL 1 M_G_leastTranslate [.ref 1, .long (w1.2 10 x1.toNatClampNeg)] w1 (fun r4 w3 => K r4 w3)) ∧ ((w1.2 10 x1.toNatClampNeg) = 0 → K ((-4)) w1)) ∧ (z2 = false → K ((-1)) w1))) : RunL 1 M_A_normal [.ref 0, .int x1] w K := by
  refine runs_of (L := [(0, .ref 0), (1, .int x1)]) rfl (Nat.le_of_ble_eq_true rfl) rfl ?_
  refine x_iload_n 1 d_A_normal_0 rfl ?_
  refine x_callSZ (st := []) M_A_isBlock [.int x1] d_A_normal_1 ml_10_158 cv_A_isBlock rfl (Nat.le_of_ble_eq_true rfl) ⟨Nat.le_of_ble_eq_true rfl, Nat.le_of_ble_eq_true rfl⟩ ⟨rfl, rfl⟩ h (fun z2 w1 h => ?_)
  refine x_zif_ne 11 d_A_normal_4 (by decide) (fun c0 => ?_) (fun c0 => ?_)
  · have h := h.1 c0
    refine x_aload_n 0 d_A_normal_11 rfl ?_
    refine x_getR 10 1 10 d_A_normal_12 fg_10_25 rfl rfl rfl (Nf_58 (by decide)) ?_
    refine x_iload_n 1 d_A_normal_15 rfl ?_
    obtain ⟨h0, h⟩ := h
    refine x_lald d_A_normal_16 rfl (Nf_58 (by decide)) h0 ?_
    refine x_lconst (v := 0) d_A_normal_17 (by decide) ?_
    refine x_lif_ne 28 d_A_normal_18 d_A_normal_19 (by decide) (fun c0 => ?_) (fun c0 => ?_)
    · have h := h.1 c0
      refine x_aload_n 0 d_A_normal_28 rfl ?_
      refine x_getR 10 0 1 d_A_normal_29 fg_10_19 rfl rfl rfl (Nf_58 (by decide)) ?_
      refine x_aload_n 0 d_A_normal_32 rfl ?_
      refine x_getR 10 1 10 d_A_normal_33 fg_10_25 rfl rfl rfl (Nf_58 (by decide)) ?_
      refine x_iload_n 1 d_A_normal_36 rfl ?_
      obtain ⟨h0, h⟩ := h
      refine x_lald d_A_normal_37 rfl (Nf_58 (by decide)) h0 ?_
      refine x_callVL (st := []) M_G_leastTranslate [.long (w1.2 10 x1.toNatClampNeg)] d_A_normal_38 ml_10_213 cv_G_leastTranslate rfl rfl (Nf_58 (by decide)) rfl (Nat.le_of_ble_eq_true rfl) ⟨Nat.le_of_ble_eq_true rfl, Nat.le_of_ble_eq_true rfl⟩ ⟨rfl, rfl⟩ h (fun r4 w3 h => ?_)
      exact x_retL d_A_normal_41 rfl ⟨rfl, rfl⟩ h
    · have h := h.2 c0
      refine x_ldc2 (v := (-4)) d_A_normal_22 mw_580 ?_
      refine x_goto 41 d_A_normal_25 (by decide) ?_
      exact x_retL d_A_normal_41 rfl ⟨rfl, rfl⟩ h
  · have h := h.2 c0
    refine x_ldc2 (v := (-1)) d_A_normal_7 mw_467 ?_
    exact x_retL d_A_normal_10 rfl ⟨rfl, rfl⟩ h
set_option maxHeartbeats 1000000 in
theorem r_A_orderOf {x1 : Int32} {w : Wd} {K : Int32 → Wd → Prop} (h : RunZ 1 M_A_isElement [.ref 0, .int x1] w (fun z2 w1 => (z2 = true → vp_in x1 40 ∧ K (w1.1 4 x1.toNatClampNeg) w1) ∧ (z2 = false → K ((-1)) w1))) : RunI 1 M_A_orderOf [.ref 0, .int x1] w K := by
  refine runs_of (L := [(0, .ref 0), (1, .int x1)]) rfl (Nat.le_of_ble_eq_true rfl) rfl ?_
  refine x_aload_n 0 d_A_orderOf_0 rfl ?_
  refine x_iload_n 1 d_A_orderOf_1 rfl ?_
  refine x_callVZ (st := []) M_A_isElement [.int x1] d_A_orderOf_2 ml_10_120 cv_A_isElement rfl rfl (Nf_58 (by decide)) rfl (Nat.le_of_ble_eq_true rfl) ⟨Nat.le_of_ble_eq_true rfl, Nat.le_of_ble_eq_true rfl⟩ ⟨rfl, rfl⟩ h (fun z2 w1 h => ?_)
  refine x_zif_ne 10 d_A_orderOf_5 (by decide) (fun c0 => ?_) (fun c0 => ?_)
  · have h := h.1 c0
    refine x_aload_n 0 d_A_orderOf_10 rfl ?_
    refine x_getR 10 0 1 d_A_orderOf_11 fg_10_19 rfl rfl rfl (Nf_58 (by decide)) ?_
    refine x_getR 5 8 4 d_A_orderOf_14 fg_10_135 rfl rfl rfl (Nf_58 (by decide)) ?_
    refine x_iload_n 1 d_A_orderOf_17 rfl ?_
    obtain ⟨h0, h⟩ := h
    refine x_iald d_A_orderOf_18 rfl (Nf_58 (by decide)) h0 ?_
    exact x_retI d_A_orderOf_19 rfl ⟨rfl, rfl⟩ h
  · have h := h.2 c0
    refine x_iconst (v := (-1)) d_A_orderOf_8 (by decide) ?_
    exact x_retI d_A_orderOf_9 rfl ⟨rfl, rfl⟩ h
set_option maxHeartbeats 1000000 in
theorem r_D_blocksWith {y1 : Int64} {w : Wd} {K : Int32 → Wd → Prop} (h : E 1 M_D_blocksWith 5 [(0, .ref 19), (1, .long y1), (3, .int 0), (4, .int 0)] [] w (qI 1 K)) : RunI 1 M_D_blocksWith [.ref 19, .long y1] w K := by
  refine runs_of (L := [(0, .ref 19), (1, .long y1)]) rfl (Nat.le_of_ble_eq_true rfl) rfl ?_
  refine x_iconst (v := 0) d_D_blocksWith_0 (by decide) ?_
  refine x_istore_n (L' := [(0, .ref 19), (1, .long y1), (3, .int 0)]) [1, 2, 0] d_D_blocksWith_1 (by decide) rfl ?_
  refine x_iconst (v := 0) d_D_blocksWith_2 (by decide) ?_
  refine x_istore (L' := [(0, .ref 19), (1, .long y1), (3, .int 0), (4, .int 0)]) [1, 2, 3, 0] d_D_blocksWith_3 (by decide) rfl ?_
  exact h
set_option maxHeartbeats 1000000 in
theorem w_D_blocksWith_5 {x3 x4 : Int32} {y1 : Int64} {w : Wd} {K : Int32 → Wd → Prop} (h : ((w.1 19 2) ≤ x4 → K x3 w) ∧ (¬ (w.1 19 2) ≤ x4 → vp_in x4 240 ∧ (¬ ((w.2 20 x4.toNatClampNeg) &&& y1) = y1 → ∀ a1 : Int32, a1 = x4 + 1 → E 1 M_D_blocksWith 5 [(0, .ref 19), (1, .long y1), (3, .int x3), (4, .int a1)] [] w (qI 1 K)) ∧ (((w.2 20 x4.toNatClampNeg) &&& y1) = y1 → ∀ a2 : Int32, a2 = x3 + 1 → ∀ a3 : Int32, a3 = x4 + 1 → E 1 M_D_blocksWith 5 [(0, .ref 19), (1, .long y1), (3, .int a2), (4, .int a3)] [] w (qI 1 K)))) : E 1 M_D_blocksWith 5 [(0, .ref 19), (1, .long y1), (3, .int x3), (4, .int x4)] [] w (qI 1 K) := by
  refine x_iload 3 d_D_blocksWith_5 rfl ?_
  refine x_aload_n 0 d_D_blocksWith_7 rfl ?_
  refine x_getI 0 2 d_D_blocksWith_8 fg_0_19 rfl rfl (Nf_58 (by decide)) ?_
  refine x_icmp_ge 37 d_D_blocksWith_11 (by decide) (fun c0 => ?_) (fun c0 => ?_)
  · have h := h.1 c0
    refine x_iload_n 2 d_D_blocksWith_37 rfl ?_
    exact x_retI d_D_blocksWith_38 rfl ⟨rfl, rfl⟩ h
  · have h := h.2 c0
    refine x_aload_n 0 d_D_blocksWith_14 rfl ?_
    refine x_getR 0 1 20 d_D_blocksWith_15 fg_0_9 rfl rfl rfl (Nf_58 (by decide)) ?_
    refine x_iload 3 d_D_blocksWith_18 rfl ?_
    obtain ⟨h0, h⟩ := h
    refine x_lald d_D_blocksWith_20 rfl (Nf_58 (by decide)) h0 ?_
    refine x_lload_n 1 d_D_blocksWith_21 rfl ?_
    refine x_land d_D_blocksWith_22 ?_
    refine x_lload_n 1 d_D_blocksWith_23 rfl ?_
    refine x_lif_ne 31 d_D_blocksWith_24 d_D_blocksWith_25 (by decide) (fun c0 => ?_) (fun c0 => ?_)
    · have h := h.1 c0
      obtain ⟨a1, ea1⟩ : ∃ z : Int32, z = x4 + 1 := ⟨_, rfl⟩
      have h := h a1 ea1
      refine x_iincE (L' := [(0, .ref 19), (1, .long y1), (3, .int x3), (4, .int a1)]) 3 [1, 2, 3, 0] d_D_blocksWith_31 rfl ea1 (by decide) rfl ?_
      refine x_goto 5 d_D_blocksWith_34 (by decide) ?_
      exact h
    · have h := h.2 c0
      obtain ⟨a2, ea2⟩ : ∃ z : Int32, z = x3 + 1 := ⟨_, rfl⟩
      have h := h a2 ea2
      refine x_iincE (L' := [(0, .ref 19), (1, .long y1), (3, .int a2), (4, .int x4)]) 2 [1, 2, 0, 3] d_D_blocksWith_28 rfl ea2 (by decide) rfl ?_
      obtain ⟨a3, ea3⟩ : ∃ z : Int32, z = x4 + 1 := ⟨_, rfl⟩
      have h := h a3 ea3
      refine x_iincE (L' := [(0, .ref 19), (1, .long y1), (3, .int a2), (4, .int a3)]) 3 [1, 2, 3, 0] d_D_blocksWith_31 rfl ea3 (by decide) rfl ?_
      refine x_goto 5 d_D_blocksWith_34 (by decide) ?_
      exact h
set_option maxHeartbeats 1000000 in
theorem r_A_pairs {x1 x2 : Int32} {w : Wd} {K : Int32 → Wd → Prop} (h : RunZ 1 M_A_isElement [.ref 0, .int x1] w (fun z2 w1 => (z2 = false → K ((-1)) w1) ∧ (z2 = true → RunZ 1 M_A_isElement [.ref 0, .int x2] w1 (fun z4 w3 => (z4 = false → K ((-1)) w3) ∧ (z4 = true → (¬ x1 = x2 → RunV 1 M_D_develop [.ref 19, .ref 10] w3 (fun w5 => RunI 1 M_D_blocksWith [.ref 19, .long ((1 <<< (x1.toInt64 &&& 63)) ||| (1 <<< (x2.toInt64 &&& 63)))] w5 (fun r7 w6 => K r7 w6))) ∧ (x1 = x2 → K ((-1)) w3)))))) : RunI 1 M_A_pairs [.ref 0, .int x1, .int x2] w K := by
  refine runs_of (L := [(0, .ref 0), (1, .int x1), (2, .int x2)]) rfl (Nat.le_of_ble_eq_true rfl) rfl ?_
  refine x_aload_n 0 d_A_pairs_0 rfl ?_
  refine x_iload_n 1 d_A_pairs_1 rfl ?_
  refine x_callVZ (st := []) M_A_isElement [.int x1] d_A_pairs_2 ml_10_120 cv_A_isElement rfl rfl (Nf_58 (by decide)) rfl (Nat.le_of_ble_eq_true rfl) ⟨Nat.le_of_ble_eq_true rfl, Nat.le_of_ble_eq_true rfl⟩ ⟨rfl, rfl⟩ h (fun z2 w1 h => ?_)
  refine x_zif_eq 21 d_A_pairs_5 (by decide) (fun c0 => ?_) (fun c0 => ?_)
  · have h := h.1 c0
    refine x_iconst (v := (-1)) d_A_pairs_21 (by decide) ?_
    exact x_retI d_A_pairs_22 rfl ⟨rfl, rfl⟩ h
  · have h := h.2 c0
    refine x_aload_n 0 d_A_pairs_8 rfl ?_
    refine x_iload_n 2 d_A_pairs_9 rfl ?_
    refine x_callVZ (st := []) M_A_isElement [.int x2] d_A_pairs_10 ml_10_120 cv_A_isElement rfl rfl (Nf_58 (by decide)) rfl (Nat.le_of_ble_eq_true rfl) ⟨Nat.le_of_ble_eq_true rfl, Nat.le_of_ble_eq_true rfl⟩ ⟨rfl, rfl⟩ h (fun z4 w3 h => ?_)
    refine x_zif_eq 21 d_A_pairs_13 (by decide) (fun c0 => ?_) (fun c0 => ?_)
    · have h := h.1 c0
      refine x_iconst (v := (-1)) d_A_pairs_21 (by decide) ?_
      exact x_retI d_A_pairs_22 rfl ⟨rfl, rfl⟩ h
    · have h := h.2 c0
      refine x_iload_n 1 d_A_pairs_16 rfl ?_
      refine x_iload_n 2 d_A_pairs_17 rfl ?_
      refine x_icmp_ne 23 d_A_pairs_18 (by decide) (fun c0 => ?_) (fun c0 => ?_)
      · have h := h.1 c0
        refine x_aload_n 0 d_A_pairs_23 rfl ?_
        refine x_getR 10 6 19 d_A_pairs_24 fg_10_59 rfl rfl rfl (Nf_58 (by decide)) ?_
        refine x_aload_n 0 d_A_pairs_27 rfl ?_
        refine x_getR 10 1 10 d_A_pairs_28 fg_10_25 rfl rfl rfl (Nf_58 (by decide)) ?_
        refine x_callVV (st := []) M_D_develop [.ref 10] d_A_pairs_31 ml_10_265 cv_D_develop rfl rfl (Nf_58 (by decide)) rfl (Nat.le_of_ble_eq_true rfl) ⟨Nat.le_of_ble_eq_true rfl, Nat.le_of_ble_eq_true rfl⟩ ⟨rfl, rfl⟩ h (fun w5 h => ?_)
        refine x_aload_n 0 d_A_pairs_34 rfl ?_
        refine x_getR 10 6 19 d_A_pairs_35 fg_10_59 rfl rfl rfl (Nf_58 (by decide)) ?_
        refine x_lconst (v := 1) d_A_pairs_38 (by decide) ?_
        refine x_iload_n 1 d_A_pairs_39 rfl ?_
        refine x_lshl d_A_pairs_40 ?_
        refine x_lconst (v := 1) d_A_pairs_41 (by decide) ?_
        refine x_iload_n 2 d_A_pairs_42 rfl ?_
        refine x_lshl d_A_pairs_43 ?_
        refine x_lor d_A_pairs_44 ?_
        refine x_callVI (st := []) M_D_blocksWith [.long ((1 <<< (x1.toInt64 &&& 63)) ||| (1 <<< (x2.toInt64 &&& 63)))] d_A_pairs_45 ml_10_272 cv_D_blocksWith rfl rfl (Nf_58 (by decide)) rfl (Nat.le_of_ble_eq_true rfl) ⟨Nat.le_of_ble_eq_true rfl, Nat.le_of_ble_eq_true rfl⟩ ⟨rfl, rfl⟩ h (fun r7 w6 h => ?_)
        exact x_retI d_A_pairs_48 rfl ⟨rfl, rfl⟩ h
      · have h := h.2 c0
        refine x_iconst (v := (-1)) d_A_pairs_21 (by decide) ?_
        exact x_retI d_A_pairs_22 rfl ⟨rfl, rfl⟩ h
set_option maxHeartbeats 1000000 in
theorem r_A_put {x1 x2 : Int32} {w : Wd} {K : Int32 → Wd → Prop} (h : RunZ 1 M_A_isBlock [.int x1] w (fun z2 w1 => (z2 = false → K ((-1)) w1) ∧ (z2 = true → RunZ 1 M_A_isElement [.ref 0, .int x2] w1 (fun z4 w3 => (z4 = true → vp_in x1 6 ∧ RunZ 1 M_A_holds [.long (w3.2 10 x1.toNatClampNeg), .int x2] w3 (fun z6 w5 => (z6 = false → RunV 1 M_H_note [.ref 11, .ref 10] w5 (fun w7 => vp_in x1 6 ∧ vp_in x1 6 ∧ ∀ w8 : Wd, w8 = upL w7 10 x1.toNatClampNeg ((w7.2 10 x1.toNatClampNeg) ||| (1 <<< (x2.toInt64 &&& 63))) → vp_in x1 6 ∧ RunI 1 M_J_bitCount [.long (w8.2 10 x1.toNatClampNeg)] w8 (fun r10 w9 => K r10 w9))) ∧ (z6 = true → K ((-3)) w5))) ∧ (z4 = false → K ((-1)) w3))))) : RunI 1 M_A_put [.ref 0, .int x1, .int x2] w K := by
  refine runs_of (L := [(0, .ref 0), (1, .int x1), (2, .int x2)]) rfl (Nat.le_of_ble_eq_true rfl) rfl ?_
  refine x_iload_n 1 d_A_put_0 rfl ?_
  refine x_callSZ (st := []) M_A_isBlock [.int x1] d_A_put_1 ml_10_158 cv_A_isBlock rfl (Nat.le_of_ble_eq_true rfl) ⟨Nat.le_of_ble_eq_true rfl, Nat.le_of_ble_eq_true rfl⟩ ⟨rfl, rfl⟩ h (fun z2 w1 h => ?_)
  refine x_zif_eq 15 d_A_put_4 (by decide) (fun c0 => ?_) (fun c0 => ?_)
  · have h := h.1 c0
    refine x_iconst (v := (-1)) d_A_put_15 (by decide) ?_
    exact x_retI d_A_put_16 rfl ⟨rfl, rfl⟩ h
  · have h := h.2 c0
    refine x_aload_n 0 d_A_put_7 rfl ?_
    refine x_iload_n 2 d_A_put_8 rfl ?_
    refine x_callVZ (st := []) M_A_isElement [.int x2] d_A_put_9 ml_10_120 cv_A_isElement rfl rfl (Nf_58 (by decide)) rfl (Nat.le_of_ble_eq_true rfl) ⟨Nat.le_of_ble_eq_true rfl, Nat.le_of_ble_eq_true rfl⟩ ⟨rfl, rfl⟩ h (fun z4 w3 h => ?_)
    refine x_zif_ne 17 d_A_put_12 (by decide) (fun c0 => ?_) (fun c0 => ?_)
    · have h := h.1 c0
      refine x_aload_n 0 d_A_put_17 rfl ?_
      refine x_getR 10 1 10 d_A_put_18 fg_10_25 rfl rfl rfl (Nf_58 (by decide)) ?_
      refine x_iload_n 1 d_A_put_21 rfl ?_
      obtain ⟨h0, h⟩ := h
      refine x_lald d_A_put_22 rfl (Nf_58 (by decide)) h0 ?_
      refine x_iload_n 2 d_A_put_23 rfl ?_
      refine x_callSZ (st := []) M_A_holds [.long (w3.2 10 x1.toNatClampNeg), .int x2] d_A_put_24 ml_10_161 cv_A_holds rfl (Nat.le_of_ble_eq_true rfl) ⟨Nat.le_of_ble_eq_true rfl, Nat.le_of_ble_eq_true rfl⟩ ⟨rfl, rfl⟩ h (fun z6 w5 h => ?_)
      refine x_zif_eq 33 d_A_put_27 (by decide) (fun c0 => ?_) (fun c0 => ?_)
      · have h := h.1 c0
        refine x_aload_n 0 d_A_put_33 rfl ?_
        refine x_getR 10 2 11 d_A_put_34 fg_10_32 rfl rfl rfl (Nf_58 (by decide)) ?_
        refine x_aload_n 0 d_A_put_37 rfl ?_
        refine x_getR 10 1 10 d_A_put_38 fg_10_25 rfl rfl rfl (Nf_58 (by decide)) ?_
        refine x_callVV (st := []) M_H_note [.ref 10] d_A_put_41 ml_10_165 cv_H_note rfl rfl (Nf_58 (by decide)) rfl (Nat.le_of_ble_eq_true rfl) ⟨Nat.le_of_ble_eq_true rfl, Nat.le_of_ble_eq_true rfl⟩ ⟨rfl, rfl⟩ h (fun w7 h => ?_)
        refine x_aload_n 0 d_A_put_44 rfl ?_
        refine x_getR 10 1 10 d_A_put_45 fg_10_25 rfl rfl rfl (Nf_58 (by decide)) ?_
        refine x_iload_n 1 d_A_put_48 rfl ?_
        refine x_dup2 d_A_put_49 rfl rfl ?_
        obtain ⟨h0, h⟩ := h
        refine x_lald d_A_put_50 rfl (Nf_58 (by decide)) h0 ?_
        refine x_lconst (v := 1) d_A_put_51 (by decide) ?_
        refine x_iload_n 2 d_A_put_52 rfl ?_
        refine x_lshl d_A_put_53 ?_
        refine x_lor d_A_put_54 ?_
        obtain ⟨h0, h⟩ := h
        refine x_lastE d_A_put_55 rfl (Nf_58 (by decide)) h0 (fun w8 ew8 => ?_)
        have h := h w8 ew8
        refine x_aload_n 0 d_A_put_56 rfl ?_
        refine x_getR 10 1 10 d_A_put_57 fg_10_25 rfl rfl rfl (Nf_58 (by decide)) ?_
        refine x_iload_n 1 d_A_put_60 rfl ?_
        obtain ⟨h0, h⟩ := h
        refine x_lald d_A_put_61 rfl (Nf_58 (by decide)) h0 ?_
        refine x_callSI (st := []) M_J_bitCount [.long (w8.2 10 x1.toNatClampNeg)] d_A_put_62 ml_10_152 cv_J_bitCount rfl (Nat.le_of_ble_eq_true rfl) ⟨Nat.le_of_ble_eq_true rfl, Nat.le_of_ble_eq_true rfl⟩ ⟨rfl, rfl⟩ h (fun r10 w9 h => ?_)
        exact x_retI d_A_put_65 rfl ⟨rfl, rfl⟩ h
      · have h := h.2 c0
        refine x_bipush (v := (-3)) d_A_put_30 (by decide) ?_
        exact x_retI d_A_put_32 rfl ⟨rfl, rfl⟩ h
    · have h := h.2 c0
      refine x_iconst (v := (-1)) d_A_put_15 (by decide) ?_
      exact x_retI d_A_put_16 rfl ⟨rfl, rfl⟩ h
set_option maxHeartbeats 1000000 in
theorem r_A_read {w : Wd} {K : Int32 → Wd → Prop} (h : RunV 1 M_T_parse [.ref 32] w (fun w1 => ((w1.1 32 6) = ((-4)) → RunV 1 M_H_note [.ref 11, .ref 10] w1 (fun w2 => ((¬ (0 : Int32) < 0) ∧ (¬ (0 : Int32) < 0) ∧ (¬ (6 : Int32) < 0) ∧ (0 : Int32).toNatClampNeg + (6 : Int32).toNatClampNeg ≤ 6 ∧ (0 : Int32).toNatClampNeg + (6 : Int32).toNatClampNeg ≤ 6) ∧ ∀ w3 : Wd, w3 = cpL w2 34 10 (0 : Int32).toNatClampNeg (0 : Int32).toNatClampNeg (6 : Int32).toNatClampNeg → K (w3.1 32 4) w3)) ∧ (¬ (w1.1 32 6) = ((-4)) → K ((-3)) w1))) : RunI 1 M_A_read [.ref 0] w K := by
  refine runs_of (L := [(0, .ref 0)]) rfl (Nat.le_of_ble_eq_true rfl) rfl ?_
  refine x_aload_n 0 d_A_read_0 rfl ?_
  refine x_getR 10 9 32 d_A_read_1 fg_10_80 rfl rfl rfl (Nf_58 (by decide)) ?_
  refine x_callVV (st := []) M_T_parse [] d_A_read_4 ml_10_324 cv_T_parse rfl rfl (Nf_58 (by decide)) rfl (Nat.le_of_ble_eq_true rfl) ⟨Nat.le_of_ble_eq_true rfl, Nat.le_of_ble_eq_true rfl⟩ ⟨rfl, rfl⟩ h (fun w1 h => ?_)
  refine x_aload_n 0 d_A_read_7 rfl ?_
  refine x_getR 10 9 32 d_A_read_8 fg_10_80 rfl rfl rfl (Nf_58 (by decide)) ?_
  refine x_getI 9 6 d_A_read_11 fg_10_327 rfl rfl (Nf_58 (by decide)) ?_
  refine x_bipush (v := (-4)) d_A_read_14 (by decide) ?_
  refine x_icmp_eq 22 d_A_read_16 (by decide) (fun c0 => ?_) (fun c0 => ?_)
  · have h := h.1 c0
    refine x_aload_n 0 d_A_read_22 rfl ?_
    refine x_getR 10 2 11 d_A_read_23 fg_10_32 rfl rfl rfl (Nf_58 (by decide)) ?_
    refine x_aload_n 0 d_A_read_26 rfl ?_
    refine x_getR 10 1 10 d_A_read_27 fg_10_25 rfl rfl rfl (Nf_58 (by decide)) ?_
    refine x_callVV (st := []) M_H_note [.ref 10] d_A_read_30 ml_10_165 cv_H_note rfl rfl (Nf_58 (by decide)) rfl (Nat.le_of_ble_eq_true rfl) ⟨Nat.le_of_ble_eq_true rfl, Nat.le_of_ble_eq_true rfl⟩ ⟨rfl, rfl⟩ h (fun w2 h => ?_)
    refine x_aload_n 0 d_A_read_33 rfl ?_
    refine x_getR 10 9 32 d_A_read_34 fg_10_80 rfl rfl rfl (Nf_58 (by decide)) ?_
    refine x_getR 9 2 34 d_A_read_37 fg_10_330 rfl rfl rfl (Nf_58 (by decide)) ?_
    refine x_iconst (v := 0) d_A_read_40 (by decide) ?_
    refine x_aload_n 0 d_A_read_41 rfl ?_
    refine x_getR 10 1 10 d_A_read_42 fg_10_25 rfl rfl rfl (Nf_58 (by decide)) ?_
    refine x_iconst (v := 0) d_A_read_45 (by decide) ?_
    refine x_bipush (v := 6) d_A_read_46 (by decide) ?_
    obtain ⟨h0, h⟩ := h
    refine x_copyE d_A_read_48 cp_10_308 rfl rfl (Nf_58 (by decide)) (Nf_58 (by decide)) h0 (Nat.le_of_ble_eq_true rfl) ⟨Nat.le_of_ble_eq_true rfl, Nat.le_of_ble_eq_true rfl⟩ (fun w3 ew3 => ?_)
    have h := h w3 ew3
    refine x_aload_n 0 d_A_read_51 rfl ?_
    refine x_getR 10 9 32 d_A_read_52 fg_10_80 rfl rfl rfl (Nf_58 (by decide)) ?_
    refine x_getI 9 4 d_A_read_55 fg_10_331 rfl rfl (Nf_58 (by decide)) ?_
    exact x_retI d_A_read_58 rfl ⟨rfl, rfl⟩ h
  · have h := h.2 c0
    refine x_bipush (v := (-3)) d_A_read_19 (by decide) ?_
    exact x_retI d_A_read_21 rfl ⟨rfl, rfl⟩ h
set_option maxHeartbeats 1000000 in
theorem r_A_replication {x1 : Int32} {w : Wd} {K : Int32 → Wd → Prop} (h : RunZ 1 M_A_isElement [.ref 0, .int x1] w (fun z2 w1 => (z2 = true → RunV 1 M_D_develop [.ref 19, .ref 10] w1 (fun w3 => RunI 1 M_D_blocksWith [.ref 19, .long (1 <<< (x1.toInt64 &&& 63))] w3 (fun r5 w4 => K r5 w4))) ∧ (z2 = false → K ((-1)) w1))) : RunI 1 M_A_replication [.ref 0, .int x1] w K := by
  refine runs_of (L := [(0, .ref 0), (1, .int x1)]) rfl (Nat.le_of_ble_eq_true rfl) rfl ?_
  refine x_aload_n 0 d_A_replication_0 rfl ?_
  refine x_iload_n 1 d_A_replication_1 rfl ?_
  refine x_callVZ (st := []) M_A_isElement [.int x1] d_A_replication_2 ml_10_120 cv_A_isElement rfl rfl (Nf_58 (by decide)) rfl (Nat.le_of_ble_eq_true rfl) ⟨Nat.le_of_ble_eq_true rfl, Nat.le_of_ble_eq_true rfl⟩ ⟨rfl, rfl⟩ h (fun z2 w1 h => ?_)
  refine x_zif_ne 10 d_A_replication_5 (by decide) (fun c0 => ?_) (fun c0 => ?_)
  · have h := h.1 c0
    refine x_aload_n 0 d_A_replication_10 rfl ?_
    refine x_getR 10 6 19 d_A_replication_11 fg_10_59 rfl rfl rfl (Nf_58 (by decide)) ?_
    refine x_aload_n 0 d_A_replication_14 rfl ?_
    refine x_getR 10 1 10 d_A_replication_15 fg_10_25 rfl rfl rfl (Nf_58 (by decide)) ?_
    refine x_callVV (st := []) M_D_develop [.ref 10] d_A_replication_18 ml_10_265 cv_D_develop rfl rfl (Nf_58 (by decide)) rfl (Nat.le_of_ble_eq_true rfl) ⟨Nat.le_of_ble_eq_true rfl, Nat.le_of_ble_eq_true rfl⟩ ⟨rfl, rfl⟩ h (fun w3 h => ?_)
    refine x_aload_n 0 d_A_replication_21 rfl ?_
    refine x_getR 10 6 19 d_A_replication_22 fg_10_59 rfl rfl rfl (Nf_58 (by decide)) ?_
    refine x_lconst (v := 1) d_A_replication_25 (by decide) ?_
    refine x_iload_n 1 d_A_replication_26 rfl ?_
    refine x_lshl d_A_replication_27 ?_
    refine x_callVI (st := []) M_D_blocksWith [.long (1 <<< (x1.toInt64 &&& 63))] d_A_replication_28 ml_10_272 cv_D_blocksWith rfl rfl (Nf_58 (by decide)) rfl (Nat.le_of_ble_eq_true rfl) ⟨Nat.le_of_ble_eq_true rfl, Nat.le_of_ble_eq_true rfl⟩ ⟨rfl, rfl⟩ h (fun r5 w4 h => ?_)
    exact x_retI d_A_replication_31 rfl ⟨rfl, rfl⟩ h
  · have h := h.2 c0
    refine x_iconst (v := (-1)) d_A_replication_8 (by decide) ?_
    exact x_retI d_A_replication_9 rfl ⟨rfl, rfl⟩ h
set_option maxHeartbeats 1000000 in
theorem r_H_forget {w : Wd} {K : Wd → Prop} (h : ∀ w1 : Wd, w1 = upI w 11 1 0 → K w1) : RunV 1 M_H_forget [.ref 11] w K := by
  refine runs_of (L := [(0, .ref 11)]) rfl (Nat.le_of_ble_eq_true rfl) rfl ?_
  refine x_aload_n 0 d_H_forget_0 rfl ?_
  refine x_iconst (v := 0) d_H_forget_1 (by decide) ?_
  refine x_putIE 6 1 d_H_forget_2 fp_6_15 rfl rfl (Nf_58 (by decide)) (fun w1 ew1 => ?_)
  have h := h w1 ew1
  exact x_retV d_H_forget_5 rfl ⟨rfl, rfl⟩ h
set_option maxHeartbeats 1000000 in
theorem r_A_restore {x1 : Int32} {w : Wd} {K : Int32 → Wd → Prop} (h : RunZ 1 M_A_isSlot [.int x1] w (fun z2 w1 => (z2 = true → RunP 1 M_A_slotAt [.ref 0, .int x1] w1 (fun p4 w3 => (p4 = 35 ∨ p4 = 37) ∧ (p4 = 35 → (¬ (w3.1 35 2) = 0 → RunP 1 M_A_slotAt [.ref 0, .int x1] w3 (fun p6 w5 => (p6 = 35 ∨ p6 = 37) ∧ (p6 = 35 → ((¬ (0 : Int32) < 0) ∧ (¬ (0 : Int32) < 0) ∧ (¬ (6 : Int32) < 0) ∧ (0 : Int32).toNatClampNeg + (6 : Int32).toNatClampNeg ≤ 6 ∧ (0 : Int32).toNatClampNeg + (6 : Int32).toNatClampNeg ≤ 6) ∧ ∀ w7 : Wd, w7 = cpL w5 36 10 (0 : Int32).toNatClampNeg (0 : Int32).toNatClampNeg (6 : Int32).toNatClampNeg → RunP 1 M_A_slotAt [.ref 0, .int x1] w7 (fun p9 w8 => (p9 = 35 ∨ p9 = 37) ∧ (p9 = 35 → ∀ w10 : Wd, w10 = upL w8 0 12 (w8.2 35 1) → RunV 1 M_H_forget [.ref 11] w10 (fun w11 => RunI 1 M_A_filledBlocks [.ref 0] w11 (fun r13 w12 => K r13 w12))) ∧ (p9 = 37 → ∀ w14 : Wd, w14 = upL w8 0 12 (w8.2 37 1) → RunV 1 M_H_forget [.ref 11] w14 (fun w15 => RunI 1 M_A_filledBlocks [.ref 0] w15 (fun r17 w16 => K r17 w16))))) ∧ (p6 = 37 → ((¬ (0 : Int32) < 0) ∧ (¬ (0 : Int32) < 0) ∧ (¬ (6 : Int32) < 0) ∧ (0 : Int32).toNatClampNeg + (6 : Int32).toNatClampNeg ≤ 6 ∧ (0 : Int32).toNatClampNeg + (6 : Int32).toNatClampNeg ≤ 6) ∧ ∀ w18 : Wd, w18 = cpL w5 38 10 (0 : Int32).toNatClampNeg (0 : Int32).toNatClampNeg (6 : Int32).toNatClampNeg → RunP 1 M_A_slotAt [.ref 0, .int x1] w18 (fun p20 w19 => (p20 = 35 ∨ p20 = 37) ∧ (p20 = 35 → ∀ w21 : Wd, w21 = upL w19 0 12 (w19.2 35 1) → RunV 1 M_H_forget [.ref 11] w21 (fun w22 => RunI 1 M_A_filledBlocks [.ref 0] w22 (fun r24 w23 => K r24 w23))) ∧ (p20 = 37 → ∀ w25 : Wd, w25 = upL w19 0 12 (w19.2 37 1) → RunV 1 M_H_forget [.ref 11] w25 (fun w26 => RunI 1 M_A_filledBlocks [.ref 0] w26 (fun r28 w27 => K r28 w27))))))) ∧ ((w3.1 35 2) = 0 → K ((-3)) w3)) ∧ (p4 = 37 → (¬ (w3.1 37 2) = 0 → RunP 1 M_A_slotAt [.ref 0, .int x1] w3 (fun p30 w29 => (p30 = 35 ∨ p30 = 37) ∧ (p30 = 35 → ((¬ (0 : Int32) < 0) ∧ (¬ (0 : Int32) < 0) ∧ (¬ (6 : Int32) < 0) ∧ (0 : Int32).toNatClampNeg + (6 : Int32).toNatClampNeg ≤ 6 ∧ (0 : Int32).toNatClampNeg + (6 : Int32).toNatClampNeg ≤ 6) ∧ ∀ w31 : Wd, w31 = cpL w29 36 10 (0 : Int32).toNatClampNeg (0 : Int32).toNatClampNeg (6 : Int32).toNatClampNeg → RunP 1 M_A_slotAt [.ref 0, .int x1] w31 (fun p33 w32 => (p33 = 35 ∨ p33 = 37) ∧ (p33 = 35 → ∀ w34 : Wd, w34 = upL w32 0 12 (w32.2 35 1) → RunV 1 M_H_forget [.ref 11] w34 (fun w35 => RunI 1 M_A_filledBlocks [.ref 0] w35 (fun r37 w36 => K r37 w36))) ∧ (p33 = 37 → ∀ w38 : Wd, w38 = upL w32 0 12 (w32.2 37 1) → RunV 1 M_H_forget [.ref 11] w38 (fun w39 => RunI 1 M_A_filledBlocks [.ref 0] w39 (fun r41 w40 => K r41 w40))))) ∧ (p30 = 37 → ((¬ (0 : Int32) < 0) ∧ (¬ (0 : Int32) < 0) ∧ (¬ (6 : Int32) < 0) ∧ (0 : Int32).toNatClampNeg + (6 : Int32).toNatClampNeg ≤ 6 ∧ (0 : Int32).toNatClampNeg + (6 : Int32).toNatClampNeg ≤ 6) ∧ ∀ w42 : Wd, w42 = cpL w29 38 10 (0 : Int32).toNatClampNeg (0 : Int32).toNatClampNeg (6 : Int32).toNatClampNeg → RunP 1 M_A_slotAt [.ref 0, .int x1] w42 (fun p44 w43 => (p44 = 35 ∨ p44 = 37) ∧ (p44 = 35 → ∀ w45 : Wd, w45 = upL w43 0 12 (w43.2 35 1) → RunV 1 M_H_forget [.ref 11] w45 (fun w46 => RunI 1 M_A_filledBlocks [.ref 0] w46 (fun r48 w47 => K r48 w47))) ∧ (p44 = 37 → ∀ w49 : Wd, w49 = upL w43 0 12 (w43.2 37 1) → RunV 1 M_H_forget [.ref 11] w49 (fun w50 => RunI 1 M_A_filledBlocks [.ref 0] w50 (fun r52 w51 => K r52 w51))))))) ∧ ((w3.1 37 2) = 0 → K ((-3)) w3)))) ∧ (z2 = false → K ((-1)) w1))) : RunI 1 M_A_restore [.ref 0, .int x1] w K := by
  refine runs_of (L := [(0, .ref 0), (1, .int x1)]) rfl (Nat.le_of_ble_eq_true rfl) rfl ?_
  refine x_iload_n 1 d_A_restore_0 rfl ?_
  refine x_callSZ (st := []) M_A_isSlot [.int x1] d_A_restore_1 ml_10_251 cv_A_isSlot rfl (Nat.le_of_ble_eq_true rfl) ⟨Nat.le_of_ble_eq_true rfl, Nat.le_of_ble_eq_true rfl⟩ ⟨rfl, rfl⟩ h (fun z2 w1 h => ?_)
  refine x_zif_ne 9 d_A_restore_4 (by decide) (fun c0 => ?_) (fun c0 => ?_)
  · have h := h.1 c0
    refine x_aload_n 0 d_A_restore_9 rfl ?_
    refine x_iload_n 1 d_A_restore_10 rfl ?_
    refine x_callVP (st := []) M_A_slotAt [.int x1] d_A_restore_11 ml_10_254 cv_A_slotAt rfl rfl (Nf_58 (by decide)) rfl (Nat.le_of_ble_eq_true rfl) ⟨Nat.le_of_ble_eq_true rfl, Nat.le_of_ble_eq_true rfl⟩ ⟨rfl, rfl⟩ h (fun p4 w3 h => ?_)
    obtain ⟨ho, ha, hb⟩ := h
    rcases ho with rfl | rfl
    · have h := ha rfl
      refine x_getI 8 2 d_A_restore_14 fg_10_116 rfl rfl (Nf_58 (by decide)) ?_
      refine x_if_ne 23 d_A_restore_17 (by decide) (fun c0 => ?_) (fun c0 => ?_)
      · have h := h.1 c0
        refine x_aload_n 0 d_A_restore_23 rfl ?_
        refine x_iload_n 1 d_A_restore_24 rfl ?_
        refine x_callVP (st := []) M_A_slotAt [.int x1] d_A_restore_25 ml_10_254 cv_A_slotAt rfl rfl (Nf_58 (by decide)) rfl (Nat.le_of_ble_eq_true rfl) ⟨Nat.le_of_ble_eq_true rfl, Nat.le_of_ble_eq_true rfl⟩ ⟨rfl, rfl⟩ h (fun p6 w5 h => ?_)
        obtain ⟨ho, ha, hb⟩ := h
        rcases ho with rfl | rfl
        · have h := ha rfl
          refine x_getR 8 0 36 d_A_restore_28 fg_10_258 rfl rfl rfl (Nf_58 (by decide)) ?_
          refine x_iconst (v := 0) d_A_restore_31 (by decide) ?_
          refine x_aload_n 0 d_A_restore_32 rfl ?_
          refine x_getR 10 1 10 d_A_restore_33 fg_10_25 rfl rfl rfl (Nf_58 (by decide)) ?_
          refine x_iconst (v := 0) d_A_restore_36 (by decide) ?_
          refine x_bipush (v := 6) d_A_restore_37 (by decide) ?_
          obtain ⟨h0, h⟩ := h
          refine x_copyE d_A_restore_39 cp_10_308 rfl rfl (Nf_58 (by decide)) (Nf_58 (by decide)) h0 (Nat.le_of_ble_eq_true rfl) ⟨Nat.le_of_ble_eq_true rfl, Nat.le_of_ble_eq_true rfl⟩ (fun w7 ew7 => ?_)
          have h := h w7 ew7
          refine x_aload_n 0 d_A_restore_42 rfl ?_
          refine x_aload_n 0 d_A_restore_43 rfl ?_
          refine x_iload_n 1 d_A_restore_44 rfl ?_
          refine x_callVP (st := [.ref 0]) M_A_slotAt [.int x1] d_A_restore_45 ml_10_254 cv_A_slotAt rfl rfl (Nf_58 (by decide)) rfl (Nat.le_of_ble_eq_true rfl) ⟨Nat.le_of_ble_eq_true rfl, Nat.le_of_ble_eq_true rfl⟩ ⟨rfl, rfl⟩ h (fun p9 w8 h => ?_)
          obtain ⟨ho, ha, hb⟩ := h
          rcases ho with rfl | rfl
          · have h := ha rfl
            refine x_getL 8 1 d_A_restore_48 fg_10_335 rfl rfl (Nf_58 (by decide)) ?_
            refine x_putLE 10 12 d_A_restore_51 fp_10_94 rfl rfl (Nf_58 (by decide)) (fun w10 ew10 => ?_)
            have h := h w10 ew10
            refine x_aload_n 0 d_A_restore_54 rfl ?_
            refine x_getR 10 2 11 d_A_restore_55 fg_10_32 rfl rfl rfl (Nf_58 (by decide)) ?_
            refine x_callVV (st := []) M_H_forget [] d_A_restore_58 ml_10_112 cv_H_forget rfl rfl (Nf_58 (by decide)) rfl (Nat.le_of_ble_eq_true rfl) ⟨Nat.le_of_ble_eq_true rfl, Nat.le_of_ble_eq_true rfl⟩ ⟨rfl, rfl⟩ h (fun w11 h => ?_)
            refine x_aload_n 0 d_A_restore_61 rfl ?_
            refine x_callVI (st := []) M_A_filledBlocks [] d_A_restore_62 ml_10_314 cv_A_filledBlocks rfl rfl (Nf_58 (by decide)) rfl (Nat.le_of_ble_eq_true rfl) ⟨Nat.le_of_ble_eq_true rfl, Nat.le_of_ble_eq_true rfl⟩ ⟨rfl, rfl⟩ h (fun r13 w12 h => ?_)
            exact x_retI d_A_restore_65 rfl ⟨rfl, rfl⟩ h
          · have h := hb rfl
            refine x_getL 8 1 d_A_restore_48 fg_10_335 rfl rfl (Nf_58 (by decide)) ?_
            refine x_putLE 10 12 d_A_restore_51 fp_10_94 rfl rfl (Nf_58 (by decide)) (fun w14 ew14 => ?_)
            have h := h w14 ew14
            refine x_aload_n 0 d_A_restore_54 rfl ?_
            refine x_getR 10 2 11 d_A_restore_55 fg_10_32 rfl rfl rfl (Nf_58 (by decide)) ?_
            refine x_callVV (st := []) M_H_forget [] d_A_restore_58 ml_10_112 cv_H_forget rfl rfl (Nf_58 (by decide)) rfl (Nat.le_of_ble_eq_true rfl) ⟨Nat.le_of_ble_eq_true rfl, Nat.le_of_ble_eq_true rfl⟩ ⟨rfl, rfl⟩ h (fun w15 h => ?_)
            refine x_aload_n 0 d_A_restore_61 rfl ?_
            refine x_callVI (st := []) M_A_filledBlocks [] d_A_restore_62 ml_10_314 cv_A_filledBlocks rfl rfl (Nf_58 (by decide)) rfl (Nat.le_of_ble_eq_true rfl) ⟨Nat.le_of_ble_eq_true rfl, Nat.le_of_ble_eq_true rfl⟩ ⟨rfl, rfl⟩ h (fun r17 w16 h => ?_)
            exact x_retI d_A_restore_65 rfl ⟨rfl, rfl⟩ h
        · have h := hb rfl
          refine x_getR 8 0 38 d_A_restore_28 fg_10_258 rfl rfl rfl (Nf_58 (by decide)) ?_
          refine x_iconst (v := 0) d_A_restore_31 (by decide) ?_
          refine x_aload_n 0 d_A_restore_32 rfl ?_
          refine x_getR 10 1 10 d_A_restore_33 fg_10_25 rfl rfl rfl (Nf_58 (by decide)) ?_
          refine x_iconst (v := 0) d_A_restore_36 (by decide) ?_
          refine x_bipush (v := 6) d_A_restore_37 (by decide) ?_
          obtain ⟨h0, h⟩ := h
          refine x_copyE d_A_restore_39 cp_10_308 rfl rfl (Nf_58 (by decide)) (Nf_58 (by decide)) h0 (Nat.le_of_ble_eq_true rfl) ⟨Nat.le_of_ble_eq_true rfl, Nat.le_of_ble_eq_true rfl⟩ (fun w18 ew18 => ?_)
          have h := h w18 ew18
          refine x_aload_n 0 d_A_restore_42 rfl ?_
          refine x_aload_n 0 d_A_restore_43 rfl ?_
          refine x_iload_n 1 d_A_restore_44 rfl ?_
          refine x_callVP (st := [.ref 0]) M_A_slotAt [.int x1] d_A_restore_45 ml_10_254 cv_A_slotAt rfl rfl (Nf_58 (by decide)) rfl (Nat.le_of_ble_eq_true rfl) ⟨Nat.le_of_ble_eq_true rfl, Nat.le_of_ble_eq_true rfl⟩ ⟨rfl, rfl⟩ h (fun p20 w19 h => ?_)
          obtain ⟨ho, ha, hb⟩ := h
          rcases ho with rfl | rfl
          · have h := ha rfl
            refine x_getL 8 1 d_A_restore_48 fg_10_335 rfl rfl (Nf_58 (by decide)) ?_
            refine x_putLE 10 12 d_A_restore_51 fp_10_94 rfl rfl (Nf_58 (by decide)) (fun w21 ew21 => ?_)
            have h := h w21 ew21
            refine x_aload_n 0 d_A_restore_54 rfl ?_
            refine x_getR 10 2 11 d_A_restore_55 fg_10_32 rfl rfl rfl (Nf_58 (by decide)) ?_
            refine x_callVV (st := []) M_H_forget [] d_A_restore_58 ml_10_112 cv_H_forget rfl rfl (Nf_58 (by decide)) rfl (Nat.le_of_ble_eq_true rfl) ⟨Nat.le_of_ble_eq_true rfl, Nat.le_of_ble_eq_true rfl⟩ ⟨rfl, rfl⟩ h (fun w22 h => ?_)
            refine x_aload_n 0 d_A_restore_61 rfl ?_
            refine x_callVI (st := []) M_A_filledBlocks [] d_A_restore_62 ml_10_314 cv_A_filledBlocks rfl rfl (Nf_58 (by decide)) rfl (Nat.le_of_ble_eq_true rfl) ⟨Nat.le_of_ble_eq_true rfl, Nat.le_of_ble_eq_true rfl⟩ ⟨rfl, rfl⟩ h (fun r24 w23 h => ?_)
            exact x_retI d_A_restore_65 rfl ⟨rfl, rfl⟩ h
          · have h := hb rfl
            refine x_getL 8 1 d_A_restore_48 fg_10_335 rfl rfl (Nf_58 (by decide)) ?_
            refine x_putLE 10 12 d_A_restore_51 fp_10_94 rfl rfl (Nf_58 (by decide)) (fun w25 ew25 => ?_)
            have h := h w25 ew25
            refine x_aload_n 0 d_A_restore_54 rfl ?_
            refine x_getR 10 2 11 d_A_restore_55 fg_10_32 rfl rfl rfl (Nf_58 (by decide)) ?_
            refine x_callVV (st := []) M_H_forget [] d_A_restore_58 ml_10_112 cv_H_forget rfl rfl (Nf_58 (by decide)) rfl (Nat.le_of_ble_eq_true rfl) ⟨Nat.le_of_ble_eq_true rfl, Nat.le_of_ble_eq_true rfl⟩ ⟨rfl, rfl⟩ h (fun w26 h => ?_)
            refine x_aload_n 0 d_A_restore_61 rfl ?_
            refine x_callVI (st := []) M_A_filledBlocks [] d_A_restore_62 ml_10_314 cv_A_filledBlocks rfl rfl (Nf_58 (by decide)) rfl (Nat.le_of_ble_eq_true rfl) ⟨Nat.le_of_ble_eq_true rfl, Nat.le_of_ble_eq_true rfl⟩ ⟨rfl, rfl⟩ h (fun r28 w27 h => ?_)
            exact x_retI d_A_restore_65 rfl ⟨rfl, rfl⟩ h
      · have h := h.2 c0
        refine x_bipush (v := (-3)) d_A_restore_20 (by decide) ?_
        exact x_retI d_A_restore_22 rfl ⟨rfl, rfl⟩ h
    · have h := hb rfl
      refine x_getI 8 2 d_A_restore_14 fg_10_116 rfl rfl (Nf_58 (by decide)) ?_
      refine x_if_ne 23 d_A_restore_17 (by decide) (fun c0 => ?_) (fun c0 => ?_)
      · have h := h.1 c0
        refine x_aload_n 0 d_A_restore_23 rfl ?_
        refine x_iload_n 1 d_A_restore_24 rfl ?_
        refine x_callVP (st := []) M_A_slotAt [.int x1] d_A_restore_25 ml_10_254 cv_A_slotAt rfl rfl (Nf_58 (by decide)) rfl (Nat.le_of_ble_eq_true rfl) ⟨Nat.le_of_ble_eq_true rfl, Nat.le_of_ble_eq_true rfl⟩ ⟨rfl, rfl⟩ h (fun p30 w29 h => ?_)
        obtain ⟨ho, ha, hb⟩ := h
        rcases ho with rfl | rfl
        · have h := ha rfl
          refine x_getR 8 0 36 d_A_restore_28 fg_10_258 rfl rfl rfl (Nf_58 (by decide)) ?_
          refine x_iconst (v := 0) d_A_restore_31 (by decide) ?_
          refine x_aload_n 0 d_A_restore_32 rfl ?_
          refine x_getR 10 1 10 d_A_restore_33 fg_10_25 rfl rfl rfl (Nf_58 (by decide)) ?_
          refine x_iconst (v := 0) d_A_restore_36 (by decide) ?_
          refine x_bipush (v := 6) d_A_restore_37 (by decide) ?_
          obtain ⟨h0, h⟩ := h
          refine x_copyE d_A_restore_39 cp_10_308 rfl rfl (Nf_58 (by decide)) (Nf_58 (by decide)) h0 (Nat.le_of_ble_eq_true rfl) ⟨Nat.le_of_ble_eq_true rfl, Nat.le_of_ble_eq_true rfl⟩ (fun w31 ew31 => ?_)
          have h := h w31 ew31
          refine x_aload_n 0 d_A_restore_42 rfl ?_
          refine x_aload_n 0 d_A_restore_43 rfl ?_
          refine x_iload_n 1 d_A_restore_44 rfl ?_
          refine x_callVP (st := [.ref 0]) M_A_slotAt [.int x1] d_A_restore_45 ml_10_254 cv_A_slotAt rfl rfl (Nf_58 (by decide)) rfl (Nat.le_of_ble_eq_true rfl) ⟨Nat.le_of_ble_eq_true rfl, Nat.le_of_ble_eq_true rfl⟩ ⟨rfl, rfl⟩ h (fun p33 w32 h => ?_)
          obtain ⟨ho, ha, hb⟩ := h
          rcases ho with rfl | rfl
          · have h := ha rfl
            refine x_getL 8 1 d_A_restore_48 fg_10_335 rfl rfl (Nf_58 (by decide)) ?_
            refine x_putLE 10 12 d_A_restore_51 fp_10_94 rfl rfl (Nf_58 (by decide)) (fun w34 ew34 => ?_)
            have h := h w34 ew34
            refine x_aload_n 0 d_A_restore_54 rfl ?_
            refine x_getR 10 2 11 d_A_restore_55 fg_10_32 rfl rfl rfl (Nf_58 (by decide)) ?_
            refine x_callVV (st := []) M_H_forget [] d_A_restore_58 ml_10_112 cv_H_forget rfl rfl (Nf_58 (by decide)) rfl (Nat.le_of_ble_eq_true rfl) ⟨Nat.le_of_ble_eq_true rfl, Nat.le_of_ble_eq_true rfl⟩ ⟨rfl, rfl⟩ h (fun w35 h => ?_)
            refine x_aload_n 0 d_A_restore_61 rfl ?_
            refine x_callVI (st := []) M_A_filledBlocks [] d_A_restore_62 ml_10_314 cv_A_filledBlocks rfl rfl (Nf_58 (by decide)) rfl (Nat.le_of_ble_eq_true rfl) ⟨Nat.le_of_ble_eq_true rfl, Nat.le_of_ble_eq_true rfl⟩ ⟨rfl, rfl⟩ h (fun r37 w36 h => ?_)
            exact x_retI d_A_restore_65 rfl ⟨rfl, rfl⟩ h
          · have h := hb rfl
            refine x_getL 8 1 d_A_restore_48 fg_10_335 rfl rfl (Nf_58 (by decide)) ?_
            refine x_putLE 10 12 d_A_restore_51 fp_10_94 rfl rfl (Nf_58 (by decide)) (fun w38 ew38 => ?_)
            have h := h w38 ew38
            refine x_aload_n 0 d_A_restore_54 rfl ?_
            refine x_getR 10 2 11 d_A_restore_55 fg_10_32 rfl rfl rfl (Nf_58 (by decide)) ?_
            refine x_callVV (st := []) M_H_forget [] d_A_restore_58 ml_10_112 cv_H_forget rfl rfl (Nf_58 (by decide)) rfl (Nat.le_of_ble_eq_true rfl) ⟨Nat.le_of_ble_eq_true rfl, Nat.le_of_ble_eq_true rfl⟩ ⟨rfl, rfl⟩ h (fun w39 h => ?_)
            refine x_aload_n 0 d_A_restore_61 rfl ?_
            refine x_callVI (st := []) M_A_filledBlocks [] d_A_restore_62 ml_10_314 cv_A_filledBlocks rfl rfl (Nf_58 (by decide)) rfl (Nat.le_of_ble_eq_true rfl) ⟨Nat.le_of_ble_eq_true rfl, Nat.le_of_ble_eq_true rfl⟩ ⟨rfl, rfl⟩ h (fun r41 w40 h => ?_)
            exact x_retI d_A_restore_65 rfl ⟨rfl, rfl⟩ h
        · have h := hb rfl
          refine x_getR 8 0 38 d_A_restore_28 fg_10_258 rfl rfl rfl (Nf_58 (by decide)) ?_
          refine x_iconst (v := 0) d_A_restore_31 (by decide) ?_
          refine x_aload_n 0 d_A_restore_32 rfl ?_
          refine x_getR 10 1 10 d_A_restore_33 fg_10_25 rfl rfl rfl (Nf_58 (by decide)) ?_
          refine x_iconst (v := 0) d_A_restore_36 (by decide) ?_
          refine x_bipush (v := 6) d_A_restore_37 (by decide) ?_
          obtain ⟨h0, h⟩ := h
          refine x_copyE d_A_restore_39 cp_10_308 rfl rfl (Nf_58 (by decide)) (Nf_58 (by decide)) h0 (Nat.le_of_ble_eq_true rfl) ⟨Nat.le_of_ble_eq_true rfl, Nat.le_of_ble_eq_true rfl⟩ (fun w42 ew42 => ?_)
          have h := h w42 ew42
          refine x_aload_n 0 d_A_restore_42 rfl ?_
          refine x_aload_n 0 d_A_restore_43 rfl ?_
          refine x_iload_n 1 d_A_restore_44 rfl ?_
          refine x_callVP (st := [.ref 0]) M_A_slotAt [.int x1] d_A_restore_45 ml_10_254 cv_A_slotAt rfl rfl (Nf_58 (by decide)) rfl (Nat.le_of_ble_eq_true rfl) ⟨Nat.le_of_ble_eq_true rfl, Nat.le_of_ble_eq_true rfl⟩ ⟨rfl, rfl⟩ h (fun p44 w43 h => ?_)
          obtain ⟨ho, ha, hb⟩ := h
          rcases ho with rfl | rfl
          · have h := ha rfl
            refine x_getL 8 1 d_A_restore_48 fg_10_335 rfl rfl (Nf_58 (by decide)) ?_
            refine x_putLE 10 12 d_A_restore_51 fp_10_94 rfl rfl (Nf_58 (by decide)) (fun w45 ew45 => ?_)
            have h := h w45 ew45
            refine x_aload_n 0 d_A_restore_54 rfl ?_
            refine x_getR 10 2 11 d_A_restore_55 fg_10_32 rfl rfl rfl (Nf_58 (by decide)) ?_
            refine x_callVV (st := []) M_H_forget [] d_A_restore_58 ml_10_112 cv_H_forget rfl rfl (Nf_58 (by decide)) rfl (Nat.le_of_ble_eq_true rfl) ⟨Nat.le_of_ble_eq_true rfl, Nat.le_of_ble_eq_true rfl⟩ ⟨rfl, rfl⟩ h (fun w46 h => ?_)
            refine x_aload_n 0 d_A_restore_61 rfl ?_
            refine x_callVI (st := []) M_A_filledBlocks [] d_A_restore_62 ml_10_314 cv_A_filledBlocks rfl rfl (Nf_58 (by decide)) rfl (Nat.le_of_ble_eq_true rfl) ⟨Nat.le_of_ble_eq_true rfl, Nat.le_of_ble_eq_true rfl⟩ ⟨rfl, rfl⟩ h (fun r48 w47 h => ?_)
            exact x_retI d_A_restore_65 rfl ⟨rfl, rfl⟩ h
          · have h := hb rfl
            refine x_getL 8 1 d_A_restore_48 fg_10_335 rfl rfl (Nf_58 (by decide)) ?_
            refine x_putLE 10 12 d_A_restore_51 fp_10_94 rfl rfl (Nf_58 (by decide)) (fun w49 ew49 => ?_)
            have h := h w49 ew49
            refine x_aload_n 0 d_A_restore_54 rfl ?_
            refine x_getR 10 2 11 d_A_restore_55 fg_10_32 rfl rfl rfl (Nf_58 (by decide)) ?_
            refine x_callVV (st := []) M_H_forget [] d_A_restore_58 ml_10_112 cv_H_forget rfl rfl (Nf_58 (by decide)) rfl (Nat.le_of_ble_eq_true rfl) ⟨Nat.le_of_ble_eq_true rfl, Nat.le_of_ble_eq_true rfl⟩ ⟨rfl, rfl⟩ h (fun w50 h => ?_)
            refine x_aload_n 0 d_A_restore_61 rfl ?_
            refine x_callVI (st := []) M_A_filledBlocks [] d_A_restore_62 ml_10_314 cv_A_filledBlocks rfl rfl (Nf_58 (by decide)) rfl (Nat.le_of_ble_eq_true rfl) ⟨Nat.le_of_ble_eq_true rfl, Nat.le_of_ble_eq_true rfl⟩ ⟨rfl, rfl⟩ h (fun r52 w51 h => ?_)
            exact x_retI d_A_restore_65 rfl ⟨rfl, rfl⟩ h
      · have h := h.2 c0
        refine x_bipush (v := (-3)) d_A_restore_20 (by decide) ?_
        exact x_retI d_A_restore_22 rfl ⟨rfl, rfl⟩ h
  · have h := h.2 c0
    refine x_iconst (v := (-1)) d_A_restore_7 (by decide) ?_
    exact x_retI d_A_restore_8 rfl ⟨rfl, rfl⟩ h
set_option maxHeartbeats 1000000 in
theorem r_N_setLimits {x3 : Int32} {y1 : Int64} {w : Wd} {K : Wd → Prop} (h : E 1 M_N_setLimits 3 [(0, .ref 24), (1, .long y1), (3, .int x3), (4, .int 0)] [] w (qV 1 K)) : RunV 1 M_N_setLimits [.ref 24, .long y1, .int x3] w K := by
  refine runs_of (L := [(0, .ref 24), (1, .long y1), (3, .int x3)]) rfl (Nat.le_of_ble_eq_true rfl) rfl ?_
  refine x_iconst (v := 0) d_N_setLimits_0 (by decide) ?_
  refine x_istore (L' := [(0, .ref 24), (1, .long y1), (3, .int x3), (4, .int 0)]) [1, 2, 3, 0] d_N_setLimits_1 (by decide) rfl ?_
  exact h
set_option maxHeartbeats 1000000 in
theorem w_N_setLimits_3 {x3 x4 : Int32} {y1 : Int64} {w : Wd} {K : Wd → Prop} (h : ((w.1 1 2) ≤ x4 → K w) ∧ (¬ (w.1 1 2) ≤ x4 → RunZ 1 M_A_holds [.long y1, .int x4] w (fun z2 w1 => (z2 = false → vp_in x4 40 ∧ ∀ w3 : Wd, w3 = upI w1 27 x4.toNatClampNeg x3 → ∀ a4 : Int32, a4 = x4 + 1 → E 1 M_N_setLimits 3 [(0, .ref 24), (1, .long y1), (3, .int x3), (4, .int a4)] [] w3 (qV 1 K)) ∧ (z2 = true → vp_in x4 40 ∧ ∀ w5 : Wd, w5 = upI w1 27 x4.toNatClampNeg 0 → ∀ a6 : Int32, a6 = x4 + 1 → E 1 M_N_setLimits 3 [(0, .ref 24), (1, .long y1), (3, .int x3), (4, .int a6)] [] w5 (qV 1 K))))) : E 1 M_N_setLimits 3 [(0, .ref 24), (1, .long y1), (3, .int x3), (4, .int x4)] [] w (qV 1 K) := by
  refine x_iload 3 d_N_setLimits_3 rfl ?_
  refine x_aload_n 0 d_N_setLimits_5 rfl ?_
  refine x_getR 4 0 1 d_N_setLimits_6 fg_4_34 rfl rfl rfl (Nf_58 (by decide)) ?_
  refine x_getI 5 2 d_N_setLimits_9 fg_4_48 rfl rfl (Nf_58 (by decide)) ?_
  refine x_icmp_ge 42 d_N_setLimits_12 (by decide) (fun c0 => ?_) (fun c0 => ?_)
  · have h := h.1 c0
    exact x_retV d_N_setLimits_42 rfl ⟨rfl, rfl⟩ h
  · have h := h.2 c0
    refine x_aload_n 0 d_N_setLimits_15 rfl ?_
    refine x_getR 4 3 27 d_N_setLimits_16 fg_4_19 rfl rfl rfl (Nf_58 (by decide)) ?_
    refine x_iload 3 d_N_setLimits_19 rfl ?_
    refine x_lload_n 1 d_N_setLimits_21 rfl ?_
    refine x_iload 3 d_N_setLimits_22 rfl ?_
    refine x_callSZ (st := [.int x4, .ref 27]) M_A_holds [.long y1, .int x4] d_N_setLimits_24 ml_4_53 cv_A_holds rfl (Nat.le_of_ble_eq_true rfl) ⟨Nat.le_of_ble_eq_true rfl, Nat.le_of_ble_eq_true rfl⟩ ⟨rfl, rfl⟩ h (fun z2 w1 h => ?_)
    refine x_zif_eq 34 d_N_setLimits_27 (by decide) (fun c0 => ?_) (fun c0 => ?_)
    · have h := h.1 c0
      refine x_iload_n 2 d_N_setLimits_34 rfl ?_
      obtain ⟨h0, h⟩ := h
      refine x_iastE d_N_setLimits_35 rfl (Nf_58 (by decide)) h0 (fun w3 ew3 => ?_)
      have h := h w3 ew3
      obtain ⟨a4, ea4⟩ : ∃ z : Int32, z = x4 + 1 := ⟨_, rfl⟩
      have h := h a4 ea4
      refine x_iincE (L' := [(0, .ref 24), (1, .long y1), (3, .int x3), (4, .int a4)]) 3 [1, 2, 3, 0] d_N_setLimits_36 rfl ea4 (by decide) rfl ?_
      refine x_goto 3 d_N_setLimits_39 (by decide) ?_
      exact h
    · have h := h.2 c0
      refine x_iconst (v := 0) d_N_setLimits_30 (by decide) ?_
      refine x_goto 35 d_N_setLimits_31 (by decide) ?_
      obtain ⟨h0, h⟩ := h
      refine x_iastE d_N_setLimits_35 rfl (Nf_58 (by decide)) h0 (fun w5 ew5 => ?_)
      have h := h w5 ew5
      obtain ⟨a6, ea6⟩ : ∃ z : Int32, z = x4 + 1 := ⟨_, rfl⟩
      have h := h a6 ea6
      refine x_iincE (L' := [(0, .ref 24), (1, .long y1), (3, .int x3), (4, .int a6)]) 3 [1, 2, 3, 0] d_N_setLimits_36 rfl ea6 (by decide) rfl ?_
      refine x_goto 3 d_N_setLimits_39 (by decide) ?_
      exact h
set_option maxHeartbeats 1000000 in
theorem r_N_possibleBits {x1 : Int32} {w : Wd} {K : Int32 → Wd → Prop} (h : (x1 ≤ 0 → K ((w.1 1 1) * ((w.1 1 0) - 0)) w) ∧ (¬ x1 ≤ 0 → (¬ x1 = 0) ∧ ∀ a1 : Int32, a1 = ((w.1 1 0) - 1) / x1 → K ((w.1 1 1) * ((w.1 1 0) - a1)) w)) : RunI 1 M_N_possibleBits [.ref 24, .int x1] w K := by
  refine runs_of (L := [(0, .ref 24), (1, .int x1)]) rfl (Nat.le_of_ble_eq_true rfl) rfl ?_
  refine x_iload_n 1 d_N_possibleBits_0 rfl ?_
  refine x_if_le 18 d_N_possibleBits_1 (by decide) (fun c0 => ?_) (fun c0 => ?_)
  · have h := h.1 c0
    refine x_iconst (v := 0) d_N_possibleBits_18 (by decide) ?_
    refine x_istore_n (L' := [(0, .ref 24), (1, .int x1), (2, .int 0)]) [1, 2, 0] d_N_possibleBits_19 (by decide) rfl ?_
    refine x_aload_n 0 d_N_possibleBits_20 rfl ?_
    refine x_getR 4 0 1 d_N_possibleBits_21 fg_4_34 rfl rfl rfl (Nf_58 (by decide)) ?_
    refine x_getI 5 1 d_N_possibleBits_24 fg_4_77 rfl rfl (Nf_58 (by decide)) ?_
    refine x_aload_n 0 d_N_possibleBits_27 rfl ?_
    refine x_getR 4 0 1 d_N_possibleBits_28 fg_4_34 rfl rfl rfl (Nf_58 (by decide)) ?_
    refine x_getI 5 0 d_N_possibleBits_31 fg_4_74 rfl rfl (Nf_58 (by decide)) ?_
    refine x_iload_n 2 d_N_possibleBits_34 rfl ?_
    refine x_isub d_N_possibleBits_35 ?_
    refine x_imul d_N_possibleBits_36 ?_
    exact x_retI d_N_possibleBits_37 rfl ⟨rfl, rfl⟩ h
  · have h := h.2 c0
    refine x_aload_n 0 d_N_possibleBits_4 rfl ?_
    refine x_getR 4 0 1 d_N_possibleBits_5 fg_4_34 rfl rfl rfl (Nf_58 (by decide)) ?_
    refine x_getI 5 0 d_N_possibleBits_8 fg_4_74 rfl rfl (Nf_58 (by decide)) ?_
    refine x_iconst (v := 1) d_N_possibleBits_11 (by decide) ?_
    refine x_isub d_N_possibleBits_12 ?_
    refine x_iload_n 1 d_N_possibleBits_13 rfl ?_
    obtain ⟨h0, h⟩ := h
    refine x_idiv d_N_possibleBits_14 h0 ?_
    refine x_goto 19 d_N_possibleBits_15 (by decide) ?_
    obtain ⟨a1, ea1⟩ : ∃ z : Int32, z = ((w.1 1 0) - 1) / x1 := ⟨_, rfl⟩
    have h := h a1 ea1
    refine x_istore_nE (L' := [(0, .ref 24), (1, .int x1), (2, .int a1)]) [1, 2, 0] d_N_possibleBits_19 (by decide) ea1 rfl ?_
    refine x_aload_n 0 d_N_possibleBits_20 rfl ?_
    refine x_getR 4 0 1 d_N_possibleBits_21 fg_4_34 rfl rfl rfl (Nf_58 (by decide)) ?_
    refine x_getI 5 1 d_N_possibleBits_24 fg_4_77 rfl rfl (Nf_58 (by decide)) ?_
    refine x_aload_n 0 d_N_possibleBits_27 rfl ?_
    refine x_getR 4 0 1 d_N_possibleBits_28 fg_4_34 rfl rfl rfl (Nf_58 (by decide)) ?_
    refine x_getI 5 0 d_N_possibleBits_31 fg_4_74 rfl rfl (Nf_58 (by decide)) ?_
    refine x_iload_n 2 d_N_possibleBits_34 rfl ?_
    refine x_isub d_N_possibleBits_35 ?_
    refine x_imul d_N_possibleBits_36 ?_
    exact x_retI d_N_possibleBits_37 rfl ⟨rfl, rfl⟩ h
set_option maxHeartbeats 1000000 in
theorem r_G_isLeastTranslate {y1 : Int64} {w : Wd} {K : Bool → Wd → Prop} (h : E 1 M_G_isLeastTranslate 5 [(0, .ref 1), (1, .long y1), (3, .long y1), (5, .int 0)] [] w (qZ 1 K)) : RunZ 1 M_G_isLeastTranslate [.ref 1, .long y1] w K := by
  refine runs_of (L := [(0, .ref 1), (1, .long y1)]) rfl (Nat.le_of_ble_eq_true rfl) rfl ?_
  refine x_lload_n 1 d_G_isLeastTranslate_0 rfl ?_
  refine x_lstore_n (L' := [(0, .ref 1), (1, .long y1), (3, .long y1)]) [1, 2, 0] d_G_isLeastTranslate_1 (by decide) rfl ?_
  refine x_iconst (v := 0) d_G_isLeastTranslate_2 (by decide) ?_
  refine x_istore (L' := [(0, .ref 1), (1, .long y1), (3, .long y1), (5, .int 0)]) [1, 2, 3, 0] d_G_isLeastTranslate_3 (by decide) rfl ?_
  exact h
set_option maxHeartbeats 1000000 in
theorem w_G_isLeastTranslate_5 {x5 : Int32} {y1 y3 : Int64} {w : Wd} {K : Bool → Wd → Prop} (h : ((w.1 1 2) ≤ x5 → K true w) ∧ (¬ (w.1 1 2) ≤ x5 → RunL 1 M_G_onward [.ref 1, .long y3, .int x5] w (fun r2 w1 => (y1 ≤ r2 → ∀ a3 : Int32, a3 = x5 + 1 → E 1 M_G_isLeastTranslate 5 [(0, .ref 1), (1, .long y1), (3, .long r2), (5, .int a3)] [] w1 (qZ 1 K)) ∧ (¬ y1 ≤ r2 → K false w1)))) : E 1 M_G_isLeastTranslate 5 [(0, .ref 1), (1, .long y1), (3, .long y3), (5, .int x5)] [] w (qZ 1 K) := by
  refine x_iload 3 d_G_isLeastTranslate_5 rfl ?_
  refine x_aload_n 0 d_G_isLeastTranslate_7 rfl ?_
  refine x_getI 5 2 d_G_isLeastTranslate_8 fg_5_37 rfl rfl (Nf_58 (by decide)) ?_
  refine x_icmp_ge 36 d_G_isLeastTranslate_11 (by decide) (fun c0 => ?_) (fun c0 => ?_)
  · have h := h.1 c0
    refine x_iconst (v := 1) d_G_isLeastTranslate_36 (by decide) ?_
    exact x_retZ (z := true) d_G_isLeastTranslate_37 rfl rfl ⟨rfl, rfl⟩ h
  · have h := h.2 c0
    refine x_aload_n 0 d_G_isLeastTranslate_14 rfl ?_
    refine x_lload_n 2 d_G_isLeastTranslate_15 rfl ?_
    refine x_iload 3 d_G_isLeastTranslate_16 rfl ?_
    refine x_callVL (st := []) M_G_onward [.long y3, .int x5] d_G_isLeastTranslate_18 ml_5_82 cv_G_onward rfl rfl (Nf_58 (by decide)) rfl (Nat.le_of_ble_eq_true rfl) ⟨Nat.le_of_ble_eq_true rfl, Nat.le_of_ble_eq_true rfl⟩ ⟨rfl, rfl⟩ h (fun r2 w1 h => ?_)
    refine x_lstore_n (L' := [(0, .ref 1), (1, .long y1), (3, .long r2), (5, .int x5)]) [1, 2, 0, 3] d_G_isLeastTranslate_21 (by decide) rfl ?_
    refine x_lload_n 2 d_G_isLeastTranslate_22 rfl ?_
    refine x_lload_n 1 d_G_isLeastTranslate_23 rfl ?_
    refine x_lif_ge 30 d_G_isLeastTranslate_24 d_G_isLeastTranslate_25 (by decide) (fun c0 => ?_) (fun c0 => ?_)
    · have h := h.1 c0
      obtain ⟨a3, ea3⟩ : ∃ z : Int32, z = x5 + 1 := ⟨_, rfl⟩
      have h := h a3 ea3
      refine x_iincE (L' := [(0, .ref 1), (1, .long y1), (3, .long r2), (5, .int a3)]) 3 [1, 2, 3, 0] d_G_isLeastTranslate_30 rfl ea3 (by decide) rfl ?_
      refine x_goto 5 d_G_isLeastTranslate_33 (by decide) ?_
      exact h
    · have h := h.2 c0
      refine x_iconst (v := 0) d_G_isLeastTranslate_28 (by decide) ?_
      exact x_retZ (z := false) d_G_isLeastTranslate_29 rfl rfl ⟨rfl, rfl⟩ h
set_option maxHeartbeats 1000000 in
theorem r_N_isCandidate {y1 : Int64} {w : Wd} {K : Bool → Wd → Prop} (h : RunZ 1 M_G_isLeastTranslate [.ref 1, .long y1] w (fun z2 w1 => (z2 = false → K false w1) ∧ (z2 = true → RunL 1 M_G_mapped [.ref 1, .long y1, .ref 26] w1 (fun r4 w3 => RunL 1 M_G_leastTranslate [.ref 1, .long r4] w3 (fun r6 w5 => (¬ r6 = y1 → K false w5) ∧ (r6 = y1 → K true w5)))))) : RunZ 1 M_N_isCandidate [.ref 24, .long y1] w K := by
  refine runs_of (L := [(0, .ref 24), (1, .long y1)]) rfl (Nat.le_of_ble_eq_true rfl) rfl ?_
  refine x_aload_n 0 d_N_isCandidate_0 rfl ?_
  refine x_getR 4 0 1 d_N_isCandidate_1 fg_4_34 rfl rfl rfl (Nf_58 (by decide)) ?_
  refine x_lload_n 1 d_N_isCandidate_4 rfl ?_
  refine x_callVZ (st := []) M_G_isLeastTranslate [.long y1] d_N_isCandidate_5 ml_4_80 cv_G_isLeastTranslate rfl rfl (Nf_58 (by decide)) rfl (Nat.le_of_ble_eq_true rfl) ⟨Nat.le_of_ble_eq_true rfl, Nat.le_of_ble_eq_true rfl⟩ ⟨rfl, rfl⟩ h (fun z2 w1 h => ?_)
  refine x_zif_eq 39 d_N_isCandidate_8 (by decide) (fun c0 => ?_) (fun c0 => ?_)
  · have h := h.1 c0
    refine x_iconst (v := 0) d_N_isCandidate_39 (by decide) ?_
    exact x_retZ (z := false) d_N_isCandidate_40 rfl rfl ⟨rfl, rfl⟩ h
  · have h := h.2 c0
    refine x_aload_n 0 d_N_isCandidate_11 rfl ?_
    refine x_getR 4 0 1 d_N_isCandidate_12 fg_4_34 rfl rfl rfl (Nf_58 (by decide)) ?_
    refine x_aload_n 0 d_N_isCandidate_15 rfl ?_
    refine x_getR 4 0 1 d_N_isCandidate_16 fg_4_34 rfl rfl rfl (Nf_58 (by decide)) ?_
    refine x_lload_n 1 d_N_isCandidate_19 rfl ?_
    refine x_aload_n 0 d_N_isCandidate_20 rfl ?_
    refine x_getR 4 2 26 d_N_isCandidate_21 fg_4_15 rfl rfl rfl (Nf_58 (by decide)) ?_
    refine x_callVL (st := [.ref 1]) M_G_mapped [.long y1, .ref 26] d_N_isCandidate_24 ml_4_83 cv_G_mapped rfl rfl (Nf_58 (by decide)) rfl (Nat.le_of_ble_eq_true rfl) ⟨Nat.le_of_ble_eq_true rfl, Nat.le_of_ble_eq_true rfl⟩ ⟨rfl, rfl⟩ h (fun r4 w3 h => ?_)
    refine x_callVL (st := []) M_G_leastTranslate [.long r4] d_N_isCandidate_27 ml_4_87 cv_G_leastTranslate rfl rfl (Nf_58 (by decide)) rfl (Nat.le_of_ble_eq_true rfl) ⟨Nat.le_of_ble_eq_true rfl, Nat.le_of_ble_eq_true rfl⟩ ⟨rfl, rfl⟩ h (fun r6 w5 h => ?_)
    refine x_lload_n 1 d_N_isCandidate_30 rfl ?_
    refine x_lif_ne 39 d_N_isCandidate_31 d_N_isCandidate_32 (by decide) (fun c0 => ?_) (fun c0 => ?_)
    · have h := h.1 c0
      refine x_iconst (v := 0) d_N_isCandidate_39 (by decide) ?_
      exact x_retZ (z := false) d_N_isCandidate_40 rfl rfl ⟨rfl, rfl⟩ h
    · have h := h.2 c0
      refine x_iconst (v := 1) d_N_isCandidate_35 (by decide) ?_
      refine x_goto 40 d_N_isCandidate_36 (by decide) ?_
      exact x_retZ (z := true) d_N_isCandidate_40 rfl rfl ⟨rfl, rfl⟩ h
set_option maxHeartbeats 1000000 in
theorem r_N_nextOfSameSize {y0 : Int64} {w : Wd} {K : Int64 → Wd → Prop} (h : ∀ b1 : Int64, b1 = y0 &&& (-y0) → ∀ b2 : Int64, b2 = y0 + b1 → RunI 1 M_J_bitCount [.long (b1 - 1)] w (fun r4 w3 => ∀ a5 : Int32, a5 = r4 + 2 → K (b2 ||| (((b2 ^^^ y0).toUInt64 >>> (a5.toInt64.toUInt64 &&& Int64.toUInt64 63)).toInt64)) w3)) : RunL 1 M_N_nextOfSameSize [.long y0] w K := by
  refine runs_of (L := [(0, .long y0)]) rfl (Nat.le_of_ble_eq_true rfl) rfl ?_
  refine x_lload_n 0 d_N_nextOfSameSize_0 rfl ?_
  refine x_lload_n 0 d_N_nextOfSameSize_1 rfl ?_
  refine x_lneg d_N_nextOfSameSize_2 ?_
  refine x_land d_N_nextOfSameSize_3 ?_
  obtain ⟨b1, eb1⟩ : ∃ z : Int64, z = y0 &&& (-y0) := ⟨_, rfl⟩
  have h := h b1 eb1
  refine x_lstore_nE (L' := [(0, .long y0), (2, .long b1)]) [1, 0] d_N_nextOfSameSize_4 (by decide) eb1 rfl ?_
  refine x_lload_n 0 d_N_nextOfSameSize_5 rfl ?_
  refine x_lload_n 1 d_N_nextOfSameSize_6 rfl ?_
  refine x_ladd d_N_nextOfSameSize_7 ?_
  obtain ⟨b2, eb2⟩ : ∃ z : Int64, z = y0 + b1 := ⟨_, rfl⟩
  have h := h b2 eb2
  refine x_lstoreE (L' := [(0, .long y0), (2, .long b1), (4, .long b2)]) [1, 2, 0] d_N_nextOfSameSize_8 (by decide) eb2 rfl ?_
  refine x_lload_n 1 d_N_nextOfSameSize_10 rfl ?_
  refine x_lconst (v := 1) d_N_nextOfSameSize_11 (by decide) ?_
  refine x_lsub d_N_nextOfSameSize_12 ?_
  refine x_callSI (st := []) M_J_bitCount [.long (b1 - 1)] d_N_nextOfSameSize_13 ml_4_90 cv_J_bitCount rfl (Nat.le_of_ble_eq_true rfl) ⟨Nat.le_of_ble_eq_true rfl, Nat.le_of_ble_eq_true rfl⟩ ⟨rfl, rfl⟩ h (fun r4 w3 h => ?_)
  refine x_iconst (v := 2) d_N_nextOfSameSize_16 (by decide) ?_
  refine x_iadd d_N_nextOfSameSize_17 ?_
  obtain ⟨a5, ea5⟩ : ∃ z : Int32, z = r4 + 2 := ⟨_, rfl⟩
  have h := h a5 ea5
  refine x_istoreE (L' := [(0, .long y0), (2, .long b1), (4, .long b2), (6, .int a5)]) [1, 2, 3, 0] d_N_nextOfSameSize_18 (by decide) ea5 rfl ?_
  refine x_lload 2 d_N_nextOfSameSize_20 rfl ?_
  refine x_lload 2 d_N_nextOfSameSize_22 rfl ?_
  refine x_lload_n 0 d_N_nextOfSameSize_24 rfl ?_
  refine x_lxor d_N_nextOfSameSize_25 ?_
  refine x_iload 3 d_N_nextOfSameSize_26 rfl ?_
  refine x_lushr d_N_nextOfSameSize_28 ?_
  refine x_lor d_N_nextOfSameSize_29 ?_
  exact x_retL d_N_nextOfSameSize_30 rfl ⟨rfl, rfl⟩ h
set_option maxHeartbeats 1000000 in
theorem r_N_listCandidates {x1 x2 : Int32} {w : Wd} {K : Wd → Prop} (h : ∀ w1 : Wd, w1 = upI w 24 8 0 → RunV 1 M_G_fillMultiples [.ref 1, .int x2, .ref 26] w1 (fun w2 => RunI 1 M_N_possibleBits [.ref 24, .int x1] w2 (fun r4 w3 => ∀ b5 : Int64, b5 = 1 <<< (r4.toInt64 &&& 63) → ∀ b6 : Int64, b6 = (1 <<< (x1.toInt64 &&& 63)) - 1 → E 1 M_N_listCandidates 35 [(0, .ref 24), (3, .long b5), (5, .long b6), (7, .int 0)] [] w3 (qV 1 K)))) : RunV 1 M_N_listCandidates [.ref 24, .int x1, .int x2] w K := by
  refine runs_of (L := [(0, .ref 24), (1, .int x1), (2, .int x2)]) rfl (Nat.le_of_ble_eq_true rfl) rfl ?_
  refine x_aload_n 0 d_N_listCandidates_0 rfl ?_
  refine x_iconst (v := 0) d_N_listCandidates_1 (by decide) ?_
  refine x_putIE 4 8 d_N_listCandidates_2 fp_4_38 rfl rfl (Nf_58 (by decide)) (fun w1 ew1 => ?_)
  have h := h w1 ew1
  refine x_aload_n 0 d_N_listCandidates_5 rfl ?_
  refine x_getR 4 0 1 d_N_listCandidates_6 fg_4_34 rfl rfl rfl (Nf_58 (by decide)) ?_
  refine x_iload_n 2 d_N_listCandidates_9 rfl ?_
  refine x_aload_n 0 d_N_listCandidates_10 rfl ?_
  refine x_getR 4 2 26 d_N_listCandidates_11 fg_4_15 rfl rfl rfl (Nf_58 (by decide)) ?_
  refine x_callVV (st := []) M_G_fillMultiples [.int x2, .ref 26] d_N_listCandidates_14 ml_4_57 cv_G_fillMultiples rfl rfl (Nf_58 (by decide)) rfl (Nat.le_of_ble_eq_true rfl) ⟨Nat.le_of_ble_eq_true rfl, Nat.le_of_ble_eq_true rfl⟩ ⟨rfl, rfl⟩ h (fun w2 h => ?_)
  refine x_lconst (v := 1) d_N_listCandidates_17 (by decide) ?_
  refine x_aload_n 0 d_N_listCandidates_18 rfl ?_
  refine x_iload_n 1 d_N_listCandidates_19 rfl ?_
  refine x_callVI (st := [.long 1]) M_N_possibleBits [.int x1] d_N_listCandidates_20 ml_4_61 cv_N_possibleBits rfl rfl (Nf_58 (by decide)) rfl (Nat.le_of_ble_eq_true rfl) ⟨Nat.le_of_ble_eq_true rfl, Nat.le_of_ble_eq_true rfl⟩ ⟨rfl, rfl⟩ h (fun r4 w3 h => ?_)
  refine x_lshl d_N_listCandidates_23 ?_
  obtain ⟨b5, eb5⟩ : ∃ z : Int64, z = 1 <<< (r4.toInt64 &&& 63) := ⟨_, rfl⟩
  have h := h b5 eb5
  refine x_lstore_nE (L' := [(0, .ref 24), (1, .int x1), (2, .int x2), (3, .long b5)]) [1, 2, 3, 0] d_N_listCandidates_24 (by decide) eb5 rfl ?_
  refine x_lconst (v := 1) d_N_listCandidates_25 (by decide) ?_
  refine x_iload_n 1 d_N_listCandidates_26 rfl ?_
  refine x_lshl d_N_listCandidates_27 ?_
  refine x_lconst (v := 1) d_N_listCandidates_28 (by decide) ?_
  refine x_lsub d_N_listCandidates_29 ?_
  obtain ⟨b6, eb6⟩ : ∃ z : Int64, z = (1 <<< (x1.toInt64 &&& 63)) - 1 := ⟨_, rfl⟩
  have h := h b6 eb6
  refine x_lstoreE (L' := [(0, .ref 24), (1, .int x1), (2, .int x2), (3, .long b5), (5, .long b6)]) [1, 2, 3, 4, 0] d_N_listCandidates_30 (by decide) eb6 rfl ?_
  refine x_iconst (v := 0) d_N_listCandidates_32 (by decide) ?_
  refine x_istore (L' := [(0, .ref 24), (1, .int x1), (2, .int x2), (3, .long b5), (5, .long b6), (7, .int 0)]) [1, 2, 3, 4, 5, 0] d_N_listCandidates_33 (by decide) rfl ?_
  exact x_perm [0, 3, 4, 5] rfl h
set_option maxHeartbeats 1000000 in
theorem w_N_listCandidates_35 {x7 : Int32} {y3 y5 : Int64} {w : Wd} {K : Wd → Prop} (h : (53130 ≤ x7 → K w) ∧ (¬ 53130 ≤ x7 → (y3 ≤ y5 → K w) ∧ (¬ y3 ≤ y5 → RunZ 1 M_N_isCandidate [.ref 24, .long y5] w (fun z2 w1 => (z2 = false → RunL 1 M_N_nextOfSameSize [.long y5] w1 (fun r4 w3 => ∀ a5 : Int32, a5 = x7 + 1 → E 1 M_N_listCandidates 35 [(0, .ref 24), (3, .long y3), (5, .long r4), (7, .int a5)] [] w3 (qV 1 K))) ∧ (z2 = true → (2130 ≤ (w1.1 24 8) → RunL 1 M_N_nextOfSameSize [.long y5] w1 (fun r7 w6 => ∀ a8 : Int32, a8 = x7 + 1 → E 1 M_N_listCandidates 35 [(0, .ref 24), (3, .long y3), (5, .long r7), (7, .int a8)] [] w6 (qV 1 K))) ∧ (¬ 2130 ≤ (w1.1 24 8) → vp_in (w1.1 24 8) 2130 ∧ ∀ w9 : Wd, w9 = upL w1 25 (w1.1 24 8).toNatClampNeg y5 → ∀ w10 : Wd, w10 = upI w9 24 8 ((w9.1 24 8) + 1) → RunL 1 M_N_nextOfSameSize [.long y5] w10 (fun r12 w11 => ∀ a13 : Int32, a13 = x7 + 1 → E 1 M_N_listCandidates 35 [(0, .ref 24), (3, .long y3), (5, .long r12), (7, .int a13)] [] w11 (qV 1 K)))))))) : E 1 M_N_listCandidates 35 [(0, .ref 24), (3, .long y3), (5, .long y5), (7, .int x7)] [] w (qV 1 K) := by
  refine x_iload 3 d_N_listCandidates_35 rfl ?_
  refine x_ldc (v := 53130) d_N_listCandidates_37 mw_802 ?_
  refine x_icmp_ge 102 d_N_listCandidates_39 (by decide) (fun c0 => ?_) (fun c0 => ?_)
  · have h := h.1 c0
    exact x_retV d_N_listCandidates_102 rfl ⟨rfl, rfl⟩ h
  · have h := h.2 c0
    refine x_lload 2 d_N_listCandidates_42 rfl ?_
    refine x_lload_n 1 d_N_listCandidates_44 rfl ?_
    refine x_lif_ge 102 d_N_listCandidates_45 d_N_listCandidates_46 (by decide) (fun c0 => ?_) (fun c0 => ?_)
    · have h := h.1 c0
      exact x_retV d_N_listCandidates_102 rfl ⟨rfl, rfl⟩ h
    · have h := h.2 c0
      refine x_aload_n 0 d_N_listCandidates_49 rfl ?_
      refine x_lload 2 d_N_listCandidates_50 rfl ?_
      refine x_callVZ (st := []) M_N_isCandidate [.long y5] d_N_listCandidates_52 ml_4_66 cv_N_isCandidate rfl rfl (Nf_58 (by decide)) rfl (Nat.le_of_ble_eq_true rfl) ⟨Nat.le_of_ble_eq_true rfl, Nat.le_of_ble_eq_true rfl⟩ ⟨rfl, rfl⟩ h (fun z2 w1 h => ?_)
      refine x_zif_eq 89 d_N_listCandidates_55 (by decide) (fun c0 => ?_) (fun c0 => ?_)
      · have h := h.1 c0
        refine x_lload 2 d_N_listCandidates_89 rfl ?_
        refine x_callSL (st := []) M_N_nextOfSameSize [.long y5] d_N_listCandidates_91 ml_4_70 cv_N_nextOfSameSize rfl (Nat.le_of_ble_eq_true rfl) ⟨Nat.le_of_ble_eq_true rfl, Nat.le_of_ble_eq_true rfl⟩ ⟨rfl, rfl⟩ h (fun r4 w3 h => ?_)
        refine x_lstore (L' := [(0, .ref 24), (3, .long y3), (5, .long r4), (7, .int x7)]) [1, 2, 0, 3] d_N_listCandidates_94 (by decide) rfl ?_
        obtain ⟨a5, ea5⟩ : ∃ z : Int32, z = x7 + 1 := ⟨_, rfl⟩
        have h := h a5 ea5
        refine x_iincE (L' := [(0, .ref 24), (3, .long y3), (5, .long r4), (7, .int a5)]) 3 [1, 2, 3, 0] d_N_listCandidates_96 rfl ea5 (by decide) rfl ?_
        refine x_goto 35 d_N_listCandidates_99 (by decide) ?_
        exact h
      · have h := h.2 c0
        refine x_aload_n 0 d_N_listCandidates_58 rfl ?_
        refine x_getI 4 8 d_N_listCandidates_59 fg_4_38 rfl rfl (Nf_58 (by decide)) ?_
        refine x_sipush (v := 2130) d_N_listCandidates_62 (by decide) ?_
        refine x_icmp_ge 89 d_N_listCandidates_65 (by decide) (fun c0 => ?_) (fun c0 => ?_)
        · have h := h.1 c0
          refine x_lload 2 d_N_listCandidates_89 rfl ?_
          refine x_callSL (st := []) M_N_nextOfSameSize [.long y5] d_N_listCandidates_91 ml_4_70 cv_N_nextOfSameSize rfl (Nat.le_of_ble_eq_true rfl) ⟨Nat.le_of_ble_eq_true rfl, Nat.le_of_ble_eq_true rfl⟩ ⟨rfl, rfl⟩ h (fun r7 w6 h => ?_)
          refine x_lstore (L' := [(0, .ref 24), (3, .long y3), (5, .long r7), (7, .int x7)]) [1, 2, 0, 3] d_N_listCandidates_94 (by decide) rfl ?_
          obtain ⟨a8, ea8⟩ : ∃ z : Int32, z = x7 + 1 := ⟨_, rfl⟩
          have h := h a8 ea8
          refine x_iincE (L' := [(0, .ref 24), (3, .long y3), (5, .long r7), (7, .int a8)]) 3 [1, 2, 3, 0] d_N_listCandidates_96 rfl ea8 (by decide) rfl ?_
          refine x_goto 35 d_N_listCandidates_99 (by decide) ?_
          exact h
        · have h := h.2 c0
          refine x_aload_n 0 d_N_listCandidates_68 rfl ?_
          refine x_getR 4 1 25 d_N_listCandidates_69 fg_4_11 rfl rfl rfl (Nf_58 (by decide)) ?_
          refine x_aload_n 0 d_N_listCandidates_72 rfl ?_
          refine x_getI 4 8 d_N_listCandidates_73 fg_4_38 rfl rfl (Nf_58 (by decide)) ?_
          refine x_lload 2 d_N_listCandidates_76 rfl ?_
          obtain ⟨h0, h⟩ := h
          refine x_lastE d_N_listCandidates_78 rfl (Nf_58 (by decide)) h0 (fun w9 ew9 => ?_)
          have h := h w9 ew9
          refine x_aload_n 0 d_N_listCandidates_79 rfl ?_
          refine x_dup d_N_listCandidates_80 rfl ?_
          refine x_getI 4 8 d_N_listCandidates_81 fg_4_38 rfl rfl (Nf_58 (by decide)) ?_
          refine x_iconst (v := 1) d_N_listCandidates_84 (by decide) ?_
          refine x_iadd d_N_listCandidates_85 ?_
          refine x_putIE 4 8 d_N_listCandidates_86 fp_4_38 rfl rfl (Nf_58 (by decide)) (fun w10 ew10 => ?_)
          have h := h w10 ew10
          refine x_lload 2 d_N_listCandidates_89 rfl ?_
          refine x_callSL (st := []) M_N_nextOfSameSize [.long y5] d_N_listCandidates_91 ml_4_70 cv_N_nextOfSameSize rfl (Nat.le_of_ble_eq_true rfl) ⟨Nat.le_of_ble_eq_true rfl, Nat.le_of_ble_eq_true rfl⟩ ⟨rfl, rfl⟩ h (fun r12 w11 h => ?_)
          refine x_lstore (L' := [(0, .ref 24), (3, .long y3), (5, .long r12), (7, .int x7)]) [1, 2, 0, 3] d_N_listCandidates_94 (by decide) rfl ?_
          obtain ⟨a13, ea13⟩ : ∃ z : Int32, z = x7 + 1 := ⟨_, rfl⟩
          have h := h a13 ea13
          refine x_iincE (L' := [(0, .ref 24), (3, .long y3), (5, .long r12), (7, .int a13)]) 3 [1, 2, 3, 0] d_N_listCandidates_96 rfl ea13 (by decide) rfl ?_
          refine x_goto 35 d_N_listCandidates_99 (by decide) ?_
          exact h
set_option maxHeartbeats 1000000 in
theorem r_N_fits {x1 : Int32} {y2 : Int64} {w : Wd} {K : Bool → Wd → Prop} (h : ∀ a1 : Int32, a1 = x1 * 40 → ∀ a2 : Int32, a2 = a1 + 40 → E 1 M_N_fits 19 [(0, .ref 24), (2, .long y2), (4, .int a1), (5, .int a2), (6, .long y2), (8, .int 1)] [] w (qZ 1 K)) : RunZ 1 M_N_fits [.ref 24, .int x1, .long y2] w K := by
  refine runs_of (L := [(0, .ref 24), (1, .int x1), (2, .long y2)]) rfl (Nat.le_of_ble_eq_true rfl) rfl ?_
  refine x_iload_n 1 d_N_fits_0 rfl ?_
  refine x_bipush (v := 40) d_N_fits_1 (by decide) ?_
  refine x_imul d_N_fits_3 ?_
  obtain ⟨a1, ea1⟩ : ∃ z : Int32, z = x1 * 40 := ⟨_, rfl⟩
  have h := h a1 ea1
  refine x_istoreE (L' := [(0, .ref 24), (1, .int x1), (2, .long y2), (4, .int a1)]) [1, 2, 3, 0] d_N_fits_4 (by decide) ea1 rfl ?_
  refine x_iload 3 d_N_fits_6 rfl ?_
  refine x_bipush (v := 40) d_N_fits_8 (by decide) ?_
  refine x_iadd d_N_fits_10 ?_
  obtain ⟨a2, ea2⟩ : ∃ z : Int32, z = a1 + 40 := ⟨_, rfl⟩
  have h := h a2 ea2
  refine x_istoreE (L' := [(0, .ref 24), (1, .int x1), (2, .long y2), (4, .int a1), (5, .int a2)]) [1, 2, 3, 4, 0] d_N_fits_11 (by decide) ea2 rfl ?_
  refine x_lload_n 2 d_N_fits_13 rfl ?_
  refine x_lstore (L' := [(0, .ref 24), (1, .int x1), (2, .long y2), (4, .int a1), (5, .int a2), (6, .long y2)]) [1, 2, 3, 4, 5, 0] d_N_fits_14 (by decide) rfl ?_
  refine x_iconst (v := 1) d_N_fits_16 (by decide) ?_
  refine x_istore (L' := [(0, .ref 24), (1, .int x1), (2, .long y2), (4, .int a1), (5, .int a2), (6, .long y2), (8, .int 1)]) [1, 2, 3, 4, 5, 6, 0] d_N_fits_17 (by decide) rfl ?_
  exact x_perm [0, 2, 3, 4, 5, 6] rfl h
set_option maxHeartbeats 1000000 in
theorem w_N_fits_19 {x4 x5 x8 : Int32} {y2 y6 : Int64} {w : Wd} {K : Bool → Wd → Prop} (h : ((w.1 1 2) ≤ x8 → K true w) ∧ (¬ (w.1 1 2) ≤ x8 → RunL 1 M_G_onward [.ref 1, .long y6, .int (x8 - 1)] w (fun r2 w1 => vp_in (x4 + x8) 200 ∧ RunI 1 M_J_bitCount [.long (y2 &&& r2)] w1 (fun r4 w3 => ∀ a5 : Int32, a5 = (w1.1 28 (x4 + x8).toNatClampNeg) + r4 → vp_in x8 40 ∧ (a5 ≤ (w3.1 27 x8.toNatClampNeg) → vp_in (x5 + x8) 200 ∧ ∀ w6 : Wd, w6 = upI w3 28 (x5 + x8).toNatClampNeg a5 → ∀ a7 : Int32, a7 = x8 + 1 → E 1 M_N_fits 19 [(0, .ref 24), (2, .long y2), (4, .int x4), (5, .int x5), (6, .long r2), (8, .int a7)] [] w6 (qZ 1 K)) ∧ (¬ a5 ≤ (w3.1 27 x8.toNatClampNeg) → K false w3))))) : E 1 M_N_fits 19 [(0, .ref 24), (2, .long y2), (4, .int x4), (5, .int x5), (6, .long y6), (8, .int x8)] [] w (qZ 1 K) := by
  refine x_iload 5 d_N_fits_19 rfl ?_
  refine x_aload_n 0 d_N_fits_21 rfl ?_
  refine x_getR 4 0 1 d_N_fits_22 fg_4_34 rfl rfl rfl (Nf_58 (by decide)) ?_
  refine x_getI 5 2 d_N_fits_25 fg_4_48 rfl rfl (Nf_58 (by decide)) ?_
  refine x_icmp_ge 98 d_N_fits_28 (by decide) (fun c0 => ?_) (fun c0 => ?_)
  · have h := h.1 c0
    refine x_iconst (v := 1) d_N_fits_98 (by decide) ?_
    exact x_retZ (z := true) d_N_fits_99 rfl rfl ⟨rfl, rfl⟩ h
  · have h := h.2 c0
    refine x_aload_n 0 d_N_fits_31 rfl ?_
    refine x_getR 4 0 1 d_N_fits_32 fg_4_34 rfl rfl rfl (Nf_58 (by decide)) ?_
    refine x_lload 4 d_N_fits_35 rfl ?_
    refine x_iload 5 d_N_fits_37 rfl ?_
    refine x_iconst (v := 1) d_N_fits_39 (by decide) ?_
    refine x_isub d_N_fits_40 ?_
    refine x_callVL (st := []) M_G_onward [.long y6, .int (x8 - 1)] d_N_fits_41 ml_4_118 cv_G_onward rfl rfl (Nf_58 (by decide)) rfl (Nat.le_of_ble_eq_true rfl) ⟨Nat.le_of_ble_eq_true rfl, Nat.le_of_ble_eq_true rfl⟩ ⟨rfl, rfl⟩ h (fun r2 w1 h => ?_)
    refine x_lstore (L' := [(0, .ref 24), (2, .long y2), (4, .int x4), (5, .int x5), (6, .long r2), (8, .int x8)]) [1, 2, 3, 4, 0, 5] d_N_fits_44 (by decide) rfl ?_
    refine x_aload_n 0 d_N_fits_46 rfl ?_
    refine x_getR 4 4 28 d_N_fits_47 fg_4_22 rfl rfl rfl (Nf_58 (by decide)) ?_
    refine x_iload 2 d_N_fits_50 rfl ?_
    refine x_iload 5 d_N_fits_52 rfl ?_
    refine x_iadd d_N_fits_54 ?_
    obtain ⟨h0, h⟩ := h
    refine x_iald d_N_fits_55 rfl (Nf_58 (by decide)) h0 ?_
    refine x_lload_n 1 d_N_fits_56 rfl ?_
    refine x_lload 4 d_N_fits_57 rfl ?_
    refine x_land d_N_fits_59 ?_
    refine x_callSI (st := [.int (w1.1 28 (x4 + x8).toNatClampNeg)]) M_J_bitCount [.long (y2 &&& r2)] d_N_fits_60 ml_4_90 cv_J_bitCount rfl (Nat.le_of_ble_eq_true rfl) ⟨Nat.le_of_ble_eq_true rfl, Nat.le_of_ble_eq_true rfl⟩ ⟨rfl, rfl⟩ h (fun r4 w3 h => ?_)
    refine x_iadd d_N_fits_63 ?_
    obtain ⟨a5, ea5⟩ : ∃ z : Int32, z = (w1.1 28 (x4 + x8).toNatClampNeg) + r4 := ⟨_, rfl⟩
    have h := h a5 ea5
    refine x_istoreE (L' := [(0, .ref 24), (2, .long y2), (4, .int x4), (5, .int x5), (6, .long r2), (8, .int x8), (9, .int a5)]) [1, 2, 3, 4, 5, 6, 0] d_N_fits_64 (by decide) ea5 rfl ?_
    refine x_iload 6 d_N_fits_66 rfl ?_
    refine x_aload_n 0 d_N_fits_68 rfl ?_
    refine x_getR 4 3 27 d_N_fits_69 fg_4_19 rfl rfl rfl (Nf_58 (by decide)) ?_
    refine x_iload 5 d_N_fits_72 rfl ?_
    obtain ⟨h0, h⟩ := h
    refine x_iald d_N_fits_74 rfl (Nf_58 (by decide)) h0 ?_
    refine x_icmp_le 80 d_N_fits_75 (by decide) (fun c0 => ?_) (fun c0 => ?_)
    · have h := h.1 c0
      refine x_aload_n 0 d_N_fits_80 rfl ?_
      refine x_getR 4 4 28 d_N_fits_81 fg_4_22 rfl rfl rfl (Nf_58 (by decide)) ?_
      refine x_iload 3 d_N_fits_84 rfl ?_
      refine x_iload 5 d_N_fits_86 rfl ?_
      refine x_iadd d_N_fits_88 ?_
      refine x_iload 6 d_N_fits_89 rfl ?_
      obtain ⟨h0, h⟩ := h
      refine x_iastE d_N_fits_91 rfl (Nf_58 (by decide)) h0 (fun w6 ew6 => ?_)
      have h := h w6 ew6
      obtain ⟨a7, ea7⟩ : ∃ z : Int32, z = x8 + 1 := ⟨_, rfl⟩
      have h := h a7 ea7
      refine x_iincE (L' := [(0, .ref 24), (2, .long y2), (4, .int x4), (5, .int x5), (6, .long r2), (8, .int a7), (9, .int a5)]) 5 [1, 2, 3, 4, 5, 0, 6] d_N_fits_92 rfl ea7 (by decide) rfl ?_
      refine x_goto 19 d_N_fits_95 (by decide) ?_
      exact x_perm [0, 1, 2, 3, 4, 5] rfl h
    · have h := h.2 c0
      refine x_iconst (v := 0) d_N_fits_78 (by decide) ?_
      exact x_retZ (z := false) d_N_fits_79 rfl rfl ⟨rfl, rfl⟩ h
