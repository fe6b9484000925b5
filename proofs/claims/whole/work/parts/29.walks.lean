set_option maxHeartbeats 1000000 in
theorem r_B_replication {x1 : Int32} {w : Wd} {K : Int32 → Wd → Prop} (h : RunZ 1 M_B_isElement [.ref 39, .int x1] w (fun z2 w1 => (z2 = true → RunV 1 M_B_develops [.ref 39] w1 (fun w3 => E 1 M_B_replication 18 [(0, .ref 39), (1, .int x1), (2, .int 0), (3, .int 0)] [] w3 (qI 1 K))) ∧ (z2 = false → K ((-1)) w1))) : RunI 1 M_B_replication [.ref 39, .int x1] w K := by
  refine runs_of (L := [(0, .ref 39), (1, .int x1)]) rfl (Nat.le_of_ble_eq_true rfl) rfl ?_
  refine x_aload_n 0 d_B_replication_0 rfl ?_
  refine x_iload_n 1 d_B_replication_1 rfl ?_
  refine x_callVZ (st := []) M_B_isElement [.int x1] d_B_replication_2 ml_11_121 cv_B_isElement rfl rfl (Nf_58 (by decide)) rfl (Nat.le_of_ble_eq_true rfl) ⟨Nat.le_of_ble_eq_true rfl, Nat.le_of_ble_eq_true rfl⟩ ⟨rfl, rfl⟩ h (fun z2 w1 h => ?_)
  refine x_zif_ne 10 d_B_replication_5 (by decide) (fun c0 => ?_) (fun c0 => ?_)
  · have h := h.1 c0
    refine x_aload_n 0 d_B_replication_10 rfl ?_
    refine x_callVV (st := []) M_B_develops [] d_B_replication_11 ml_11_212 cv_B_develops rfl rfl (Nf_58 (by decide)) rfl (Nat.le_of_ble_eq_true rfl) ⟨Nat.le_of_ble_eq_true rfl, Nat.le_of_ble_eq_true rfl⟩ ⟨rfl, rfl⟩ h (fun w3 h => ?_)
    refine x_iconst (v := 0) d_B_replication_14 (by decide) ?_
    refine x_istore_n (L' := [(0, .ref 39), (1, .int x1), (2, .int 0)]) [1, 2, 0] d_B_replication_15 (by decide) rfl ?_
    refine x_iconst (v := 0) d_B_replication_16 (by decide) ?_
    refine x_istore_n (L' := [(0, .ref 39), (1, .int x1), (2, .int 0), (3, .int 0)]) [1, 2, 3, 0] d_B_replication_17 (by decide) rfl ?_
    exact h
  · have h := h.2 c0
    refine x_iconst (v := (-1)) d_B_replication_8 (by decide) ?_
    exact x_retI d_B_replication_9 rfl ⟨rfl, rfl⟩ h
set_option maxHeartbeats 1000000 in
theorem w_B_replication_18 {x1 x2 x3 : Int32} {w : Wd} {K : Int32 → Wd → Prop} (h : ((w.1 39 23) ≤ x3 → K x2 w) ∧ (¬ (w.1 39 23) ≤ x3 → vp_in x3 240 ∧ RunZ 1 M_B_has [.long (w.2 52 x3.toNatClampNeg), .int x1] w (fun z2 w1 => (z2 = false → ∀ a3 : Int32, a3 = x2 + 0 → ∀ a4 : Int32, a4 = x3 + 1 → E 1 M_B_replication 18 [(0, .ref 39), (1, .int x1), (2, .int a3), (3, .int a4)] [] w1 (qI 1 K)) ∧ (z2 = true → ∀ a5 : Int32, a5 = x2 + 1 → ∀ a6 : Int32, a6 = x3 + 1 → E 1 M_B_replication 18 [(0, .ref 39), (1, .int x1), (2, .int a5), (3, .int a6)] [] w1 (qI 1 K))))) : E 1 M_B_replication 18 [(0, .ref 39), (1, .int x1), (2, .int x2), (3, .int x3)] [] w (qI 1 K) := by
  refine x_iload_n 3 d_B_replication_18 rfl ?_
  refine x_aload_n 0 d_B_replication_19 rfl ?_
  refine x_getI 11 23 d_B_replication_20 fg_11_209 rfl rfl (Nf_58 (by decide)) ?_
  refine x_icmp_ge 53 d_B_replication_23 (by decide) (fun c0 => ?_) (fun c0 => ?_)
  · have h := h.1 c0
    refine x_iload_n 2 d_B_replication_53 rfl ?_
    exact x_retI d_B_replication_54 rfl ⟨rfl, rfl⟩ h
  · have h := h.2 c0
    refine x_iload_n 2 d_B_replication_26 rfl ?_
    refine x_aload_n 0 d_B_replication_27 rfl ?_
    refine x_getR 11 24 52 d_B_replication_28 fg_11_62 rfl rfl rfl (Nf_58 (by decide)) ?_
    refine x_iload_n 3 d_B_replication_31 rfl ?_
    obtain ⟨h0, h⟩ := h
    refine x_lald d_B_replication_32 rfl (Nf_58 (by decide)) h0 ?_
    refine x_iload_n 1 d_B_replication_33 rfl ?_
    refine x_callSZ (st := [.int x2]) M_B_has [.long (w.2 52 x3.toNatClampNeg), .int x1] d_B_replication_34 ml_11_134 cv_B_has rfl (Nat.le_of_ble_eq_true rfl) ⟨Nat.le_of_ble_eq_true rfl, Nat.le_of_ble_eq_true rfl⟩ ⟨rfl, rfl⟩ h (fun z2 w1 h => ?_)
    refine x_zif_eq 44 d_B_replication_37 (by decide) (fun c0 => ?_) (fun c0 => ?_)
    · have h := h.1 c0
      refine x_iconst (v := 0) d_B_replication_44 (by decide) ?_
      refine x_iadd d_B_replication_45 ?_
      obtain ⟨a3, ea3⟩ : ∃ z : Int32, z = x2 + 0 := ⟨_, rfl⟩
      have h := h a3 ea3
      refine x_istore_nE (L' := [(0, .ref 39), (1, .int x1), (2, .int a3), (3, .int x3)]) [1, 2, 0, 3] d_B_replication_46 (by decide) ea3 rfl ?_
      obtain ⟨a4, ea4⟩ : ∃ z : Int32, z = x3 + 1 := ⟨_, rfl⟩
      have h := h a4 ea4
      refine x_iincE (L' := [(0, .ref 39), (1, .int x1), (2, .int a3), (3, .int a4)]) 3 [1, 2, 3, 0] d_B_replication_47 rfl ea4 (by decide) rfl ?_
      refine x_goto 18 d_B_replication_50 (by decide) ?_
      exact h
    · have h := h.2 c0
      refine x_iconst (v := 1) d_B_replication_40 (by decide) ?_
      refine x_goto 45 d_B_replication_41 (by decide) ?_
      refine x_iadd d_B_replication_45 ?_
      obtain ⟨a5, ea5⟩ : ∃ z : Int32, z = x2 + 1 := ⟨_, rfl⟩
      have h := h a5 ea5
      refine x_istore_nE (L' := [(0, .ref 39), (1, .int x1), (2, .int a5), (3, .int x3)]) [1, 2, 0, 3] d_B_replication_46 (by decide) ea5 rfl ?_
      obtain ⟨a6, ea6⟩ : ∃ z : Int32, z = x3 + 1 := ⟨_, rfl⟩
      have h := h a6 ea6
      refine x_iincE (L' := [(0, .ref 39), (1, .int x1), (2, .int a5), (3, .int a6)]) 3 [1, 2, 3, 0] d_B_replication_47 rfl ea6 (by decide) rfl ?_
      refine x_goto 18 d_B_replication_50 (by decide) ?_
      exact h
set_option maxHeartbeats 1000000 in
theorem r_B_restore {x1 : Int32} {w : Wd} {K : Int32 → Wd → Prop} (h : RunZ 1 M_B_in [.long x1.toInt64, .long 0, .long 1] w (fun z2 w1 => (z2 = true → vp_in x1 2 ∧ (¬ (w1.1 43 x1.toNatClampNeg) = 0 → E 1 M_B_restore 26 [(0, .ref 39), (1, .int x1), (2, .int 0)] [] w1 (qI 1 K)) ∧ ((w1.1 43 x1.toNatClampNeg) = 0 → K ((-3)) w1)) ∧ (z2 = false → K ((-1)) w1))) : RunI 1 M_B_restore [.ref 39, .int x1] w K := by
  refine runs_of (L := [(0, .ref 39), (1, .int x1)]) rfl (Nat.le_of_ble_eq_true rfl) rfl ?_
  refine x_iload_n 1 d_B_restore_0 rfl ?_
  refine x_i2l d_B_restore_1 ?_
  refine x_lconst (v := 0) d_B_restore_2 (by decide) ?_
  refine x_lconst (v := 1) d_B_restore_3 (by decide) ?_
  refine x_callSZ (st := []) M_B_in [.long x1.toInt64, .long 0, .long 1] d_B_restore_4 ml_11_83 cv_B_in rfl (Nat.le_of_ble_eq_true rfl) ⟨Nat.le_of_ble_eq_true rfl, Nat.le_of_ble_eq_true rfl⟩ ⟨rfl, rfl⟩ h (fun z2 w1 h => ?_)
  refine x_zif_ne 12 d_B_restore_7 (by decide) (fun c0 => ?_) (fun c0 => ?_)
  · have h := h.1 c0
    refine x_aload_n 0 d_B_restore_12 rfl ?_
    refine x_getR 11 8 43 d_B_restore_13 fg_11_33 rfl rfl rfl (Nf_58 (by decide)) ?_
    refine x_iload_n 1 d_B_restore_16 rfl ?_
    obtain ⟨h0, h⟩ := h
    refine x_zald d_B_restore_17 rfl (Nf_58 (by decide)) h0 ?_
    refine x_if_ne 24 d_B_restore_18 (by decide) (fun c0 => ?_) (fun c0 => ?_)
    · have h := h.1 c0
      refine x_iconst (v := 0) d_B_restore_24 (by decide) ?_
      refine x_istore_n (L' := [(0, .ref 39), (1, .int x1), (2, .int 0)]) [1, 2, 0] d_B_restore_25 (by decide) rfl ?_
      exact h
    · have h := h.2 c0
      refine x_bipush (v := (-3)) d_B_restore_21 (by decide) ?_
      exact x_retI d_B_restore_23 rfl ⟨rfl, rfl⟩ h
  · have h := h.2 c0
    refine x_iconst (v := (-1)) d_B_restore_10 (by decide) ?_
    exact x_retI d_B_restore_11 rfl ⟨rfl, rfl⟩ h
set_option maxHeartbeats 1000000 in
theorem w_B_restore_26 {x1 x2 : Int32} {w : Wd} {K : Int32 → Wd → Prop} (h : (6 ≤ x2 → vp_in ((7 * x1) + 6) 14 ∧ ∀ w1 : Wd, w1 = upL w 39 3 (w.2 42 ((7 * x1) + 6).toNatClampNeg) → ∀ w2 : Wd, w2 = upI w1 39 6 0 → RunI 1 M_B_used [.ref 39] w2 (fun r4 w3 => K r4 w3)) ∧ (¬ 6 ≤ x2 → vp_in ((7 * x1) + x2) 14 ∧ vp_in x2 6 ∧ ∀ w5 : Wd, w5 = upL w 40 x2.toNatClampNeg (w.2 42 ((7 * x1) + x2).toNatClampNeg) → ∀ a6 : Int32, a6 = x2 + 1 → E 1 M_B_restore 26 [(0, .ref 39), (1, .int x1), (2, .int a6)] [] w5 (qI 1 K))) : E 1 M_B_restore 26 [(0, .ref 39), (1, .int x1), (2, .int x2)] [] w (qI 1 K) := by
  refine x_iload_n 2 d_B_restore_26 rfl ?_
  refine x_bipush (v := 6) d_B_restore_27 (by decide) ?_
  refine x_icmp_ge 55 d_B_restore_29 (by decide) (fun c0 => ?_) (fun c0 => ?_)
  · have h := h.1 c0
    refine x_aload_n 0 d_B_restore_55 rfl ?_
    refine x_aload_n 0 d_B_restore_56 rfl ?_
    refine x_getR 11 7 42 d_B_restore_57 fg_11_30 rfl rfl rfl (Nf_58 (by decide)) ?_
    refine x_bipush (v := 7) d_B_restore_60 (by decide) ?_
    refine x_iload_n 1 d_B_restore_62 rfl ?_
    refine x_imul d_B_restore_63 ?_
    refine x_bipush (v := 6) d_B_restore_64 (by decide) ?_
    refine x_iadd d_B_restore_66 ?_
    obtain ⟨h0, h⟩ := h
    refine x_lald d_B_restore_67 rfl (Nf_58 (by decide)) h0 ?_
    refine x_putLE 11 3 d_B_restore_68 fp_11_19 rfl rfl (Nf_58 (by decide)) (fun w1 ew1 => ?_)
    have h := h w1 ew1
    refine x_aload_n 0 d_B_restore_71 rfl ?_
    refine x_iconst (v := 0) d_B_restore_72 (by decide) ?_
    refine x_putIE 11 6 d_B_restore_73 fp_11_109 rfl rfl (Nf_58 (by decide)) (fun w2 ew2 => ?_)
    have h := h w2 ew2
    refine x_aload_n 0 d_B_restore_76 rfl ?_
    refine x_callVI (st := []) M_B_used [] d_B_restore_77 ml_11_277 cv_B_used rfl rfl (Nf_58 (by decide)) rfl (Nat.le_of_ble_eq_true rfl) ⟨Nat.le_of_ble_eq_true rfl, Nat.le_of_ble_eq_true rfl⟩ ⟨rfl, rfl⟩ h (fun r4 w3 h => ?_)
    exact x_retI d_B_restore_80 rfl ⟨rfl, rfl⟩ h
  · have h := h.2 c0
    refine x_aload_n 0 d_B_restore_32 rfl ?_
    refine x_getR 11 4 40 d_B_restore_33 fg_11_23 rfl rfl rfl (Nf_58 (by decide)) ?_
    refine x_iload_n 2 d_B_restore_36 rfl ?_
    refine x_aload_n 0 d_B_restore_37 rfl ?_
    refine x_getR 11 7 42 d_B_restore_38 fg_11_30 rfl rfl rfl (Nf_58 (by decide)) ?_
    refine x_bipush (v := 7) d_B_restore_41 (by decide) ?_
    refine x_iload_n 1 d_B_restore_43 rfl ?_
    refine x_imul d_B_restore_44 ?_
    refine x_iload_n 2 d_B_restore_45 rfl ?_
    refine x_iadd d_B_restore_46 ?_
    obtain ⟨h0, h⟩ := h
    refine x_lald d_B_restore_47 rfl (Nf_58 (by decide)) h0 ?_
    obtain ⟨h0, h⟩ := h
    refine x_lastE d_B_restore_48 rfl (Nf_58 (by decide)) h0 (fun w5 ew5 => ?_)
    have h := h w5 ew5
    obtain ⟨a6, ea6⟩ : ∃ z : Int32, z = x2 + 1 := ⟨_, rfl⟩
    have h := h a6 ea6
    refine x_iincE (L' := [(0, .ref 39), (1, .int x1), (2, .int a6)]) 2 [1, 2, 0] d_B_restore_49 rfl ea6 (by decide) rfl ?_
    refine x_goto 26 d_B_restore_52 (by decide) ?_
    exact h
set_option maxHeartbeats 1000000 in
theorem r_B_searches {x1 x2 x3 : Int32} {w : Wd} {K : Int32 → Wd → Prop} (h : ∀ w1 : Wd, w1 = upI w 39 14 0 → ∀ w2 : Wd, w2 = upI w1 39 16 0 → vp_in (0 : Int32) 5 ∧ ∀ w3 : Wd, w3 = upI w2 56 (0 : Int32).toNatClampNeg 0 → E 1 M_B_searches 23 [(0, .ref 39), (1, .int x1), (2, .int x2), (3, .int x3), (4, .int 0), (5, .int 0)] [] w3 (qI 1 K)) : RunI 1 M_B_searches [.ref 39, .int x1, .int x2, .int x3] w K := by
  refine runs_of (L := [(0, .ref 39), (1, .int x1), (2, .int x2), (3, .int x3)]) rfl (Nat.le_of_ble_eq_true rfl) rfl ?_
  refine x_aload_n 0 d_B_searches_0 rfl ?_
  refine x_iconst (v := 0) d_B_searches_1 (by decide) ?_
  refine x_putIE 11 14 d_B_searches_2 fp_11_112 rfl rfl (Nf_58 (by decide)) (fun w1 ew1 => ?_)
  have h := h w1 ew1
  refine x_aload_n 0 d_B_searches_5 rfl ?_
  refine x_iconst (v := 0) d_B_searches_6 (by decide) ?_
  refine x_putIE 11 16 d_B_searches_7 fp_11_118 rfl rfl (Nf_58 (by decide)) (fun w2 ew2 => ?_)
  have h := h w2 ew2
  refine x_iconst (v := 0) d_B_searches_10 (by decide) ?_
  refine x_istore (L' := [(0, .ref 39), (1, .int x1), (2, .int x2), (3, .int x3), (4, .int 0)]) [1, 2, 3, 4, 0] d_B_searches_11 (by decide) rfl ?_
  refine x_iconst (v := 0) d_B_searches_13 (by decide) ?_
  refine x_istore (L' := [(0, .ref 39), (1, .int x1), (2, .int x2), (3, .int x3), (4, .int 0), (5, .int 0)]) [1, 2, 3, 4, 5, 0] d_B_searches_14 (by decide) rfl ?_
  refine x_aload_n 0 d_B_searches_16 rfl ?_
  refine x_getR 11 28 56 d_B_searches_17 fg_11_74 rfl rfl rfl (Nf_58 (by decide)) ?_
  refine x_iconst (v := 0) d_B_searches_20 (by decide) ?_
  refine x_iconst (v := 0) d_B_searches_21 (by decide) ?_
  obtain ⟨h0, h⟩ := h
  refine x_iastE d_B_searches_22 rfl (Nf_58 (by decide)) h0 (fun w3 ew3 => ?_)
  have h := h w3 ew3
  exact h
set_option maxHeartbeats 1000000 in
theorem w_B_searches_23 {x1 x2 x3 x4 x5 : Int32} {w : Wd} {K : Int32 → Wd → Prop} (h : (x5 < 0 → K x4 w) ∧ (¬ x5 < 0 → (x3 ≤ (w.1 39 14) → K x4 w) ∧ (¬ x3 ≤ (w.1 39 14) → vp_in x5 5 ∧ (¬ (w.1 56 x5.toNatClampNeg) = (w.1 39 15) → vp_in x5 5 ∧ ∀ a1 : Int32, a1 = w.1 56 x5.toNatClampNeg → vp_in x5 5 ∧ vp_in x5 5 ∧ ∀ w2 : Wd, w2 = upI w 56 x5.toNatClampNeg ((w.1 56 x5.toNatClampNeg) + 1) → ∀ w3 : Wd, w3 = upI w2 39 14 ((w2.1 39 14) + 1) → vp_in a1 3000 ∧ vp_in x5 4 ∧ ∀ w4 : Wd, w4 = upL w3 55 x5.toNatClampNeg (w3.2 54 a1.toNatClampNeg) → RunZ 1 M_B_isPartial [.ref 39, .int (x5 + 1), .int x1] w4 (fun z6 w5 => (z6 = true → (x2 ≤ (x5 + 1) → RunI 1 M_B_indexOfCounts [.ref 39] w5 (fun r8 w7 => (¬ r8 = x1 → E 1 M_B_searches 23 [(0, .ref 39), (1, .int x1), (2, .int x2), (3, .int x3), (4, .int x4), (5, .int x5)] [] w7 (qI 1 K)) ∧ (r8 = x1 → ∀ a9 : Int32, a9 = x4 + 1 → (¬ (w7.1 39 16) = 0 → E 1 M_B_searches 23 [(0, .ref 39), (1, .int x1), (2, .int x2), (3, .int x3), (4, .int a9), (5, .int x5)] [] w7 (qI 1 K)) ∧ ((w7.1 39 16) = 0 → ∀ w10 : Wd, w10 = upI w7 39 16 x2 → E 1 M_B_searches 164 [(0, .ref 39), (1, .int x1), (2, .int x2), (3, .int x3), (4, .int a9), (5, .int x5), (7, .int 0)] [] w10 (qI 1 K))))) ∧ (¬ x2 ≤ (x5 + 1) → ∀ a11 : Int32, a11 = x5 + 1 → vp_in a11 5 ∧ ∀ w12 : Wd, w12 = upI w5 56 a11.toNatClampNeg a1 → E 1 M_B_searches 23 [(0, .ref 39), (1, .int x1), (2, .int x2), (3, .int x3), (4, .int x4), (5, .int a11)] [] w12 (qI 1 K))) ∧ (z6 = false → E 1 M_B_searches 23 [(0, .ref 39), (1, .int x1), (2, .int x2), (3, .int x3), (4, .int x4), (5, .int x5)] [] w5 (qI 1 K)))) ∧ ((w.1 56 x5.toNatClampNeg) = (w.1 39 15) → ∀ a13 : Int32, a13 = x5 + (-1) → E 1 M_B_searches 23 [(0, .ref 39), (1, .int x1), (2, .int x2), (3, .int x3), (4, .int x4), (5, .int a13)] [] w (qI 1 K))))) : E 1 M_B_searches 23 [(0, .ref 39), (1, .int x1), (2, .int x2), (3, .int x3), (4, .int x4), (5, .int x5)] [] w (qI 1 K) := by
  refine x_iload 5 d_B_searches_23 rfl ?_
  refine x_if_lt 193 d_B_searches_25 (by decide) (fun c0 => ?_) (fun c0 => ?_)
  · have h := h.1 c0
    refine x_iload 4 d_B_searches_193 rfl ?_
    exact x_retI d_B_searches_195 rfl ⟨rfl, rfl⟩ h
  · have h := h.2 c0
    refine x_aload_n 0 d_B_searches_28 rfl ?_
    refine x_getI 11 14 d_B_searches_29 fg_11_112 rfl rfl (Nf_58 (by decide)) ?_
    refine x_iload_n 3 d_B_searches_32 rfl ?_
    refine x_icmp_ge 193 d_B_searches_33 (by decide) (fun c0 => ?_) (fun c0 => ?_)
    · have h := h.1 c0
      refine x_iload 4 d_B_searches_193 rfl ?_
      exact x_retI d_B_searches_195 rfl ⟨rfl, rfl⟩ h
    · have h := h.2 c0
      refine x_aload_n 0 d_B_searches_36 rfl ?_
      refine x_getR 11 28 56 d_B_searches_37 fg_11_74 rfl rfl rfl (Nf_58 (by decide)) ?_
      refine x_iload 5 d_B_searches_40 rfl ?_
      obtain ⟨h0, h⟩ := h
      refine x_iald d_B_searches_42 rfl (Nf_58 (by decide)) h0 ?_
      refine x_aload_n 0 d_B_searches_43 rfl ?_
      refine x_getI 11 15 d_B_searches_44 fg_11_115 rfl rfl (Nf_58 (by decide)) ?_
      refine x_icmp_ne 56 d_B_searches_47 (by decide) (fun c0 => ?_) (fun c0 => ?_)
      · have h := h.1 c0
        refine x_aload_n 0 d_B_searches_56 rfl ?_
        refine x_getR 11 28 56 d_B_searches_57 fg_11_74 rfl rfl rfl (Nf_58 (by decide)) ?_
        refine x_iload 5 d_B_searches_60 rfl ?_
        obtain ⟨h0, h⟩ := h
        refine x_iald d_B_searches_62 rfl (Nf_58 (by decide)) h0 ?_
        obtain ⟨a1, ea1⟩ : ∃ z : Int32, z = w.1 56 x5.toNatClampNeg := ⟨_, rfl⟩
        have h := h a1 ea1
        refine x_istoreE (L' := [(0, .ref 39), (1, .int x1), (2, .int x2), (3, .int x3), (4, .int x4), (5, .int x5), (6, .int a1)]) [1, 2, 3, 4, 5, 6, 0] d_B_searches_63 (by decide) ea1 rfl ?_
        refine x_aload_n 0 d_B_searches_65 rfl ?_
        refine x_getR 11 28 56 d_B_searches_66 fg_11_74 rfl rfl rfl (Nf_58 (by decide)) ?_
        refine x_iload 5 d_B_searches_69 rfl ?_
        refine x_dup2 d_B_searches_71 rfl rfl ?_
        obtain ⟨h0, h⟩ := h
        refine x_iald d_B_searches_72 rfl (Nf_58 (by decide)) h0 ?_
        refine x_iconst (v := 1) d_B_searches_73 (by decide) ?_
        refine x_iadd d_B_searches_74 ?_
        obtain ⟨h0, h⟩ := h
        refine x_iastE d_B_searches_75 rfl (Nf_58 (by decide)) h0 (fun w2 ew2 => ?_)
        have h := h w2 ew2
        refine x_aload_n 0 d_B_searches_76 rfl ?_
        refine x_dup d_B_searches_77 rfl ?_
        refine x_getI 11 14 d_B_searches_78 fg_11_112 rfl rfl (Nf_58 (by decide)) ?_
        refine x_iconst (v := 1) d_B_searches_81 (by decide) ?_
        refine x_iadd d_B_searches_82 ?_
        refine x_putIE 11 14 d_B_searches_83 fp_11_112 rfl rfl (Nf_58 (by decide)) (fun w3 ew3 => ?_)
        have h := h w3 ew3
        refine x_aload_n 0 d_B_searches_86 rfl ?_
        refine x_getR 11 27 55 d_B_searches_87 fg_11_71 rfl rfl rfl (Nf_58 (by decide)) ?_
        refine x_iload 5 d_B_searches_90 rfl ?_
        refine x_aload_n 0 d_B_searches_92 rfl ?_
        refine x_getR 11 26 54 d_B_searches_93 fg_11_68 rfl rfl rfl (Nf_58 (by decide)) ?_
        refine x_iload 6 d_B_searches_96 rfl ?_
        obtain ⟨h0, h⟩ := h
        refine x_lald d_B_searches_98 rfl (Nf_58 (by decide)) h0 ?_
        obtain ⟨h0, h⟩ := h
        refine x_lastE d_B_searches_99 rfl (Nf_58 (by decide)) h0 (fun w4 ew4 => ?_)
        have h := h w4 ew4
        refine x_aload_n 0 d_B_searches_100 rfl ?_
        refine x_iload 5 d_B_searches_101 rfl ?_
        refine x_iconst (v := 1) d_B_searches_103 (by decide) ?_
        refine x_iadd d_B_searches_104 ?_
        refine x_iload_n 1 d_B_searches_105 rfl ?_
        refine x_callVZ (st := []) M_B_isPartial [.int (x5 + 1), .int x1] d_B_searches_106 ml_11_238 cv_B_isPartial rfl rfl (Nf_58 (by decide)) rfl (Nat.le_of_ble_eq_true rfl) ⟨Nat.le_of_ble_eq_true rfl, Nat.le_of_ble_eq_true rfl⟩ ⟨rfl, rfl⟩ h (fun z6 w5 h => ?_)
        refine x_zif_ne 115 d_B_searches_109 (by decide) (fun c0 => ?_) (fun c0 => ?_)
        · have h := h.1 c0
          refine x_iload 5 d_B_searches_115 rfl ?_
          refine x_iconst (v := 1) d_B_searches_117 (by decide) ?_
          refine x_iadd d_B_searches_118 ?_
          refine x_iload_n 2 d_B_searches_119 rfl ?_
          refine x_icmp_ge 138 d_B_searches_120 (by decide) (fun c0 => ?_) (fun c0 => ?_)
          · have h := h.1 c0
            refine x_aload_n 0 d_B_searches_138 rfl ?_
            refine x_callVI (st := []) M_B_indexOfCounts [] d_B_searches_139 ml_11_184 cv_B_indexOfCounts rfl rfl (Nf_58 (by decide)) rfl (Nat.le_of_ble_eq_true rfl) ⟨Nat.le_of_ble_eq_true rfl, Nat.le_of_ble_eq_true rfl⟩ ⟨rfl, rfl⟩ h (fun r8 w7 h => ?_)
            refine x_iload_n 1 d_B_searches_142 rfl ?_
            refine x_icmp_ne 190 d_B_searches_143 (by decide) (fun c0 => ?_) (fun c0 => ?_)
            · have h := h.1 c0
              refine x_goto 23 d_B_searches_190 (by decide) ?_
              exact x_perm [0, 1, 2, 3, 4, 5] rfl h
            · have h := h.2 c0
              obtain ⟨a9, ea9⟩ : ∃ z : Int32, z = x4 + 1 := ⟨_, rfl⟩
              have h := h a9 ea9
              refine x_iincE (L' := [(0, .ref 39), (1, .int x1), (2, .int x2), (3, .int x3), (4, .int a9), (5, .int x5), (6, .int a1)]) 4 [1, 2, 3, 4, 0, 5, 6] d_B_searches_146 rfl ea9 (by decide) rfl ?_
              refine x_aload_n 0 d_B_searches_149 rfl ?_
              refine x_getI 11 16 d_B_searches_150 fg_11_118 rfl rfl (Nf_58 (by decide)) ?_
              refine x_if_ne 190 d_B_searches_153 (by decide) (fun c0 => ?_) (fun c0 => ?_)
              · have h := h.1 c0
                refine x_goto 23 d_B_searches_190 (by decide) ?_
                exact x_perm [0, 1, 2, 3, 4, 5] rfl h
              · have h := h.2 c0
                refine x_aload_n 0 d_B_searches_156 rfl ?_
                refine x_iload_n 2 d_B_searches_157 rfl ?_
                refine x_putIE 11 16 d_B_searches_158 fp_11_118 rfl rfl (Nf_58 (by decide)) (fun w10 ew10 => ?_)
                have h := h w10 ew10
                refine x_iconst (v := 0) d_B_searches_161 (by decide) ?_
                refine x_istore (L' := [(0, .ref 39), (1, .int x1), (2, .int x2), (3, .int x3), (4, .int a9), (5, .int x5), (6, .int a1), (7, .int 0)]) [1, 2, 3, 4, 5, 6, 7, 0] d_B_searches_162 (by decide) rfl ?_
                exact x_perm [0, 1, 2, 3, 4, 5, 7] rfl h
          · have h := h.2 c0
            obtain ⟨a11, ea11⟩ : ∃ z : Int32, z = x5 + 1 := ⟨_, rfl⟩
            have h := h a11 ea11
            refine x_iincE (L' := [(0, .ref 39), (1, .int x1), (2, .int x2), (3, .int x3), (4, .int x4), (5, .int a11), (6, .int a1)]) 5 [1, 2, 3, 4, 5, 0, 6] d_B_searches_123 rfl ea11 (by decide) rfl ?_
            refine x_aload_n 0 d_B_searches_126 rfl ?_
            refine x_getR 11 28 56 d_B_searches_127 fg_11_74 rfl rfl rfl (Nf_58 (by decide)) ?_
            refine x_iload 5 d_B_searches_130 rfl ?_
            refine x_iload 6 d_B_searches_132 rfl ?_
            obtain ⟨h0, h⟩ := h
            refine x_iastE d_B_searches_134 rfl (Nf_58 (by decide)) h0 (fun w12 ew12 => ?_)
            have h := h w12 ew12
            refine x_goto 190 d_B_searches_135 (by decide) ?_
            refine x_goto 23 d_B_searches_190 (by decide) ?_
            exact x_perm [0, 1, 2, 3, 4, 5] rfl h
        · have h := h.2 c0
          refine x_goto 23 d_B_searches_112 (by decide) ?_
          exact x_perm [0, 1, 2, 3, 4, 5] rfl h
      · have h := h.2 c0
        obtain ⟨a13, ea13⟩ : ∃ z : Int32, z = x5 + (-1) := ⟨_, rfl⟩
        have h := h a13 ea13
        refine x_iincE (L' := [(0, .ref 39), (1, .int x1), (2, .int x2), (3, .int x3), (4, .int x4), (5, .int a13)]) 5 [1, 2, 3, 4, 5, 0] d_B_searches_50 rfl ea13 (by decide) rfl ?_
        refine x_goto 23 d_B_searches_53 (by decide) ?_
        exact h
set_option maxHeartbeats 1000000 in
theorem w_B_searches_164 {x1 x2 x3 x4 x5 x7 : Int32} {w : Wd} {K : Int32 → Wd → Prop} (h : (x2 ≤ x7 → E 1 M_B_searches 23 [(0, .ref 39), (1, .int x1), (2, .int x2), (3, .int x3), (4, .int x4), (5, .int x5)] [] w (qI 1 K)) ∧ (¬ x2 ≤ x7 → vp_in x7 4 ∧ vp_in x7 4 ∧ ∀ w1 : Wd, w1 = upL w 47 x7.toNatClampNeg (w.2 55 x7.toNatClampNeg) → ∀ a2 : Int32, a2 = x7 + 1 → E 1 M_B_searches 164 [(0, .ref 39), (1, .int x1), (2, .int x2), (3, .int x3), (4, .int x4), (5, .int x5), (7, .int a2)] [] w1 (qI 1 K))) : E 1 M_B_searches 164 [(0, .ref 39), (1, .int x1), (2, .int x2), (3, .int x3), (4, .int x4), (5, .int x5), (7, .int x7)] [] w (qI 1 K) := by
  refine x_iload 6 d_B_searches_164 rfl ?_
  refine x_iload_n 2 d_B_searches_166 rfl ?_
  refine x_icmp_ge 190 d_B_searches_167 (by decide) (fun c0 => ?_) (fun c0 => ?_)
  · have h := h.1 c0
    refine x_goto 23 d_B_searches_190 (by decide) ?_
    exact x_perm [0, 1, 2, 3, 4, 5] rfl h
  · have h := h.2 c0
    refine x_aload_n 0 d_B_searches_170 rfl ?_
    refine x_getR 11 17 47 d_B_searches_171 fg_11_47 rfl rfl rfl (Nf_58 (by decide)) ?_
    refine x_iload 6 d_B_searches_174 rfl ?_
    refine x_aload_n 0 d_B_searches_176 rfl ?_
    refine x_getR 11 27 55 d_B_searches_177 fg_11_71 rfl rfl rfl (Nf_58 (by decide)) ?_
    refine x_iload 6 d_B_searches_180 rfl ?_
    obtain ⟨h0, h⟩ := h
    refine x_lald d_B_searches_182 rfl (Nf_58 (by decide)) h0 ?_
    obtain ⟨h0, h⟩ := h
    refine x_lastE d_B_searches_183 rfl (Nf_58 (by decide)) h0 (fun w1 ew1 => ?_)
    have h := h w1 ew1
    obtain ⟨a2, ea2⟩ : ∃ z : Int32, z = x7 + 1 := ⟨_, rfl⟩
    have h := h a2 ea2
    refine x_iincE (L' := [(0, .ref 39), (1, .int x1), (2, .int x2), (3, .int x3), (4, .int x4), (5, .int x5), (7, .int a2)]) 6 [1, 2, 3, 4, 5, 6, 0] d_B_searches_184 rfl ea2 (by decide) rfl ?_
    refine x_goto 164 d_B_searches_187 (by decide) ?_
    exact h
set_option maxHeartbeats 1000000 in
theorem r_B_search {x1 x2 x3 x4 x5 : Int32} {w : Wd} {K : Int32 → Wd → Prop} (h : RunZ 1 M_B_in [.long x1.toInt64, .long 2, .long 5] w (fun z2 w1 => (z2 = false → E 1 M_B_search 73 [(0, .ref 39), (1, .int x1), (2, .int x2), (3, .int x3), (4, .int x4), (5, .int x5)] [.int 0] w1 (qI 1 K)) ∧ (z2 = true → RunZ 1 M_B_in [.long x2.toInt64, .long 1, .long 9] w1 (fun z4 w3 => (z4 = false → E 1 M_B_search 73 [(0, .ref 39), (1, .int x1), (2, .int x2), (3, .int x3), (4, .int x4), (5, .int x5)] [.int 0] w3 (qI 1 K)) ∧ (z4 = true → RunZ 1 M_B_in [.long x3.toInt64, .long 1, .long 4] w3 (fun z6 w5 => (z6 = false → E 1 M_B_search 73 [(0, .ref 39), (1, .int x1), (2, .int x2), (3, .int x3), (4, .int x4), (5, .int x5)] [.int 0] w5 (qI 1 K)) ∧ (z6 = true → RunZ 1 M_B_in [.long x4.toInt64, .long 1, .long (((w5.1 39 2) - 1).toInt64)] w5 (fun z8 w7 => (z8 = false → E 1 M_B_search 73 [(0, .ref 39), (1, .int x1), (2, .int x2), (3, .int x3), (4, .int x4), (5, .int x5)] [.int 0] w7 (qI 1 K)) ∧ (z8 = true → RunZ 1 M_B_in [.long x5.toInt64, .long 1, .long 5000] w7 (fun z10 w9 => (z10 = false → E 1 M_B_search 73 [(0, .ref 39), (1, .int x1), (2, .int x2), (3, .int x3), (4, .int x4), (5, .int x5)] [.int 0] w9 (qI 1 K)) ∧ (z10 = true → E 1 M_B_search 73 [(0, .ref 39), (1, .int x1), (2, .int x2), (3, .int x3), (4, .int x4), (5, .int x5)] [.int 1] w9 (qI 1 K)))))))))))) : RunI 1 M_B_search [.ref 39, .int x1, .int x2, .int x3, .int x4, .int x5] w K := by
  refine runs_of (L := [(0, .ref 39), (1, .int x1), (2, .int x2), (3, .int x3), (4, .int x4), (5, .int x5)]) rfl (Nat.le_of_ble_eq_true rfl) rfl ?_
  refine x_iload_n 1 d_B_search_0 rfl ?_
  refine x_i2l d_B_search_1 ?_
  refine x_ldc2 (v := 2) d_B_search_2 mw_1056 ?_
  refine x_ldc2 (v := 5) d_B_search_5 mw_1112 ?_
  refine x_callSZ (st := []) M_B_in [.long x1.toInt64, .long 2, .long 5] d_B_search_8 ml_11_83 cv_B_in rfl (Nat.le_of_ble_eq_true rfl) ⟨Nat.le_of_ble_eq_true rfl, Nat.le_of_ble_eq_true rfl⟩ ⟨rfl, rfl⟩ h (fun z2 w1 h => ?_)
  refine x_zif_eq 72 d_B_search_11 (by decide) (fun c0 => ?_) (fun c0 => ?_)
  · have h := h.1 c0
    refine x_iconst (v := 0) d_B_search_72 (by decide) ?_
    exact h
  · have h := h.2 c0
    refine x_iload_n 2 d_B_search_14 rfl ?_
    refine x_i2l d_B_search_15 ?_
    refine x_lconst (v := 1) d_B_search_16 (by decide) ?_
    refine x_ldc2 (v := 9) d_B_search_17 mw_1313 ?_
    refine x_callSZ (st := []) M_B_in [.long x2.toInt64, .long 1, .long 9] d_B_search_20 ml_11_83 cv_B_in rfl (Nat.le_of_ble_eq_true rfl) ⟨Nat.le_of_ble_eq_true rfl, Nat.le_of_ble_eq_true rfl⟩ ⟨rfl, rfl⟩ h (fun z4 w3 h => ?_)
    refine x_zif_eq 72 d_B_search_23 (by decide) (fun c0 => ?_) (fun c0 => ?_)
    · have h := h.1 c0
      refine x_iconst (v := 0) d_B_search_72 (by decide) ?_
      exact h
    · have h := h.2 c0
      refine x_iload_n 3 d_B_search_26 rfl ?_
      refine x_i2l d_B_search_27 ?_
      refine x_lconst (v := 1) d_B_search_28 (by decide) ?_
      refine x_ldc2 (v := 4) d_B_search_29 mw_1314 ?_
      refine x_callSZ (st := []) M_B_in [.long x3.toInt64, .long 1, .long 4] d_B_search_32 ml_11_83 cv_B_in rfl (Nat.le_of_ble_eq_true rfl) ⟨Nat.le_of_ble_eq_true rfl, Nat.le_of_ble_eq_true rfl⟩ ⟨rfl, rfl⟩ h (fun z6 w5 h => ?_)
      refine x_zif_eq 72 d_B_search_35 (by decide) (fun c0 => ?_) (fun c0 => ?_)
      · have h := h.1 c0
        refine x_iconst (v := 0) d_B_search_72 (by decide) ?_
        exact h
      · have h := h.2 c0
        refine x_iload 4 d_B_search_38 rfl ?_
        refine x_i2l d_B_search_40 ?_
        refine x_lconst (v := 1) d_B_search_41 (by decide) ?_
        refine x_aload_n 0 d_B_search_42 rfl ?_
        refine x_getI 11 2 d_B_search_43 fg_11_16 rfl rfl (Nf_58 (by decide)) ?_
        refine x_iconst (v := 1) d_B_search_46 (by decide) ?_
        refine x_isub d_B_search_47 ?_
        refine x_i2l d_B_search_48 ?_
        refine x_callSZ (st := []) M_B_in [.long x4.toInt64, .long 1, .long (((w5.1 39 2) - 1).toInt64)] d_B_search_49 ml_11_83 cv_B_in rfl (Nat.le_of_ble_eq_true rfl) ⟨Nat.le_of_ble_eq_true rfl, Nat.le_of_ble_eq_true rfl⟩ ⟨rfl, rfl⟩ h (fun z8 w7 h => ?_)
        refine x_zif_eq 72 d_B_search_52 (by decide) (fun c0 => ?_) (fun c0 => ?_)
        · have h := h.1 c0
          refine x_iconst (v := 0) d_B_search_72 (by decide) ?_
          exact h
        · have h := h.2 c0
          refine x_iload 5 d_B_search_55 rfl ?_
          refine x_i2l d_B_search_57 ?_
          refine x_lconst (v := 1) d_B_search_58 (by decide) ?_
          refine x_ldc2 (v := 5000) d_B_search_59 mw_1315 ?_
          refine x_callSZ (st := []) M_B_in [.long x5.toInt64, .long 1, .long 5000] d_B_search_62 ml_11_83 cv_B_in rfl (Nat.le_of_ble_eq_true rfl) ⟨Nat.le_of_ble_eq_true rfl, Nat.le_of_ble_eq_true rfl⟩ ⟨rfl, rfl⟩ h (fun z10 w9 h => ?_)
          refine x_zif_eq 72 d_B_search_65 (by decide) (fun c0 => ?_) (fun c0 => ?_)
          · have h := h.1 c0
            refine x_iconst (v := 0) d_B_search_72 (by decide) ?_
            exact h
          · have h := h.2 c0
            refine x_iconst (v := 1) d_B_search_68 (by decide) ?_
            refine x_goto 73 d_B_search_69 (by decide) ?_
            exact h
set_option maxHeartbeats 1000000 in
theorem w_B_search_73 {x1 x2 x3 x4 x5 s0 : Int32} {w : Wd} {K : Int32 → Wd → Prop} (h : (s0 = 0 → K ((-1)) w) ∧ (¬ s0 = 0 → RunI 1 M_B_gcd [.int x4, .int (w.1 39 2)] w (fun r2 w1 => (r2 ≤ 1 → ((w1.1 39 2) ≤ 25 → (x1 ≤ (w1.1 39 2) → RunV 1 M_B_findCandidates [.ref 39, .int x1, .int x4] w1 (fun w3 => RunI 1 M_B_searches [.ref 39, .int x2, .int x3, .int x5] w3 (fun r5 w4 => K r5 w4))) ∧ (¬ x1 ≤ (w1.1 39 2) → ∀ w6 : Wd, w6 = upI w1 39 15 0 → RunI 1 M_B_searches [.ref 39, .int x2, .int x3, .int x5] w6 (fun r8 w7 => K r8 w7))) ∧ (¬ (w1.1 39 2) ≤ 25 → K ((-3)) w1)) ∧ (¬ r2 ≤ 1 → K ((-1)) w1)))) : E 1 M_B_search 73 [(0, .ref 39), (1, .int x1), (2, .int x2), (3, .int x3), (4, .int x4), (5, .int x5)] [.int s0] w (qI 1 K) := by
  refine x_istore (L' := [(0, .ref 39), (1, .int x1), (2, .int x2), (3, .int x3), (4, .int x4), (5, .int x5), (6, .int s0)]) [1, 2, 3, 4, 5, 6, 0] d_B_search_73 (by decide) rfl ?_
  refine x_iload 6 d_B_search_75 rfl ?_
  refine x_if_eq 93 d_B_search_77 (by decide) (fun c0 => ?_) (fun c0 => ?_)
  · have h := h.1 c0
    refine x_iconst (v := (-1)) d_B_search_93 (by decide) ?_
    exact x_retI d_B_search_94 rfl ⟨rfl, rfl⟩ h
  · have h := h.2 c0
    refine x_iload 4 d_B_search_80 rfl ?_
    refine x_aload_n 0 d_B_search_82 rfl ?_
    refine x_getI 11 2 d_B_search_83 fg_11_16 rfl rfl (Nf_58 (by decide)) ?_
    refine x_callSI (st := []) M_B_gcd [.int x4, .int (w.1 39 2)] d_B_search_86 ml_11_158 cv_B_gcd rfl (Nat.le_of_ble_eq_true rfl) ⟨Nat.le_of_ble_eq_true rfl, Nat.le_of_ble_eq_true rfl⟩ ⟨rfl, rfl⟩ h (fun r2 w1 h => ?_)
    refine x_iconst (v := 1) d_B_search_89 (by decide) ?_
    refine x_icmp_le 95 d_B_search_90 (by decide) (fun c0 => ?_) (fun c0 => ?_)
    · have h := h.1 c0
      refine x_aload_n 0 d_B_search_95 rfl ?_
      refine x_getI 11 2 d_B_search_96 fg_11_16 rfl rfl (Nf_58 (by decide)) ?_
      refine x_bipush (v := 25) d_B_search_99 (by decide) ?_
      refine x_icmp_le 107 d_B_search_101 (by decide) (fun c0 => ?_) (fun c0 => ?_)
      · have h := h.1 c0
        refine x_iload_n 1 d_B_search_107 rfl ?_
        refine x_aload_n 0 d_B_search_108 rfl ?_
        refine x_getI 11 2 d_B_search_109 fg_11_16 rfl rfl (Nf_58 (by decide)) ?_
        refine x_icmp_le 123 d_B_search_112 (by decide) (fun c0 => ?_) (fun c0 => ?_)
        · have h := h.1 c0
          refine x_aload_n 0 d_B_search_123 rfl ?_
          refine x_iload_n 1 d_B_search_124 rfl ?_
          refine x_iload 4 d_B_search_125 rfl ?_
          refine x_callVV (st := []) M_B_findCandidates [.int x1, .int x4] d_B_search_127 ml_11_231 cv_B_findCandidates rfl rfl (Nf_58 (by decide)) rfl (Nat.le_of_ble_eq_true rfl) ⟨Nat.le_of_ble_eq_true rfl, Nat.le_of_ble_eq_true rfl⟩ ⟨rfl, rfl⟩ h (fun w3 h => ?_)
          refine x_aload_n 0 d_B_search_130 rfl ?_
          refine x_iload_n 2 d_B_search_131 rfl ?_
          refine x_iload_n 3 d_B_search_132 rfl ?_
          refine x_iload 5 d_B_search_133 rfl ?_
          refine x_callVI (st := []) M_B_searches [.int x2, .int x3, .int x5] d_B_search_135 ml_11_235 cv_B_searches rfl rfl (Nf_58 (by decide)) rfl (Nat.le_of_ble_eq_true rfl) ⟨Nat.le_of_ble_eq_true rfl, Nat.le_of_ble_eq_true rfl⟩ ⟨rfl, rfl⟩ h (fun r5 w4 h => ?_)
          exact x_retI d_B_search_138 rfl ⟨rfl, rfl⟩ h
        · have h := h.2 c0
          refine x_aload_n 0 d_B_search_115 rfl ?_
          refine x_iconst (v := 0) d_B_search_116 (by decide) ?_
          refine x_putIE 11 15 d_B_search_117 fp_11_115 rfl rfl (Nf_58 (by decide)) (fun w6 ew6 => ?_)
          have h := h w6 ew6
          refine x_goto 130 d_B_search_120 (by decide) ?_
          refine x_aload_n 0 d_B_search_130 rfl ?_
          refine x_iload_n 2 d_B_search_131 rfl ?_
          refine x_iload_n 3 d_B_search_132 rfl ?_
          refine x_iload 5 d_B_search_133 rfl ?_
          refine x_callVI (st := []) M_B_searches [.int x2, .int x3, .int x5] d_B_search_135 ml_11_235 cv_B_searches rfl rfl (Nf_58 (by decide)) rfl (Nat.le_of_ble_eq_true rfl) ⟨Nat.le_of_ble_eq_true rfl, Nat.le_of_ble_eq_true rfl⟩ ⟨rfl, rfl⟩ h (fun r8 w7 h => ?_)
          exact x_retI d_B_search_138 rfl ⟨rfl, rfl⟩ h
      · have h := h.2 c0
        refine x_bipush (v := (-3)) d_B_search_104 (by decide) ?_
        exact x_retI d_B_search_106 rfl ⟨rfl, rfl⟩ h
    · have h := h.2 c0
      refine x_iconst (v := (-1)) d_B_search_93 (by decide) ?_
      exact x_retI d_B_search_94 rfl ⟨rfl, rfl⟩ h
set_option maxHeartbeats 1000000 in
theorem r_B_searchSteps {w : Wd} {K : Int32 → Wd → Prop} (h : K (w.1 39 14) w) : RunI 1 M_B_searchSteps [.ref 39] w K := by
  refine runs_of (L := [(0, .ref 39)]) rfl (Nat.le_of_ble_eq_true rfl) rfl ?_
  refine x_aload_n 0 d_B_searchSteps_0 rfl ?_
  refine x_getI 11 14 d_B_searchSteps_1 fg_11_112 rfl rfl (Nf_58 (by decide)) ?_
  exact x_retI d_B_searchSteps_4 rfl ⟨rfl, rfl⟩ h
set_option maxHeartbeats 1000000 in
theorem r_B_setGroup {x1 x2 : Int32} {w : Wd} {K : Int32 → Wd → Prop} (h : RunZ 1 M_B_in [.long x1.toInt64, .long 2, .long 40] w (fun z2 w1 => (z2 = false → K ((-1)) w1) ∧ (z2 = true → RunZ 1 M_B_in [.long x2.toInt64, .long 1, .long 40] w1 (fun z4 w3 => (z4 = false → K ((-1)) w3) ∧ (z4 = true → ((x1 * x2) ≤ 40 → ∀ a5 : Int32, a5 = w3.1 39 2 → ∀ w6 : Wd, w6 = upI w3 39 0 x1 → ∀ w7 : Wd, w7 = upI w6 39 1 x2 → ∀ w8 : Wd, w8 = upI w7 39 2 (x1 * x2) → ∀ w9 : Wd, w9 = upL w8 39 3 1 → E 1 M_B_setGroup 66 [(0, .ref 39), (3, .int a5), (4, .int 0)] [] w9 (qI 1 K)) ∧ (¬ (x1 * x2) ≤ 40 → K ((-1)) w3)))))) : RunI 1 M_B_setGroup [.ref 39, .int x1, .int x2] w K := by
  refine runs_of (L := [(0, .ref 39), (1, .int x1), (2, .int x2)]) rfl (Nat.le_of_ble_eq_true rfl) rfl ?_
  refine x_iload_n 1 d_B_setGroup_0 rfl ?_
  refine x_i2l d_B_setGroup_1 ?_
  refine x_ldc2 (v := 2) d_B_setGroup_2 mw_1056 ?_
  refine x_ldc2 (v := 40) d_B_setGroup_5 mw_1057 ?_
  refine x_callSZ (st := []) M_B_in [.long x1.toInt64, .long 2, .long 40] d_B_setGroup_8 ml_11_83 cv_B_in rfl (Nat.le_of_ble_eq_true rfl) ⟨Nat.le_of_ble_eq_true rfl, Nat.le_of_ble_eq_true rfl⟩ ⟨rfl, rfl⟩ h (fun z2 w1 h => ?_)
  refine x_zif_eq 34 d_B_setGroup_11 (by decide) (fun c0 => ?_) (fun c0 => ?_)
  · have h := h.1 c0
    refine x_iconst (v := (-1)) d_B_setGroup_34 (by decide) ?_
    exact x_retI d_B_setGroup_35 rfl ⟨rfl, rfl⟩ h
  · have h := h.2 c0
    refine x_iload_n 2 d_B_setGroup_14 rfl ?_
    refine x_i2l d_B_setGroup_15 ?_
    refine x_lconst (v := 1) d_B_setGroup_16 (by decide) ?_
    refine x_ldc2 (v := 40) d_B_setGroup_17 mw_1057 ?_
    refine x_callSZ (st := []) M_B_in [.long x2.toInt64, .long 1, .long 40] d_B_setGroup_20 ml_11_83 cv_B_in rfl (Nat.le_of_ble_eq_true rfl) ⟨Nat.le_of_ble_eq_true rfl, Nat.le_of_ble_eq_true rfl⟩ ⟨rfl, rfl⟩ h (fun z4 w3 h => ?_)
    refine x_zif_eq 34 d_B_setGroup_23 (by decide) (fun c0 => ?_) (fun c0 => ?_)
    · have h := h.1 c0
      refine x_iconst (v := (-1)) d_B_setGroup_34 (by decide) ?_
      exact x_retI d_B_setGroup_35 rfl ⟨rfl, rfl⟩ h
    · have h := h.2 c0
      refine x_iload_n 1 d_B_setGroup_26 rfl ?_
      refine x_iload_n 2 d_B_setGroup_27 rfl ?_
      refine x_imul d_B_setGroup_28 ?_
      refine x_bipush (v := 40) d_B_setGroup_29 (by decide) ?_
      refine x_icmp_le 36 d_B_setGroup_31 (by decide) (fun c0 => ?_) (fun c0 => ?_)
      · have h := h.1 c0
        refine x_aload_n 0 d_B_setGroup_36 rfl ?_
        refine x_getI 11 2 d_B_setGroup_37 fg_11_16 rfl rfl (Nf_58 (by decide)) ?_
        obtain ⟨a5, ea5⟩ : ∃ z : Int32, z = w3.1 39 2 := ⟨_, rfl⟩
        have h := h a5 ea5
        refine x_istore_nE (L' := [(0, .ref 39), (1, .int x1), (2, .int x2), (3, .int a5)]) [1, 2, 3, 0] d_B_setGroup_40 (by decide) ea5 rfl ?_
        refine x_aload_n 0 d_B_setGroup_41 rfl ?_
        refine x_iload_n 1 d_B_setGroup_42 rfl ?_
        refine x_putIE 11 0 d_B_setGroup_43 fp_11_7 rfl rfl (Nf_58 (by decide)) (fun w6 ew6 => ?_)
        have h := h w6 ew6
        refine x_aload_n 0 d_B_setGroup_46 rfl ?_
        refine x_iload_n 2 d_B_setGroup_47 rfl ?_
        refine x_putIE 11 1 d_B_setGroup_48 fp_11_13 rfl rfl (Nf_58 (by decide)) (fun w7 ew7 => ?_)
        have h := h w7 ew7
        refine x_aload_n 0 d_B_setGroup_51 rfl ?_
        refine x_iload_n 1 d_B_setGroup_52 rfl ?_
        refine x_iload_n 2 d_B_setGroup_53 rfl ?_
        refine x_imul d_B_setGroup_54 ?_
        refine x_putIE 11 2 d_B_setGroup_55 fp_11_16 rfl rfl (Nf_58 (by decide)) (fun w8 ew8 => ?_)
        have h := h w8 ew8
        refine x_aload_n 0 d_B_setGroup_58 rfl ?_
        refine x_lconst (v := 1) d_B_setGroup_59 (by decide) ?_
        refine x_putLE 11 3 d_B_setGroup_60 fp_11_19 rfl rfl (Nf_58 (by decide)) (fun w9 ew9 => ?_)
        have h := h w9 ew9
        refine x_iconst (v := 0) d_B_setGroup_63 (by decide) ?_
        refine x_istore (L' := [(0, .ref 39), (1, .int x1), (2, .int x2), (3, .int a5), (4, .int 0)]) [1, 2, 3, 4, 0] d_B_setGroup_64 (by decide) rfl ?_
        exact x_perm [0, 3, 4] rfl h
      · have h := h.2 c0
        refine x_iconst (v := (-1)) d_B_setGroup_34 (by decide) ?_
        exact x_retI d_B_setGroup_35 rfl ⟨rfl, rfl⟩ h
set_option maxHeartbeats 1000000 in
theorem w_B_setGroup_66 {x3 x4 : Int32} {w : Wd} {K : Int32 → Wd → Prop} (h : (6 ≤ x4 → ∀ w1 : Wd, w1 = upI w 39 6 0 → ∀ w2 : Wd, w2 = upI w1 39 14 0 → ∀ w3 : Wd, w3 = upI w2 39 15 0 → ∀ w4 : Wd, w4 = upI w3 39 16 0 → vp_in (0 : Int32) 2 ∧ ∀ w5 : Wd, w5 = upI w4 43 (0 : Int32).toNatClampNeg (vp_nar .boolean 0) → vp_in (1 : Int32) 2 ∧ ∀ w6 : Wd, w6 = upI w5 43 (1 : Int32).toNatClampNeg (vp_nar .boolean 0) → RunV 1 M_B_findAutomorphisms [.ref 39] w6 (fun w7 => K x3 w7)) ∧ (¬ 6 ≤ x4 → vp_in x4 6 ∧ ∀ w8 : Wd, w8 = upL w 40 x4.toNatClampNeg 0 → ∀ a9 : Int32, a9 = x4 + 1 → E 1 M_B_setGroup 66 [(0, .ref 39), (3, .int x3), (4, .int a9)] [] w8 (qI 1 K))) : E 1 M_B_setGroup 66 [(0, .ref 39), (3, .int x3), (4, .int x4)] [] w (qI 1 K) := by
  refine x_iload 2 d_B_setGroup_66 rfl ?_
  refine x_bipush (v := 6) d_B_setGroup_68 (by decide) ?_
  refine x_icmp_ge 87 d_B_setGroup_70 (by decide) (fun c0 => ?_) (fun c0 => ?_)
  · have h := h.1 c0
    refine x_aload_n 0 d_B_setGroup_87 rfl ?_
    refine x_iconst (v := 0) d_B_setGroup_88 (by decide) ?_
    refine x_putIE 11 6 d_B_setGroup_89 fp_11_109 rfl rfl (Nf_58 (by decide)) (fun w1 ew1 => ?_)
    have h := h w1 ew1
    refine x_aload_n 0 d_B_setGroup_92 rfl ?_
    refine x_iconst (v := 0) d_B_setGroup_93 (by decide) ?_
    refine x_putIE 11 14 d_B_setGroup_94 fp_11_112 rfl rfl (Nf_58 (by decide)) (fun w2 ew2 => ?_)
    have h := h w2 ew2
    refine x_aload_n 0 d_B_setGroup_97 rfl ?_
    refine x_iconst (v := 0) d_B_setGroup_98 (by decide) ?_
    refine x_putIE 11 15 d_B_setGroup_99 fp_11_115 rfl rfl (Nf_58 (by decide)) (fun w3 ew3 => ?_)
    have h := h w3 ew3
    refine x_aload_n 0 d_B_setGroup_102 rfl ?_
    refine x_iconst (v := 0) d_B_setGroup_103 (by decide) ?_
    refine x_putIE 11 16 d_B_setGroup_104 fp_11_118 rfl rfl (Nf_58 (by decide)) (fun w4 ew4 => ?_)
    have h := h w4 ew4
    refine x_aload_n 0 d_B_setGroup_107 rfl ?_
    refine x_getR 11 8 43 d_B_setGroup_108 fg_11_33 rfl rfl rfl (Nf_58 (by decide)) ?_
    refine x_iconst (v := 0) d_B_setGroup_111 (by decide) ?_
    refine x_iconst (v := 0) d_B_setGroup_112 (by decide) ?_
    obtain ⟨h0, h⟩ := h
    refine x_zastE d_B_setGroup_113 rfl (Nf_58 (by decide)) h0 (fun w5 ew5 => ?_)
    have h := h w5 ew5
    refine x_aload_n 0 d_B_setGroup_114 rfl ?_
    refine x_getR 11 8 43 d_B_setGroup_115 fg_11_33 rfl rfl rfl (Nf_58 (by decide)) ?_
    refine x_iconst (v := 1) d_B_setGroup_118 (by decide) ?_
    refine x_iconst (v := 0) d_B_setGroup_119 (by decide) ?_
    obtain ⟨h0, h⟩ := h
    refine x_zastE d_B_setGroup_120 rfl (Nf_58 (by decide)) h0 (fun w6 ew6 => ?_)
    have h := h w6 ew6
    refine x_aload_n 0 d_B_setGroup_121 rfl ?_
    refine x_callVV (st := []) M_B_findAutomorphisms [] d_B_setGroup_122 ml_11_80 cv_B_findAutomorphisms rfl rfl (Nf_58 (by decide)) rfl (Nat.le_of_ble_eq_true rfl) ⟨Nat.le_of_ble_eq_true rfl, Nat.le_of_ble_eq_true rfl⟩ ⟨rfl, rfl⟩ h (fun w7 h => ?_)
    refine x_iload_n 1 d_B_setGroup_125 rfl ?_
    exact x_retI d_B_setGroup_126 rfl ⟨rfl, rfl⟩ h
  · have h := h.2 c0
    refine x_aload_n 0 d_B_setGroup_73 rfl ?_
    refine x_getR 11 4 40 d_B_setGroup_74 fg_11_23 rfl rfl rfl (Nf_58 (by decide)) ?_
    refine x_iload 2 d_B_setGroup_77 rfl ?_
    refine x_lconst (v := 0) d_B_setGroup_79 (by decide) ?_
    obtain ⟨h0, h⟩ := h
    refine x_lastE d_B_setGroup_80 rfl (Nf_58 (by decide)) h0 (fun w8 ew8 => ?_)
    have h := h w8 ew8
    obtain ⟨a9, ea9⟩ : ∃ z : Int32, z = x4 + 1 := ⟨_, rfl⟩
    have h := h a9 ea9
    refine x_iincE (L' := [(0, .ref 39), (3, .int x3), (4, .int a9)]) 2 [1, 2, 0] d_B_setGroup_81 rfl ea9 (by decide) rfl ?_
    refine x_goto 66 d_B_setGroup_84 (by decide) ?_
    exact h
set_option maxHeartbeats 1000000 in
theorem r_B_setHole {x1 x2 : Int32} {w : Wd} {K : Int32 → Wd → Prop} (h : RunZ 1 M_B_isElement [.ref 39, .int x1] w (fun z2 w1 => (z2 = false → K ((-1)) w1) ∧ (z2 = true → RunZ 1 M_B_isElement [.ref 39, .int x2] w1 (fun z4 w3 => (z4 = true → E 1 M_B_setHole 23 [(0, .ref 39), (1, .int x1), (2, .int x2), (3, .long 1), (5, .int 0)] [] w3 (qI 1 K)) ∧ (z4 = false → K ((-1)) w3))))) : RunI 1 M_B_setHole [.ref 39, .int x1, .int x2] w K := by
  refine runs_of (L := [(0, .ref 39), (1, .int x1), (2, .int x2)]) rfl (Nat.le_of_ble_eq_true rfl) rfl ?_
  refine x_aload_n 0 d_B_setHole_0 rfl ?_
  refine x_iload_n 1 d_B_setHole_1 rfl ?_
  refine x_callVZ (st := []) M_B_isElement [.int x1] d_B_setHole_2 ml_11_121 cv_B_isElement rfl rfl (Nf_58 (by decide)) rfl (Nat.le_of_ble_eq_true rfl) ⟨Nat.le_of_ble_eq_true rfl, Nat.le_of_ble_eq_true rfl⟩ ⟨rfl, rfl⟩ h (fun z2 w1 h => ?_)
  refine x_zif_eq 16 d_B_setHole_5 (by decide) (fun c0 => ?_) (fun c0 => ?_)
  · have h := h.1 c0
    refine x_iconst (v := (-1)) d_B_setHole_16 (by decide) ?_
    exact x_retI d_B_setHole_17 rfl ⟨rfl, rfl⟩ h
  · have h := h.2 c0
    refine x_aload_n 0 d_B_setHole_8 rfl ?_
    refine x_iload_n 2 d_B_setHole_9 rfl ?_
    refine x_callVZ (st := []) M_B_isElement [.int x2] d_B_setHole_10 ml_11_121 cv_B_isElement rfl rfl (Nf_58 (by decide)) rfl (Nat.le_of_ble_eq_true rfl) ⟨Nat.le_of_ble_eq_true rfl, Nat.le_of_ble_eq_true rfl⟩ ⟨rfl, rfl⟩ h (fun z4 w3 h => ?_)
    refine x_zif_ne 18 d_B_setHole_13 (by decide) (fun c0 => ?_) (fun c0 => ?_)
    · have h := h.1 c0
      refine x_lconst (v := 1) d_B_setHole_18 (by decide) ?_
      refine x_lstore_n (L' := [(0, .ref 39), (1, .int x1), (2, .int x2), (3, .long 1)]) [1, 2, 3, 0] d_B_setHole_19 (by decide) rfl ?_
      refine x_iconst (v := 0) d_B_setHole_20 (by decide) ?_
      refine x_istore (L' := [(0, .ref 39), (1, .int x1), (2, .int x2), (3, .long 1), (5, .int 0)]) [1, 2, 3, 4, 0] d_B_setHole_21 (by decide) rfl ?_
      exact h
    · have h := h.2 c0
      refine x_iconst (v := (-1)) d_B_setHole_16 (by decide) ?_
      exact x_retI d_B_setHole_17 rfl ⟨rfl, rfl⟩ h
set_option maxHeartbeats 1000000 in
theorem w_B_setHole_23 {x1 x2 x5 : Int32} {y3 : Int64} {w : Wd} {K : Int32 → Wd → Prop} (h : ((w.1 39 2) ≤ x5 → ∀ w1 : Wd, w1 = upL w 39 3 y3 → ∀ w2 : Wd, w2 = upI w1 39 6 0 → RunI 1 M_B_size [.long y3] w2 (fun r4 w3 => K r4 w3)) ∧ (¬ (w.1 39 2) ≤ x5 → E 1 M_B_setHole 35 [(0, .ref 39), (1, .int x1), (2, .int x2), (3, .long y3), (5, .int x5), (6, .int 0)] [] w (qI 1 K))) : E 1 M_B_setHole 23 [(0, .ref 39), (1, .int x1), (2, .int x2), (3, .long y3), (5, .int x5)] [] w (qI 1 K) := by
  refine x_iload 4 d_B_setHole_23 rfl ?_
  refine x_aload_n 0 d_B_setHole_25 rfl ?_
  refine x_getI 11 2 d_B_setHole_26 fg_11_16 rfl rfl (Nf_58 (by decide)) ?_
  refine x_icmp_ge 79 d_B_setHole_29 (by decide) (fun c0 => ?_) (fun c0 => ?_)
  · have h := h.1 c0
    refine x_aload_n 0 d_B_setHole_79 rfl ?_
    refine x_lload_n 3 d_B_setHole_80 rfl ?_
    refine x_putLE 11 3 d_B_setHole_81 fp_11_19 rfl rfl (Nf_58 (by decide)) (fun w1 ew1 => ?_)
    have h := h w1 ew1
    refine x_aload_n 0 d_B_setHole_84 rfl ?_
    refine x_iconst (v := 0) d_B_setHole_85 (by decide) ?_
    refine x_putIE 11 6 d_B_setHole_86 fp_11_109 rfl rfl (Nf_58 (by decide)) (fun w2 ew2 => ?_)
    have h := h w2 ew2
    refine x_lload_n 3 d_B_setHole_89 rfl ?_
    refine x_callSI (st := []) M_B_size [.long y3] d_B_setHole_90 ml_11_130 cv_B_size rfl (Nat.le_of_ble_eq_true rfl) ⟨Nat.le_of_ble_eq_true rfl, Nat.le_of_ble_eq_true rfl⟩ ⟨rfl, rfl⟩ h (fun r4 w3 h => ?_)
    exact x_retI d_B_setHole_93 rfl ⟨rfl, rfl⟩ h
  · have h := h.2 c0
    refine x_iconst (v := 0) d_B_setHole_32 (by decide) ?_
    refine x_istore (L' := [(0, .ref 39), (1, .int x1), (2, .int x2), (3, .long y3), (5, .int x5), (6, .int 0)]) [1, 2, 3, 4, 5, 0] d_B_setHole_33 (by decide) rfl ?_
    exact h
set_option maxHeartbeats 1000000 in
theorem w_B_setHole_35 {x1 x2 x5 x6 : Int32} {y3 : Int64} {w : Wd} {K : Int32 → Wd → Prop} (h : ((w.1 39 2) ≤ x6 → ∀ a1 : Int32, a1 = x5 + 1 → E 1 M_B_setHole 23 [(0, .ref 39), (1, .int x1), (2, .int x2), (3, .long y3), (5, .int a1)] [] w (qI 1 K)) ∧ (¬ (w.1 39 2) ≤ x6 → RunI 1 M_B_times [.ref 39, .int x5, .int x1] w (fun r3 w2 => RunI 1 M_B_times [.ref 39, .int x6, .int x2] w2 (fun r5 w4 => RunI 1 M_B_plus [.ref 39, .int r3, .int r5] w4 (fun r7 w6 => ∀ b8 : Int64, b8 = y3 ||| (1 <<< (r7.toInt64 &&& 63)) → ∀ a9 : Int32, a9 = x6 + 1 → E 1 M_B_setHole 35 [(0, .ref 39), (1, .int x1), (2, .int x2), (3, .long b8), (5, .int x5), (6, .int a9)] [] w6 (qI 1 K)))))) : E 1 M_B_setHole 35 [(0, .ref 39), (1, .int x1), (2, .int x2), (3, .long y3), (5, .int x5), (6, .int x6)] [] w (qI 1 K) := by
  refine x_iload 5 d_B_setHole_35 rfl ?_
  refine x_aload_n 0 d_B_setHole_37 rfl ?_
  refine x_getI 11 2 d_B_setHole_38 fg_11_16 rfl rfl (Nf_58 (by decide)) ?_
  refine x_icmp_ge 73 d_B_setHole_41 (by decide) (fun c0 => ?_) (fun c0 => ?_)
  · have h := h.1 c0
    obtain ⟨a1, ea1⟩ : ∃ z : Int32, z = x5 + 1 := ⟨_, rfl⟩
    have h := h a1 ea1
    refine x_iincE (L' := [(0, .ref 39), (1, .int x1), (2, .int x2), (3, .long y3), (5, .int a1), (6, .int x6)]) 4 [1, 2, 3, 4, 0, 5] d_B_setHole_73 rfl ea1 (by decide) rfl ?_
    refine x_goto 23 d_B_setHole_76 (by decide) ?_
    exact x_perm [0, 1, 2, 3, 4] rfl h
  · have h := h.2 c0
    refine x_lload_n 3 d_B_setHole_44 rfl ?_
    refine x_lconst (v := 1) d_B_setHole_45 (by decide) ?_
    refine x_aload_n 0 d_B_setHole_46 rfl ?_
    refine x_aload_n 0 d_B_setHole_47 rfl ?_
    refine x_iload 4 d_B_setHole_48 rfl ?_
    refine x_iload_n 1 d_B_setHole_50 rfl ?_
    refine x_callVI (st := [.ref 39, .long 1, .long y3]) M_B_times [.int x5, .int x1] d_B_setHole_51 ml_11_87 cv_B_times rfl rfl (Nf_58 (by decide)) rfl (Nat.le_of_ble_eq_true rfl) ⟨Nat.le_of_ble_eq_true rfl, Nat.le_of_ble_eq_true rfl⟩ ⟨rfl, rfl⟩ h (fun r3 w2 h => ?_)
    refine x_aload_n 0 d_B_setHole_54 rfl ?_
    refine x_iload 5 d_B_setHole_55 rfl ?_
    refine x_iload_n 2 d_B_setHole_57 rfl ?_
    refine x_callVI (st := [.int r3, .ref 39, .long 1, .long y3]) M_B_times [.int x6, .int x2] d_B_setHole_58 ml_11_87 cv_B_times rfl rfl (Nf_58 (by decide)) rfl (Nat.le_of_ble_eq_true rfl) ⟨Nat.le_of_ble_eq_true rfl, Nat.le_of_ble_eq_true rfl⟩ ⟨rfl, rfl⟩ h (fun r5 w4 h => ?_)
    refine x_callVI (st := [.long 1, .long y3]) M_B_plus [.int r3, .int r5] d_B_setHole_61 ml_11_91 cv_B_plus rfl rfl (Nf_58 (by decide)) rfl (Nat.le_of_ble_eq_true rfl) ⟨Nat.le_of_ble_eq_true rfl, Nat.le_of_ble_eq_true rfl⟩ ⟨rfl, rfl⟩ h (fun r7 w6 h => ?_)
    refine x_lshl d_B_setHole_64 ?_
    refine x_lor d_B_setHole_65 ?_
    obtain ⟨b8, eb8⟩ : ∃ z : Int64, z = y3 ||| (1 <<< (r7.toInt64 &&& 63)) := ⟨_, rfl⟩
    have h := h b8 eb8
    refine x_lstore_nE (L' := [(0, .ref 39), (1, .int x1), (2, .int x2), (3, .long b8), (5, .int x5), (6, .int x6)]) [1, 2, 3, 0, 4, 5] d_B_setHole_66 (by decide) eb8 rfl ?_
    obtain ⟨a9, ea9⟩ : ∃ z : Int32, z = x6 + 1 := ⟨_, rfl⟩
    have h := h a9 ea9
    refine x_iincE (L' := [(0, .ref 39), (1, .int x1), (2, .int x2), (3, .long b8), (5, .int x5), (6, .int a9)]) 5 [1, 2, 3, 4, 5, 0] d_B_setHole_67 rfl ea9 (by decide) rfl ?_
    refine x_goto 35 d_B_setHole_70 (by decide) ?_
    exact h
set_option maxHeartbeats 1000000 in
theorem r_B_shift {x1 x2 : Int32} {w : Wd} {K : Int32 → Wd → Prop} (h : RunZ 1 M_B_isBlock [.int x1] w (fun z2 w1 => (z2 = false → K ((-1)) w1) ∧ (z2 = true → RunZ 1 M_B_isElement [.ref 39, .int x2] w1 (fun z4 w3 => (z4 = false → K ((-1)) w3) ∧ (z4 = true → vp_in x1 6 ∧ RunL 1 M_B_translate [.ref 39, .long (w3.2 40 x1.toNatClampNeg), .int x2] w3 (fun r6 w5 => RunI 1 M_B_becomes [.ref 39, .int x1, .long r6] w5 (fun r8 w7 => K r8 w7))))))) : RunI 1 M_B_shift [.ref 39, .int x1, .int x2] w K := by
  refine runs_of (L := [(0, .ref 39), (1, .int x1), (2, .int x2)]) rfl (Nat.le_of_ble_eq_true rfl) rfl ?_
  refine x_iload_n 1 d_B_shift_0 rfl ?_
  refine x_callSZ (st := []) M_B_isBlock [.int x1] d_B_shift_1 ml_11_147 cv_B_isBlock rfl (Nat.le_of_ble_eq_true rfl) ⟨Nat.le_of_ble_eq_true rfl, Nat.le_of_ble_eq_true rfl⟩ ⟨rfl, rfl⟩ h (fun z2 w1 h => ?_)
  refine x_zif_eq 34 d_B_shift_4 (by decide) (fun c0 => ?_) (fun c0 => ?_)
  · have h := h.1 c0
    refine x_iconst (v := (-1)) d_B_shift_34 (by decide) ?_
    exact x_retI d_B_shift_35 rfl ⟨rfl, rfl⟩ h
  · have h := h.2 c0
    refine x_aload_n 0 d_B_shift_7 rfl ?_
    refine x_iload_n 2 d_B_shift_8 rfl ?_
    refine x_callVZ (st := []) M_B_isElement [.int x2] d_B_shift_9 ml_11_121 cv_B_isElement rfl rfl (Nf_58 (by decide)) rfl (Nat.le_of_ble_eq_true rfl) ⟨Nat.le_of_ble_eq_true rfl, Nat.le_of_ble_eq_true rfl⟩ ⟨rfl, rfl⟩ h (fun z4 w3 h => ?_)
    refine x_zif_eq 34 d_B_shift_12 (by decide) (fun c0 => ?_) (fun c0 => ?_)
    · have h := h.1 c0
      refine x_iconst (v := (-1)) d_B_shift_34 (by decide) ?_
      exact x_retI d_B_shift_35 rfl ⟨rfl, rfl⟩ h
    · have h := h.2 c0
      refine x_aload_n 0 d_B_shift_15 rfl ?_
      refine x_iload_n 1 d_B_shift_16 rfl ?_
      refine x_aload_n 0 d_B_shift_17 rfl ?_
      refine x_aload_n 0 d_B_shift_18 rfl ?_
      refine x_getR 11 4 40 d_B_shift_19 fg_11_23 rfl rfl rfl (Nf_58 (by decide)) ?_
      refine x_iload_n 1 d_B_shift_22 rfl ?_
      obtain ⟨h0, h⟩ := h
      refine x_lald d_B_shift_23 rfl (Nf_58 (by decide)) h0 ?_
      refine x_iload_n 2 d_B_shift_24 rfl ?_
      refine x_callVL (st := [.int x1, .ref 39]) M_B_translate [.long (w3.2 40 x1.toNatClampNeg), .int x2] d_B_shift_25 ml_11_138 cv_B_translate rfl rfl (Nf_58 (by decide)) rfl (Nat.le_of_ble_eq_true rfl) ⟨Nat.le_of_ble_eq_true rfl, Nat.le_of_ble_eq_true rfl⟩ ⟨rfl, rfl⟩ h (fun r6 w5 h => ?_)
      refine x_callVI (st := []) M_B_becomes [.int x1, .long r6] d_B_shift_28 ml_11_150 cv_B_becomes rfl rfl (Nf_58 (by decide)) rfl (Nat.le_of_ble_eq_true rfl) ⟨Nat.le_of_ble_eq_true rfl, Nat.le_of_ble_eq_true rfl⟩ ⟨rfl, rfl⟩ h (fun r8 w7 h => ?_)
      refine x_goto 35 d_B_shift_31 (by decide) ?_
      exact x_retI d_B_shift_35 rfl ⟨rfl, rfl⟩ h
set_option maxHeartbeats 1000000 in
theorem r_B_stabilizer {x1 : Int32} {w : Wd} {K : Int32 → Wd → Prop} (h : RunZ 1 M_B_isBlock [.int x1] w (fun z2 w1 => (z2 = true → vp_in x1 6 ∧ (¬ (w1.2 40 x1.toNatClampNeg) = 0 → E 1 M_B_stabilizer 27 [(0, .ref 39), (1, .int x1), (2, .int 0), (3, .int 0)] [] w1 (qI 1 K)) ∧ ((w1.2 40 x1.toNatClampNeg) = 0 → K ((-4)) w1)) ∧ (z2 = false → K ((-1)) w1))) : RunI 1 M_B_stabilizer [.ref 39, .int x1] w K := by
  refine runs_of (L := [(0, .ref 39), (1, .int x1)]) rfl (Nat.le_of_ble_eq_true rfl) rfl ?_
  refine x_iload_n 1 d_B_stabilizer_0 rfl ?_
  refine x_callSZ (st := []) M_B_isBlock [.int x1] d_B_stabilizer_1 ml_11_147 cv_B_isBlock rfl (Nat.le_of_ble_eq_true rfl) ⟨Nat.le_of_ble_eq_true rfl, Nat.le_of_ble_eq_true rfl⟩ ⟨rfl, rfl⟩ h (fun z2 w1 h => ?_)
  refine x_zif_ne 9 d_B_stabilizer_4 (by decide) (fun c0 => ?_) (fun c0 => ?_)
  · have h := h.1 c0
    refine x_aload_n 0 d_B_stabilizer_9 rfl ?_
    refine x_getR 11 4 40 d_B_stabilizer_10 fg_11_23 rfl rfl rfl (Nf_58 (by decide)) ?_
    refine x_iload_n 1 d_B_stabilizer_13 rfl ?_
    obtain ⟨h0, h⟩ := h
    refine x_lald d_B_stabilizer_14 rfl (Nf_58 (by decide)) h0 ?_
    refine x_lconst (v := 0) d_B_stabilizer_15 (by decide) ?_
    refine x_lif_ne 23 d_B_stabilizer_16 d_B_stabilizer_17 (by decide) (fun c0 => ?_) (fun c0 => ?_)
    · have h := h.1 c0
      refine x_iconst (v := 0) d_B_stabilizer_23 (by decide) ?_
      refine x_istore_n (L' := [(0, .ref 39), (1, .int x1), (2, .int 0)]) [1, 2, 0] d_B_stabilizer_24 (by decide) rfl ?_
      refine x_iconst (v := 0) d_B_stabilizer_25 (by decide) ?_
      refine x_istore_n (L' := [(0, .ref 39), (1, .int x1), (2, .int 0), (3, .int 0)]) [1, 2, 3, 0] d_B_stabilizer_26 (by decide) rfl ?_
      exact h
    · have h := h.2 c0
      refine x_bipush (v := (-4)) d_B_stabilizer_20 (by decide) ?_
      exact x_retI d_B_stabilizer_22 rfl ⟨rfl, rfl⟩ h
  · have h := h.2 c0
    refine x_iconst (v := (-1)) d_B_stabilizer_7 (by decide) ?_
    exact x_retI d_B_stabilizer_8 rfl ⟨rfl, rfl⟩ h
set_option maxHeartbeats 1000000 in
theorem w_B_stabilizer_27 {x1 x2 x3 : Int32} {w : Wd} {K : Int32 → Wd → Prop} (h : ((w.1 39 2) ≤ x3 → K x2 w) ∧ (¬ (w.1 39 2) ≤ x3 → vp_in x1 6 ∧ RunL 1 M_B_translate [.ref 39, .long (w.2 40 x1.toNatClampNeg), .int x3] w (fun r2 w1 => vp_in x1 6 ∧ (¬ r2 = (w1.2 40 x1.toNatClampNeg) → ∀ a3 : Int32, a3 = x2 + 0 → ∀ a4 : Int32, a4 = x3 + 1 → E 1 M_B_stabilizer 27 [(0, .ref 39), (1, .int x1), (2, .int a3), (3, .int a4)] [] w1 (qI 1 K)) ∧ (r2 = (w1.2 40 x1.toNatClampNeg) → ∀ a5 : Int32, a5 = x2 + 1 → ∀ a6 : Int32, a6 = x3 + 1 → E 1 M_B_stabilizer 27 [(0, .ref 39), (1, .int x1), (2, .int a5), (3, .int a6)] [] w1 (qI 1 K))))) : E 1 M_B_stabilizer 27 [(0, .ref 39), (1, .int x1), (2, .int x2), (3, .int x3)] [] w (qI 1 K) := by
  refine x_iload_n 3 d_B_stabilizer_27 rfl ?_
  refine x_aload_n 0 d_B_stabilizer_28 rfl ?_
  refine x_getI 11 2 d_B_stabilizer_29 fg_11_16 rfl rfl (Nf_58 (by decide)) ?_
  refine x_icmp_ge 70 d_B_stabilizer_32 (by decide) (fun c0 => ?_) (fun c0 => ?_)
  · have h := h.1 c0
    refine x_iload_n 2 d_B_stabilizer_70 rfl ?_
    exact x_retI d_B_stabilizer_71 rfl ⟨rfl, rfl⟩ h
  · have h := h.2 c0
    refine x_iload_n 2 d_B_stabilizer_35 rfl ?_
    refine x_aload_n 0 d_B_stabilizer_36 rfl ?_
    refine x_aload_n 0 d_B_stabilizer_37 rfl ?_
    refine x_getR 11 4 40 d_B_stabilizer_38 fg_11_23 rfl rfl rfl (Nf_58 (by decide)) ?_
    refine x_iload_n 1 d_B_stabilizer_41 rfl ?_
    obtain ⟨h0, h⟩ := h
    refine x_lald d_B_stabilizer_42 rfl (Nf_58 (by decide)) h0 ?_
    refine x_iload_n 3 d_B_stabilizer_43 rfl ?_
    refine x_callVL (st := [.int x2]) M_B_translate [.long (w.2 40 x1.toNatClampNeg), .int x3] d_B_stabilizer_44 ml_11_138 cv_B_translate rfl rfl (Nf_58 (by decide)) rfl (Nat.le_of_ble_eq_true rfl) ⟨Nat.le_of_ble_eq_true rfl, Nat.le_of_ble_eq_true rfl⟩ ⟨rfl, rfl⟩ h (fun r2 w1 h => ?_)
    refine x_aload_n 0 d_B_stabilizer_47 rfl ?_
    refine x_getR 11 4 40 d_B_stabilizer_48 fg_11_23 rfl rfl rfl (Nf_58 (by decide)) ?_
    refine x_iload_n 1 d_B_stabilizer_51 rfl ?_
    obtain ⟨h0, h⟩ := h
    refine x_lald d_B_stabilizer_52 rfl (Nf_58 (by decide)) h0 ?_
    refine x_lif_ne 61 d_B_stabilizer_53 d_B_stabilizer_54 (by decide) (fun c0 => ?_) (fun c0 => ?_)
    · have h := h.1 c0
      refine x_iconst (v := 0) d_B_stabilizer_61 (by decide) ?_
      refine x_iadd d_B_stabilizer_62 ?_
      obtain ⟨a3, ea3⟩ : ∃ z : Int32, z = x2 + 0 := ⟨_, rfl⟩
      have h := h a3 ea3
      refine x_istore_nE (L' := [(0, .ref 39), (1, .int x1), (2, .int a3), (3, .int x3)]) [1, 2, 0, 3] d_B_stabilizer_63 (by decide) ea3 rfl ?_
      obtain ⟨a4, ea4⟩ : ∃ z : Int32, z = x3 + 1 := ⟨_, rfl⟩
      have h := h a4 ea4
      refine x_iincE (L' := [(0, .ref 39), (1, .int x1), (2, .int a3), (3, .int a4)]) 3 [1, 2, 3, 0] d_B_stabilizer_64 rfl ea4 (by decide) rfl ?_
      refine x_goto 27 d_B_stabilizer_67 (by decide) ?_
      exact h
    · have h := h.2 c0
      refine x_iconst (v := 1) d_B_stabilizer_57 (by decide) ?_
      refine x_goto 62 d_B_stabilizer_58 (by decide) ?_
      refine x_iadd d_B_stabilizer_62 ?_
      obtain ⟨a5, ea5⟩ : ∃ z : Int32, z = x2 + 1 := ⟨_, rfl⟩
      have h := h a5 ea5
      refine x_istore_nE (L' := [(0, .ref 39), (1, .int x1), (2, .int a5), (3, .int x3)]) [1, 2, 0, 3] d_B_stabilizer_63 (by decide) ea5 rfl ?_
      obtain ⟨a6, ea6⟩ : ∃ z : Int32, z = x3 + 1 := ⟨_, rfl⟩
      have h := h a6 ea6
      refine x_iincE (L' := [(0, .ref 39), (1, .int x1), (2, .int a5), (3, .int a6)]) 3 [1, 2, 3, 0] d_B_stabilizer_64 rfl ea6 (by decide) rfl ?_
      refine x_goto 27 d_B_stabilizer_67 (by decide) ?_
      exact h
set_option maxHeartbeats 1000000 in
theorem r_B_sum {x1 x2 : Int32} {w : Wd} {K : Int32 → Wd → Prop} (h : RunZ 1 M_B_isElement [.ref 39, .int x1] w (fun z2 w1 => (z2 = false → K ((-1)) w1) ∧ (z2 = true → RunZ 1 M_B_isElement [.ref 39, .int x2] w1 (fun z4 w3 => (z4 = false → K ((-1)) w3) ∧ (z4 = true → RunI 1 M_B_plus [.ref 39, .int x1, .int x2] w3 (fun r6 w5 => K r6 w5)))))) : RunI 1 M_B_sum [.ref 39, .int x1, .int x2] w K := by
  refine runs_of (L := [(0, .ref 39), (1, .int x1), (2, .int x2)]) rfl (Nat.le_of_ble_eq_true rfl) rfl ?_
  refine x_aload_n 0 d_B_sum_0 rfl ?_
  refine x_iload_n 1 d_B_sum_1 rfl ?_
  refine x_callVZ (st := []) M_B_isElement [.int x1] d_B_sum_2 ml_11_121 cv_B_isElement rfl rfl (Nf_58 (by decide)) rfl (Nat.le_of_ble_eq_true rfl) ⟨Nat.le_of_ble_eq_true rfl, Nat.le_of_ble_eq_true rfl⟩ ⟨rfl, rfl⟩ h (fun z2 w1 h => ?_)
  refine x_zif_eq 25 d_B_sum_5 (by decide) (fun c0 => ?_) (fun c0 => ?_)
  · have h := h.1 c0
    refine x_iconst (v := (-1)) d_B_sum_25 (by decide) ?_
    exact x_retI d_B_sum_26 rfl ⟨rfl, rfl⟩ h
  · have h := h.2 c0
    refine x_aload_n 0 d_B_sum_8 rfl ?_
    refine x_iload_n 2 d_B_sum_9 rfl ?_
    refine x_callVZ (st := []) M_B_isElement [.int x2] d_B_sum_10 ml_11_121 cv_B_isElement rfl rfl (Nf_58 (by decide)) rfl (Nat.le_of_ble_eq_true rfl) ⟨Nat.le_of_ble_eq_true rfl, Nat.le_of_ble_eq_true rfl⟩ ⟨rfl, rfl⟩ h (fun z4 w3 h => ?_)
    refine x_zif_eq 25 d_B_sum_13 (by decide) (fun c0 => ?_) (fun c0 => ?_)
    · have h := h.1 c0
      refine x_iconst (v := (-1)) d_B_sum_25 (by decide) ?_
      exact x_retI d_B_sum_26 rfl ⟨rfl, rfl⟩ h
    · have h := h.2 c0
      refine x_aload_n 0 d_B_sum_16 rfl ?_
      refine x_iload_n 1 d_B_sum_17 rfl ?_
      refine x_iload_n 2 d_B_sum_18 rfl ?_
      refine x_callVI (st := []) M_B_plus [.int x1, .int x2] d_B_sum_19 ml_11_91 cv_B_plus rfl rfl (Nf_58 (by decide)) rfl (Nat.le_of_ble_eq_true rfl) ⟨Nat.le_of_ble_eq_true rfl, Nat.le_of_ble_eq_true rfl⟩ ⟨rfl, rfl⟩ h (fun r6 w5 h => ?_)
      refine x_goto 26 d_B_sum_22 (by decide) ?_
      exact x_retI d_B_sum_26 rfl ⟨rfl, rfl⟩ h
set_option maxHeartbeats 1000000 in
theorem r_B_take {x1 x2 : Int32} {w : Wd} {K : Int32 → Wd → Prop} (h : RunZ 1 M_B_isBlock [.int x1] w (fun z2 w1 => (z2 = false → K ((-1)) w1) ∧ (z2 = true → RunZ 1 M_B_isElement [.ref 39, .int x2] w1 (fun z4 w3 => (z4 = true → vp_in x1 6 ∧ RunZ 1 M_B_has [.long (w3.2 40 x1.toNatClampNeg), .int x2] w3 (fun z6 w5 => (z6 = false → K ((-3)) w5) ∧ (z6 = true → vp_in x1 6 ∧ RunI 1 M_B_becomes [.ref 39, .int x1, .long ((w5.2 40 x1.toNatClampNeg) ^^^ (1 <<< (x2.toInt64 &&& 63)))] w5 (fun r8 w7 => K r8 w7)))) ∧ (z4 = false → K ((-1)) w3))))) : RunI 1 M_B_take [.ref 39, .int x1, .int x2] w K := by
  refine runs_of (L := [(0, .ref 39), (1, .int x1), (2, .int x2)]) rfl (Nat.le_of_ble_eq_true rfl) rfl ?_
  refine x_iload_n 1 d_B_take_0 rfl ?_
  refine x_callSZ (st := []) M_B_isBlock [.int x1] d_B_take_1 ml_11_147 cv_B_isBlock rfl (Nat.le_of_ble_eq_true rfl) ⟨Nat.le_of_ble_eq_true rfl, Nat.le_of_ble_eq_true rfl⟩ ⟨rfl, rfl⟩ h (fun z2 w1 h => ?_)
  refine x_zif_eq 15 d_B_take_4 (by decide) (fun c0 => ?_) (fun c0 => ?_)
  · have h := h.1 c0
    refine x_iconst (v := (-1)) d_B_take_15 (by decide) ?_
    exact x_retI d_B_take_16 rfl ⟨rfl, rfl⟩ h
  · have h := h.2 c0
    refine x_aload_n 0 d_B_take_7 rfl ?_
    refine x_iload_n 2 d_B_take_8 rfl ?_
    refine x_callVZ (st := []) M_B_isElement [.int x2] d_B_take_9 ml_11_121 cv_B_isElement rfl rfl (Nf_58 (by decide)) rfl (Nat.le_of_ble_eq_true rfl) ⟨Nat.le_of_ble_eq_true rfl, Nat.le_of_ble_eq_true rfl⟩ ⟨rfl, rfl⟩ h (fun z4 w3 h => ?_)
    refine x_zif_ne 17 d_B_take_12 (by decide) (fun c0 => ?_) (fun c0 => ?_)
    · have h := h.1 c0
      refine x_aload_n 0 d_B_take_17 rfl ?_
      refine x_getR 11 4 40 d_B_take_18 fg_11_23 rfl rfl rfl (Nf_58 (by decide)) ?_
      refine x_iload_n 1 d_B_take_21 rfl ?_
      obtain ⟨h0, h⟩ := h
      refine x_lald d_B_take_22 rfl (Nf_58 (by decide)) h0 ?_
      refine x_iload_n 2 d_B_take_23 rfl ?_
      refine x_callSZ (st := []) M_B_has [.long (w3.2 40 x1.toNatClampNeg), .int x2] d_B_take_24 ml_11_134 cv_B_has rfl (Nat.le_of_ble_eq_true rfl) ⟨Nat.le_of_ble_eq_true rfl, Nat.le_of_ble_eq_true rfl⟩ ⟨rfl, rfl⟩ h (fun z6 w5 h => ?_)
      refine x_zif_eq 48 d_B_take_27 (by decide) (fun c0 => ?_) (fun c0 => ?_)
      · have h := h.1 c0
        refine x_bipush (v := (-3)) d_B_take_48 (by decide) ?_
        exact x_retI d_B_take_50 rfl ⟨rfl, rfl⟩ h
      · have h := h.2 c0
        refine x_aload_n 0 d_B_take_30 rfl ?_
        refine x_iload_n 1 d_B_take_31 rfl ?_
        refine x_aload_n 0 d_B_take_32 rfl ?_
        refine x_getR 11 4 40 d_B_take_33 fg_11_23 rfl rfl rfl (Nf_58 (by decide)) ?_
        refine x_iload_n 1 d_B_take_36 rfl ?_
        obtain ⟨h0, h⟩ := h
        refine x_lald d_B_take_37 rfl (Nf_58 (by decide)) h0 ?_
        refine x_lconst (v := 1) d_B_take_38 (by decide) ?_
        refine x_iload_n 2 d_B_take_39 rfl ?_
        refine x_lshl d_B_take_40 ?_
        refine x_lxor d_B_take_41 ?_
        refine x_callVI (st := []) M_B_becomes [.int x1, .long ((w5.2 40 x1.toNatClampNeg) ^^^ (1 <<< (x2.toInt64 &&& 63)))] d_B_take_42 ml_11_150 cv_B_becomes rfl rfl (Nf_58 (by decide)) rfl (Nat.le_of_ble_eq_true rfl) ⟨Nat.le_of_ble_eq_true rfl, Nat.le_of_ble_eq_true rfl⟩ ⟨rfl, rfl⟩ h (fun r8 w7 h => ?_)
        refine x_goto 50 d_B_take_45 (by decide) ?_
        exact x_retI d_B_take_50 rfl ⟨rfl, rfl⟩ h
    · have h := h.2 c0
      refine x_iconst (v := (-1)) d_B_take_15 (by decide) ?_
      exact x_retI d_B_take_16 rfl ⟨rfl, rfl⟩ h
set_option maxHeartbeats 1000000 in
theorem r_B_takeSolution {w : Wd} {K : Int32 → Wd → Prop} (h : (¬ (w.1 39 16) = 0 → RunV 1 M_B_notes [.ref 39] w (fun w1 => E 1 M_B_takeSolution 16 [(0, .ref 39), (1, .int 0)] [] w1 (qI 1 K))) ∧ ((w.1 39 16) = 0 → K ((-3)) w)) : RunI 1 M_B_takeSolution [.ref 39] w K := by
  refine runs_of (L := [(0, .ref 39)]) rfl (Nat.le_of_ble_eq_true rfl) rfl ?_
  refine x_aload_n 0 d_B_takeSolution_0 rfl ?_
  refine x_getI 11 16 d_B_takeSolution_1 fg_11_118 rfl rfl (Nf_58 (by decide)) ?_
  refine x_if_ne 10 d_B_takeSolution_4 (by decide) (fun c0 => ?_) (fun c0 => ?_)
  · have h := h.1 c0
    refine x_aload_n 0 d_B_takeSolution_10 rfl ?_
    refine x_callVV (st := []) M_B_notes [] d_B_takeSolution_11 ml_11_144 cv_B_notes rfl rfl (Nf_58 (by decide)) rfl (Nat.le_of_ble_eq_true rfl) ⟨Nat.le_of_ble_eq_true rfl, Nat.le_of_ble_eq_true rfl⟩ ⟨rfl, rfl⟩ h (fun w1 h => ?_)
    refine x_iconst (v := 0) d_B_takeSolution_14 (by decide) ?_
    refine x_istore_n (L' := [(0, .ref 39), (1, .int 0)]) [1, 0] d_B_takeSolution_15 (by decide) rfl ?_
    exact h
  · have h := h.2 c0
    refine x_bipush (v := (-3)) d_B_takeSolution_7 (by decide) ?_
    exact x_retI d_B_takeSolution_9 rfl ⟨rfl, rfl⟩ h
set_option maxHeartbeats 1000000 in
theorem w_B_takeSolution_16 {x1 : Int32} {w : Wd} {K : Int32 → Wd → Prop} (h : (6 ≤ x1 → K (w.1 39 16) w) ∧ (¬ 6 ≤ x1 → ((w.1 39 16) ≤ x1 → vp_in x1 6 ∧ ∀ w1 : Wd, w1 = upL w 40 x1.toNatClampNeg 0 → ∀ a2 : Int32, a2 = x1 + 1 → E 1 M_B_takeSolution 16 [(0, .ref 39), (1, .int a2)] [] w1 (qI 1 K)) ∧ (¬ (w.1 39 16) ≤ x1 → vp_in x1 4 ∧ vp_in x1 6 ∧ ∀ w3 : Wd, w3 = upL w 40 x1.toNatClampNeg (w.2 47 x1.toNatClampNeg) → ∀ a4 : Int32, a4 = x1 + 1 → E 1 M_B_takeSolution 16 [(0, .ref 39), (1, .int a4)] [] w3 (qI 1 K)))) : E 1 M_B_takeSolution 16 [(0, .ref 39), (1, .int x1)] [] w (qI 1 K) := by
  refine x_iload_n 1 d_B_takeSolution_16 rfl ?_
  refine x_bipush (v := 6) d_B_takeSolution_17 (by decide) ?_
  refine x_icmp_ge 52 d_B_takeSolution_19 (by decide) (fun c0 => ?_) (fun c0 => ?_)
  · have h := h.1 c0
    refine x_aload_n 0 d_B_takeSolution_52 rfl ?_
    refine x_getI 11 16 d_B_takeSolution_53 fg_11_118 rfl rfl (Nf_58 (by decide)) ?_
    exact x_retI d_B_takeSolution_56 rfl ⟨rfl, rfl⟩ h
  · have h := h.2 c0
    refine x_aload_n 0 d_B_takeSolution_22 rfl ?_
    refine x_getR 11 4 40 d_B_takeSolution_23 fg_11_23 rfl rfl rfl (Nf_58 (by decide)) ?_
    refine x_iload_n 1 d_B_takeSolution_26 rfl ?_
    refine x_iload_n 1 d_B_takeSolution_27 rfl ?_
    refine x_aload_n 0 d_B_takeSolution_28 rfl ?_
    refine x_getI 11 16 d_B_takeSolution_29 fg_11_118 rfl rfl (Nf_58 (by decide)) ?_
    refine x_icmp_ge 44 d_B_takeSolution_32 (by decide) (fun c0 => ?_) (fun c0 => ?_)
    · have h := h.1 c0
      refine x_lconst (v := 0) d_B_takeSolution_44 (by decide) ?_
      obtain ⟨h0, h⟩ := h
      refine x_lastE d_B_takeSolution_45 rfl (Nf_58 (by decide)) h0 (fun w1 ew1 => ?_)
      have h := h w1 ew1
      obtain ⟨a2, ea2⟩ : ∃ z : Int32, z = x1 + 1 := ⟨_, rfl⟩
      have h := h a2 ea2
      refine x_iincE (L' := [(0, .ref 39), (1, .int a2)]) 1 [1, 0] d_B_takeSolution_46 rfl ea2 (by decide) rfl ?_
      refine x_goto 16 d_B_takeSolution_49 (by decide) ?_
      exact h
    · have h := h.2 c0
      refine x_aload_n 0 d_B_takeSolution_35 rfl ?_
      refine x_getR 11 17 47 d_B_takeSolution_36 fg_11_47 rfl rfl rfl (Nf_58 (by decide)) ?_
      refine x_iload_n 1 d_B_takeSolution_39 rfl ?_
      obtain ⟨h0, h⟩ := h
      refine x_lald d_B_takeSolution_40 rfl (Nf_58 (by decide)) h0 ?_
      refine x_goto 45 d_B_takeSolution_41 (by decide) ?_
      obtain ⟨h0, h⟩ := h
      refine x_lastE d_B_takeSolution_45 rfl (Nf_58 (by decide)) h0 (fun w3 ew3 => ?_)
      have h := h w3 ew3
      obtain ⟨a4, ea4⟩ : ∃ z : Int32, z = x1 + 1 := ⟨_, rfl⟩
      have h := h a4 ea4
      refine x_iincE (L' := [(0, .ref 39), (1, .int a4)]) 1 [1, 0] d_B_takeSolution_46 rfl ea4 (by decide) rfl ?_
      refine x_goto 16 d_B_takeSolution_49 (by decide) ?_
      exact h
set_option maxHeartbeats 1000000 in
theorem r_B_undo {w : Wd} {K : Int32 → Wd → Prop} (h : (¬ (w.1 39 6) = 0 → ∀ w1 : Wd, w1 = upI w 39 6 ((w.1 39 6) - 1) → E 1 M_B_undo 22 [(0, .ref 39), (1, .int 0)] [] w1 (qI 1 K)) ∧ ((w.1 39 6) = 0 → K ((-3)) w)) : RunI 1 M_B_undo [.ref 39] w K := by
  refine runs_of (L := [(0, .ref 39)]) rfl (Nat.le_of_ble_eq_true rfl) rfl ?_
  refine x_aload_n 0 d_B_undo_0 rfl ?_
  refine x_getI 11 6 d_B_undo_1 fg_11_109 rfl rfl (Nf_58 (by decide)) ?_
  refine x_if_ne 10 d_B_undo_4 (by decide) (fun c0 => ?_) (fun c0 => ?_)
  · have h := h.1 c0
    refine x_aload_n 0 d_B_undo_10 rfl ?_
    refine x_dup d_B_undo_11 rfl ?_
    refine x_getI 11 6 d_B_undo_12 fg_11_109 rfl rfl (Nf_58 (by decide)) ?_
    refine x_iconst (v := 1) d_B_undo_15 (by decide) ?_
    refine x_isub d_B_undo_16 ?_
    refine x_putIE 11 6 d_B_undo_17 fp_11_109 rfl rfl (Nf_58 (by decide)) (fun w1 ew1 => ?_)
    have h := h w1 ew1
    refine x_iconst (v := 0) d_B_undo_20 (by decide) ?_
    refine x_istore_n (L' := [(0, .ref 39), (1, .int 0)]) [1, 0] d_B_undo_21 (by decide) rfl ?_
    exact h
  · have h := h.2 c0
    refine x_bipush (v := (-3)) d_B_undo_7 (by decide) ?_
    exact x_retI d_B_undo_9 rfl ⟨rfl, rfl⟩ h
set_option maxHeartbeats 1000000 in
theorem w_B_undo_22 {x1 : Int32} {w : Wd} {K : Int32 → Wd → Prop} (h : (6 ≤ x1 → K (w.1 39 6) w) ∧ (¬ 6 ≤ x1 → vp_in ((6 * (w.1 39 6)) + x1) 30 ∧ vp_in x1 6 ∧ ∀ w1 : Wd, w1 = upL w 40 x1.toNatClampNeg (w.2 41 ((6 * (w.1 39 6)) + x1).toNatClampNeg) → ∀ a2 : Int32, a2 = x1 + 1 → E 1 M_B_undo 22 [(0, .ref 39), (1, .int a2)] [] w1 (qI 1 K))) : E 1 M_B_undo 22 [(0, .ref 39), (1, .int x1)] [] w (qI 1 K) := by
  refine x_iload_n 1 d_B_undo_22 rfl ?_
  refine x_bipush (v := 6) d_B_undo_23 (by decide) ?_
  refine x_icmp_ge 54 d_B_undo_25 (by decide) (fun c0 => ?_) (fun c0 => ?_)
  · have h := h.1 c0
    refine x_aload_n 0 d_B_undo_54 rfl ?_
    refine x_getI 11 6 d_B_undo_55 fg_11_109 rfl rfl (Nf_58 (by decide)) ?_
    exact x_retI d_B_undo_58 rfl ⟨rfl, rfl⟩ h
  · have h := h.2 c0
    refine x_aload_n 0 d_B_undo_28 rfl ?_
    refine x_getR 11 4 40 d_B_undo_29 fg_11_23 rfl rfl rfl (Nf_58 (by decide)) ?_
    refine x_iload_n 1 d_B_undo_32 rfl ?_
    refine x_aload_n 0 d_B_undo_33 rfl ?_
    refine x_getR 11 5 41 d_B_undo_34 fg_11_27 rfl rfl rfl (Nf_58 (by decide)) ?_
    refine x_bipush (v := 6) d_B_undo_37 (by decide) ?_
    refine x_aload_n 0 d_B_undo_39 rfl ?_
    refine x_getI 11 6 d_B_undo_40 fg_11_109 rfl rfl (Nf_58 (by decide)) ?_
    refine x_imul d_B_undo_43 ?_
    refine x_iload_n 1 d_B_undo_44 rfl ?_
    refine x_iadd d_B_undo_45 ?_
    obtain ⟨h0, h⟩ := h
    refine x_lald d_B_undo_46 rfl (Nf_58 (by decide)) h0 ?_
    obtain ⟨h0, h⟩ := h
    refine x_lastE d_B_undo_47 rfl (Nf_58 (by decide)) h0 (fun w1 ew1 => ?_)
    have h := h w1 ew1
    obtain ⟨a2, ea2⟩ : ∃ z : Int32, z = x1 + 1 := ⟨_, rfl⟩
    have h := h a2 ea2
    refine x_iincE (L' := [(0, .ref 39), (1, .int a2)]) 1 [1, 0] d_B_undo_48 rfl ea2 (by decide) rfl ?_
    refine x_goto 22 d_B_undo_51 (by decide) ?_
    exact h
