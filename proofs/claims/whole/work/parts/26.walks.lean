set_option maxHeartbeats 1000000 in
theorem r_B_automorphisms {w : Wd} {K : Int32 → Wd → Prop} (h : K (w.1 39 11) w) : RunI 1 M_B_automorphisms [.ref 39] w K := by
  refine runs_of (L := [(0, .ref 39)]) rfl (Nat.le_of_ble_eq_true rfl) rfl ?_
  refine x_aload_n 0 d_B_automorphisms_0 rfl ?_
  refine x_getI 11 11 d_B_automorphisms_1 fg_11_98 rfl rfl (Nf_58 (by decide)) ?_
  exact x_retI d_B_automorphisms_4 rfl ⟨rfl, rfl⟩ h
set_option maxHeartbeats 1000000 in
theorem r_B_size {y0 : Int64} {w : Wd} {K : Int32 → Wd → Prop} (h : E 1 M_B_size 4 [(2, .int 0), (3, .long y0)] [] w (qI 1 K)) : RunI 1 M_B_size [.long y0] w K := by
  refine runs_of (L := [(0, .long y0)]) rfl (Nat.le_of_ble_eq_true rfl) rfl ?_
  refine x_iconst (v := 0) d_B_size_0 (by decide) ?_
  refine x_istore_n (L' := [(0, .long y0), (2, .int 0)]) [1, 0] d_B_size_1 (by decide) rfl ?_
  refine x_lload_n 0 d_B_size_2 rfl ?_
  refine x_lstore_n (L' := [(0, .long y0), (2, .int 0), (3, .long y0)]) [1, 2, 0] d_B_size_3 (by decide) rfl ?_
  exact x_perm [1, 2] rfl h
set_option maxHeartbeats 1000000 in
theorem w_B_size_4 {x2 : Int32} {y3 : Int64} {w : Wd} {K : Int32 → Wd → Prop} (h : (y3 = 0 → K x2 w) ∧ (¬ y3 = 0 → ∀ a1 : Int32, a1 = x2 + 1 → ∀ b2 : Int64, b2 = y3 &&& (y3 - 1) → E 1 M_B_size 4 [(2, .int a1), (3, .long b2)] [] w (qI 1 K))) : E 1 M_B_size 4 [(2, .int x2), (3, .long y3)] [] w (qI 1 K) := by
  refine x_lload_n 1 d_B_size_4 rfl ?_
  refine x_lconst (v := 0) d_B_size_5 (by decide) ?_
  refine x_lif_eq 22 d_B_size_6 d_B_size_7 (by decide) (fun c0 => ?_) (fun c0 => ?_)
  · have h := h.1 c0
    refine x_iload_n 0 d_B_size_22 rfl ?_
    exact x_retI d_B_size_23 rfl ⟨rfl, rfl⟩ h
  · have h := h.2 c0
    obtain ⟨a1, ea1⟩ : ∃ z : Int32, z = x2 + 1 := ⟨_, rfl⟩
    have h := h a1 ea1
    refine x_iincE (L' := [(2, .int a1), (3, .long y3)]) 0 [0, 1] d_B_size_10 rfl ea1 (by decide) rfl ?_
    refine x_lload_n 1 d_B_size_13 rfl ?_
    refine x_lload_n 1 d_B_size_14 rfl ?_
    refine x_lconst (v := 1) d_B_size_15 (by decide) ?_
    refine x_lsub d_B_size_16 ?_
    refine x_land d_B_size_17 ?_
    obtain ⟨b2, eb2⟩ : ∃ z : Int64, z = y3 &&& (y3 - 1) := ⟨_, rfl⟩
    have h := h b2 eb2
    refine x_lstore_nE (L' := [(2, .int a1), (3, .long b2)]) [1, 0] d_B_size_18 (by decide) eb2 rfl ?_
    refine x_goto 4 d_B_size_19 (by decide) ?_
    exact h
set_option maxHeartbeats 1000000 in
theorem r_B_becomes {x1 : Int32} {y2 : Int64} {w : Wd} {K : Int32 → Wd → Prop} (h : RunV 1 M_B_notes [.ref 39] w (fun w1 => vp_in x1 6 ∧ ∀ w2 : Wd, w2 = upL w1 40 x1.toNatClampNeg y2 → RunI 1 M_B_size [.long y2] w2 (fun r4 w3 => K r4 w3))) : RunI 1 M_B_becomes [.ref 39, .int x1, .long y2] w K := by
  refine runs_of (L := [(0, .ref 39), (1, .int x1), (2, .long y2)]) rfl (Nat.le_of_ble_eq_true rfl) rfl ?_
  refine x_aload_n 0 d_B_becomes_0 rfl ?_
  refine x_callVV (st := []) M_B_notes [] d_B_becomes_1 ml_11_144 cv_B_notes rfl rfl (Nf_58 (by decide)) rfl (Nat.le_of_ble_eq_true rfl) ⟨Nat.le_of_ble_eq_true rfl, Nat.le_of_ble_eq_true rfl⟩ ⟨rfl, rfl⟩ h (fun w1 h => ?_)
  refine x_aload_n 0 d_B_becomes_4 rfl ?_
  refine x_getR 11 4 40 d_B_becomes_5 fg_11_23 rfl rfl rfl (Nf_58 (by decide)) ?_
  refine x_iload_n 1 d_B_becomes_8 rfl ?_
  refine x_lload_n 2 d_B_becomes_9 rfl ?_
  obtain ⟨h0, h⟩ := h
  refine x_lastE d_B_becomes_10 rfl (Nf_58 (by decide)) h0 (fun w2 ew2 => ?_)
  have h := h w2 ew2
  refine x_lload_n 2 d_B_becomes_11 rfl ?_
  refine x_callSI (st := []) M_B_size [.long y2] d_B_becomes_12 ml_11_130 cv_B_size rfl (Nat.le_of_ble_eq_true rfl) ⟨Nat.le_of_ble_eq_true rfl, Nat.le_of_ble_eq_true rfl⟩ ⟨rfl, rfl⟩ h (fun r4 w3 h => ?_)
  exact x_retI d_B_becomes_15 rfl ⟨rfl, rfl⟩ h
set_option maxHeartbeats 1000000 in
theorem r_B_isBlock {x0 : Int32} {w : Wd} {K : Bool → Wd → Prop} (h : RunZ 1 M_B_in [.long x0.toInt64, .long 0, .long 5] w (fun z2 w1 => K z2 w1)) : RunZ 1 M_B_isBlock [.int x0] w K := by
  refine runs_of (L := [(0, .int x0)]) rfl (Nat.le_of_ble_eq_true rfl) rfl ?_
  refine x_iload_n 0 d_B_isBlock_0 rfl ?_
  refine x_i2l d_B_isBlock_1 ?_
  refine x_lconst (v := 0) d_B_isBlock_2 (by decide) ?_
  refine x_ldc2 (v := 5) d_B_isBlock_3 mw_1112 ?_
  refine x_callSZ (st := []) M_B_in [.long x0.toInt64, .long 0, .long 5] d_B_isBlock_6 ml_11_83 cv_B_in rfl (Nat.le_of_ble_eq_true rfl) ⟨Nat.le_of_ble_eq_true rfl, Nat.le_of_ble_eq_true rfl⟩ ⟨rfl, rfl⟩ h (fun z2 w1 h => ?_)
  exact x_retZ d_B_isBlock_9 rfl rfl ⟨rfl, rfl⟩ h
set_option maxHeartbeats 1000000 in
theorem r_B_block {x1 : Int32} {w : Wd} {K : Int64 → Wd → Prop} (h : RunZ 1 M_B_isBlock [.int x1] w (fun z2 w1 => (z2 = false → K ((-1)) w1) ∧ (z2 = true → vp_in x1 6 ∧ K (w1.2 40 x1.toNatClampNeg) w1))) : RunL 1 M_B_block [.ref 39, .int x1] w K := by
  refine runs_of (L := [(0, .ref 39), (1, .int x1)]) rfl (Nat.le_of_ble_eq_true rfl) rfl ?_
  refine x_iload_n 1 d_B_block_0 rfl ?_
  refine x_callSZ (st := []) M_B_isBlock [.int x1] d_B_block_1 ml_11_147 cv_B_isBlock rfl (Nat.le_of_ble_eq_true rfl) ⟨Nat.le_of_ble_eq_true rfl, Nat.le_of_ble_eq_true rfl⟩ ⟨rfl, rfl⟩ h (fun z2 w1 h => ?_)
  refine x_zif_eq 16 d_B_block_4 (by decide) (fun c0 => ?_) (fun c0 => ?_)
  · have h := h.1 c0
    refine x_ldc2 (v := (-1)) d_B_block_16 mw_1184 ?_
    exact x_retL d_B_block_19 rfl ⟨rfl, rfl⟩ h
  · have h := h.2 c0
    refine x_aload_n 0 d_B_block_7 rfl ?_
    refine x_getR 11 4 40 d_B_block_8 fg_11_23 rfl rfl rfl (Nf_58 (by decide)) ?_
    refine x_iload_n 1 d_B_block_11 rfl ?_
    obtain ⟨h0, h⟩ := h
    refine x_lald d_B_block_12 rfl (Nf_58 (by decide)) h0 ?_
    refine x_goto 19 d_B_block_13 (by decide) ?_
    exact x_retL d_B_block_19 rfl ⟨rfl, rfl⟩ h
set_option maxHeartbeats 1000000 in
theorem r_B_blockSize {w : Wd} {K : Int32 → Wd → Prop} (h : E 1 M_B_blockSize 4 [(0, .ref 39), (1, .int 0), (2, .int 0)] [] w (qI 1 K)) : RunI 1 M_B_blockSize [.ref 39] w K := by
  refine runs_of (L := [(0, .ref 39)]) rfl (Nat.le_of_ble_eq_true rfl) rfl ?_
  refine x_iconst (v := 0) d_B_blockSize_0 (by decide) ?_
  refine x_istore_n (L' := [(0, .ref 39), (1, .int 0)]) [1, 0] d_B_blockSize_1 (by decide) rfl ?_
  refine x_iconst (v := 0) d_B_blockSize_2 (by decide) ?_
  refine x_istore_n (L' := [(0, .ref 39), (1, .int 0), (2, .int 0)]) [1, 2, 0] d_B_blockSize_3 (by decide) rfl ?_
  exact h
set_option maxHeartbeats 1000000 in
theorem w_B_blockSize_4 {x1 x2 : Int32} {w : Wd} {K : Int32 → Wd → Prop} (h : (6 ≤ x2 → (¬ x1 = 0 → K x1 w) ∧ (x1 = 0 → K ((-4)) w)) ∧ (¬ 6 ≤ x2 → vp_in x2 6 ∧ RunI 1 M_B_size [.long (w.2 40 x2.toNatClampNeg)] w (fun r2 w1 => (r2 ≤ 0 → (r2 ≤ 0 → ∀ a3 : Int32, a3 = x2 + 1 → E 1 M_B_blockSize 4 [(0, .ref 39), (1, .int x1), (2, .int a3)] [] w1 (qI 1 K)) ∧ (¬ r2 ≤ 0 → ∀ a4 : Int32, a4 = x2 + 1 → E 1 M_B_blockSize 4 [(0, .ref 39), (1, .int r2), (2, .int a4)] [] w1 (qI 1 K))) ∧ (¬ r2 ≤ 0 → (x1 ≤ 0 → (r2 ≤ 0 → ∀ a5 : Int32, a5 = x2 + 1 → E 1 M_B_blockSize 4 [(0, .ref 39), (1, .int x1), (2, .int a5)] [] w1 (qI 1 K)) ∧ (¬ r2 ≤ 0 → ∀ a6 : Int32, a6 = x2 + 1 → E 1 M_B_blockSize 4 [(0, .ref 39), (1, .int r2), (2, .int a6)] [] w1 (qI 1 K))) ∧ (¬ x1 ≤ 0 → (r2 = x1 → (r2 ≤ 0 → ∀ a7 : Int32, a7 = x2 + 1 → E 1 M_B_blockSize 4 [(0, .ref 39), (1, .int x1), (2, .int a7)] [] w1 (qI 1 K)) ∧ (¬ r2 ≤ 0 → ∀ a8 : Int32, a8 = x2 + 1 → E 1 M_B_blockSize 4 [(0, .ref 39), (1, .int r2), (2, .int a8)] [] w1 (qI 1 K))) ∧ (¬ r2 = x1 → K ((-4)) w1)))))) : E 1 M_B_blockSize 4 [(0, .ref 39), (1, .int x1), (2, .int x2)] [] w (qI 1 K) := by
  refine x_iload_n 2 d_B_blockSize_4 rfl ?_
  refine x_bipush (v := 6) d_B_blockSize_5 (by decide) ?_
  refine x_icmp_ge 52 d_B_blockSize_7 (by decide) (fun c0 => ?_) (fun c0 => ?_)
  · have h := h.1 c0
    refine x_iload_n 1 d_B_blockSize_52 rfl ?_
    refine x_if_ne 61 d_B_blockSize_53 (by decide) (fun c0 => ?_) (fun c0 => ?_)
    · have h := h.1 c0
      refine x_iload_n 1 d_B_blockSize_61 rfl ?_
      exact x_retI d_B_blockSize_62 rfl ⟨rfl, rfl⟩ h
    · have h := h.2 c0
      refine x_bipush (v := (-4)) d_B_blockSize_56 (by decide) ?_
      refine x_goto 62 d_B_blockSize_58 (by decide) ?_
      exact x_retI d_B_blockSize_62 rfl ⟨rfl, rfl⟩ h
  · have h := h.2 c0
    refine x_aload_n 0 d_B_blockSize_10 rfl ?_
    refine x_getR 11 4 40 d_B_blockSize_11 fg_11_23 rfl rfl rfl (Nf_58 (by decide)) ?_
    refine x_iload_n 2 d_B_blockSize_14 rfl ?_
    obtain ⟨h0, h⟩ := h
    refine x_lald d_B_blockSize_15 rfl (Nf_58 (by decide)) h0 ?_
    refine x_callSI (st := []) M_B_size [.long (w.2 40 x2.toNatClampNeg)] d_B_blockSize_16 ml_11_130 cv_B_size rfl (Nat.le_of_ble_eq_true rfl) ⟨Nat.le_of_ble_eq_true rfl, Nat.le_of_ble_eq_true rfl⟩ ⟨rfl, rfl⟩ h (fun r2 w1 h => ?_)
    refine x_istore_n (L' := [(0, .ref 39), (1, .int x1), (2, .int x2), (3, .int r2)]) [1, 2, 3, 0] d_B_blockSize_19 (by decide) rfl ?_
    refine x_iload_n 3 d_B_blockSize_20 rfl ?_
    refine x_if_le 36 d_B_blockSize_21 (by decide) (fun c0 => ?_) (fun c0 => ?_)
    · have h := h.1 c0
      refine x_iload_n 3 d_B_blockSize_36 rfl ?_
      refine x_if_le 44 d_B_blockSize_37 (by decide) (fun c0 => ?_) (fun c0 => ?_)
      · have h := h.1 c0
        refine x_iload_n 1 d_B_blockSize_44 rfl ?_
        refine x_istore_n (L' := [(0, .ref 39), (1, .int x1), (2, .int x2), (3, .int r2)]) [1, 0, 2, 3] d_B_blockSize_45 (by decide) rfl ?_
        obtain ⟨a3, ea3⟩ : ∃ z : Int32, z = x2 + 1 := ⟨_, rfl⟩
        have h := h a3 ea3
        refine x_iincE (L' := [(0, .ref 39), (1, .int x1), (2, .int a3), (3, .int r2)]) 2 [1, 2, 0, 3] d_B_blockSize_46 rfl ea3 (by decide) rfl ?_
        refine x_goto 4 d_B_blockSize_49 (by decide) ?_
        exact x_perm [0, 1, 2] rfl h
      · have h := h.2 c0
        refine x_iload_n 3 d_B_blockSize_40 rfl ?_
        refine x_goto 45 d_B_blockSize_41 (by decide) ?_
        refine x_istore_n (L' := [(0, .ref 39), (1, .int r2), (2, .int x2), (3, .int r2)]) [1, 0, 2, 3] d_B_blockSize_45 (by decide) rfl ?_
        obtain ⟨a4, ea4⟩ : ∃ z : Int32, z = x2 + 1 := ⟨_, rfl⟩
        have h := h a4 ea4
        refine x_iincE (L' := [(0, .ref 39), (1, .int r2), (2, .int a4), (3, .int r2)]) 2 [1, 2, 0, 3] d_B_blockSize_46 rfl ea4 (by decide) rfl ?_
        refine x_goto 4 d_B_blockSize_49 (by decide) ?_
        exact x_perm [0, 1, 2] rfl h
    · have h := h.2 c0
      refine x_iload_n 1 d_B_blockSize_24 rfl ?_
      refine x_if_le 36 d_B_blockSize_25 (by decide) (fun c0 => ?_) (fun c0 => ?_)
      · have h := h.1 c0
        refine x_iload_n 3 d_B_blockSize_36 rfl ?_
        refine x_if_le 44 d_B_blockSize_37 (by decide) (fun c0 => ?_) (fun c0 => ?_)
        · have h := h.1 c0
          refine x_iload_n 1 d_B_blockSize_44 rfl ?_
          refine x_istore_n (L' := [(0, .ref 39), (1, .int x1), (2, .int x2), (3, .int r2)]) [1, 0, 2, 3] d_B_blockSize_45 (by decide) rfl ?_
          obtain ⟨a5, ea5⟩ : ∃ z : Int32, z = x2 + 1 := ⟨_, rfl⟩
          have h := h a5 ea5
          refine x_iincE (L' := [(0, .ref 39), (1, .int x1), (2, .int a5), (3, .int r2)]) 2 [1, 2, 0, 3] d_B_blockSize_46 rfl ea5 (by decide) rfl ?_
          refine x_goto 4 d_B_blockSize_49 (by decide) ?_
          exact x_perm [0, 1, 2] rfl h
        · have h := h.2 c0
          refine x_iload_n 3 d_B_blockSize_40 rfl ?_
          refine x_goto 45 d_B_blockSize_41 (by decide) ?_
          refine x_istore_n (L' := [(0, .ref 39), (1, .int r2), (2, .int x2), (3, .int r2)]) [1, 0, 2, 3] d_B_blockSize_45 (by decide) rfl ?_
          obtain ⟨a6, ea6⟩ : ∃ z : Int32, z = x2 + 1 := ⟨_, rfl⟩
          have h := h a6 ea6
          refine x_iincE (L' := [(0, .ref 39), (1, .int r2), (2, .int a6), (3, .int r2)]) 2 [1, 2, 0, 3] d_B_blockSize_46 rfl ea6 (by decide) rfl ?_
          refine x_goto 4 d_B_blockSize_49 (by decide) ?_
          exact x_perm [0, 1, 2] rfl h
      · have h := h.2 c0
        refine x_iload_n 3 d_B_blockSize_28 rfl ?_
        refine x_iload_n 1 d_B_blockSize_29 rfl ?_
        refine x_icmp_eq 36 d_B_blockSize_30 (by decide) (fun c0 => ?_) (fun c0 => ?_)
        · have h := h.1 c0
          refine x_iload_n 3 d_B_blockSize_36 rfl ?_
          refine x_if_le 44 d_B_blockSize_37 (by decide) (fun c0 => ?_) (fun c0 => ?_)
          · have h := h.1 c0
            refine x_iload_n 1 d_B_blockSize_44 rfl ?_
            refine x_istore_n (L' := [(0, .ref 39), (1, .int x1), (2, .int x2), (3, .int r2)]) [1, 0, 2, 3] d_B_blockSize_45 (by decide) rfl ?_
            obtain ⟨a7, ea7⟩ : ∃ z : Int32, z = x2 + 1 := ⟨_, rfl⟩
            have h := h a7 ea7
            refine x_iincE (L' := [(0, .ref 39), (1, .int x1), (2, .int a7), (3, .int r2)]) 2 [1, 2, 0, 3] d_B_blockSize_46 rfl ea7 (by decide) rfl ?_
            refine x_goto 4 d_B_blockSize_49 (by decide) ?_
            exact x_perm [0, 1, 2] rfl h
          · have h := h.2 c0
            refine x_iload_n 3 d_B_blockSize_40 rfl ?_
            refine x_goto 45 d_B_blockSize_41 (by decide) ?_
            refine x_istore_n (L' := [(0, .ref 39), (1, .int r2), (2, .int x2), (3, .int r2)]) [1, 0, 2, 3] d_B_blockSize_45 (by decide) rfl ?_
            obtain ⟨a8, ea8⟩ : ∃ z : Int32, z = x2 + 1 := ⟨_, rfl⟩
            have h := h a8 ea8
            refine x_iincE (L' := [(0, .ref 39), (1, .int r2), (2, .int a8), (3, .int r2)]) 2 [1, 2, 0, 3] d_B_blockSize_46 rfl ea8 (by decide) rfl ?_
            refine x_goto 4 d_B_blockSize_49 (by decide) ?_
            exact x_perm [0, 1, 2] rfl h
        · have h := h.2 c0
          refine x_bipush (v := (-4)) d_B_blockSize_33 (by decide) ?_
          exact x_retI d_B_blockSize_35 rfl ⟨rfl, rfl⟩ h
set_option maxHeartbeats 1000000 in
theorem r_B_candidates {w : Wd} {K : Int32 → Wd → Prop} (h : K (w.1 39 15) w) : RunI 1 M_B_candidates [.ref 39] w K := by
  refine runs_of (L := [(0, .ref 39)]) rfl (Nat.le_of_ble_eq_true rfl) rfl ?_
  refine x_aload_n 0 d_B_candidates_0 rfl ?_
  refine x_getI 11 15 d_B_candidates_1 fg_11_115 rfl rfl (Nf_58 (by decide)) ?_
  exact x_retI d_B_candidates_4 rfl ⟨rfl, rfl⟩ h
set_option maxHeartbeats 1000000 in
theorem r_B_translate {x3 : Int32} {y1 : Int64} {w : Wd} {K : Int64 → Wd → Prop} (h : E 1 M_B_translate 6 [(0, .ref 39), (1, .long y1), (3, .int x3), (4, .long 0), (6, .int 0)] [] w (qL 1 K)) : RunL 1 M_B_translate [.ref 39, .long y1, .int x3] w K := by
  refine runs_of (L := [(0, .ref 39), (1, .long y1), (3, .int x3)]) rfl (Nat.le_of_ble_eq_true rfl) rfl ?_
  refine x_lconst (v := 0) d_B_translate_0 (by decide) ?_
  refine x_lstore (L' := [(0, .ref 39), (1, .long y1), (3, .int x3), (4, .long 0)]) [1, 2, 3, 0] d_B_translate_1 (by decide) rfl ?_
  refine x_iconst (v := 0) d_B_translate_3 (by decide) ?_
  refine x_istore (L' := [(0, .ref 39), (1, .long y1), (3, .int x3), (4, .long 0), (6, .int 0)]) [1, 2, 3, 4, 0] d_B_translate_4 (by decide) rfl ?_
  exact h
set_option maxHeartbeats 1000000 in
theorem w_B_translate_6 {x3 x6 : Int32} {y1 y4 : Int64} {w : Wd} {K : Int64 → Wd → Prop} (h : ((w.1 39 2) ≤ x6 → K y4 w) ∧ (¬ (w.1 39 2) ≤ x6 → RunZ 1 M_B_has [.long y1, .int x6] w (fun z2 w1 => (z2 = false → ∀ b3 : Int64, b3 = y4 ||| 0 → ∀ a4 : Int32, a4 = x6 + 1 → E 1 M_B_translate 6 [(0, .ref 39), (1, .long y1), (3, .int x3), (4, .long b3), (6, .int a4)] [] w1 (qL 1 K)) ∧ (z2 = true → RunI 1 M_B_plus [.ref 39, .int x6, .int x3] w1 (fun r6 w5 => ∀ b7 : Int64, b7 = y4 ||| (1 <<< (r6.toInt64 &&& 63)) → ∀ a8 : Int32, a8 = x6 + 1 → E 1 M_B_translate 6 [(0, .ref 39), (1, .long y1), (3, .int x3), (4, .long b7), (6, .int a8)] [] w5 (qL 1 K)))))) : E 1 M_B_translate 6 [(0, .ref 39), (1, .long y1), (3, .int x3), (4, .long y4), (6, .int x6)] [] w (qL 1 K) := by
  refine x_iload 4 d_B_translate_6 rfl ?_
  refine x_aload_n 0 d_B_translate_8 rfl ?_
  refine x_getI 11 2 d_B_translate_9 fg_11_16 rfl rfl (Nf_58 (by decide)) ?_
  refine x_icmp_ge 48 d_B_translate_12 (by decide) (fun c0 => ?_) (fun c0 => ?_)
  · have h := h.1 c0
    refine x_lload 3 d_B_translate_48 rfl ?_
    exact x_retL d_B_translate_50 rfl ⟨rfl, rfl⟩ h
  · have h := h.2 c0
    refine x_lload 3 d_B_translate_15 rfl ?_
    refine x_lload_n 1 d_B_translate_17 rfl ?_
    refine x_iload 4 d_B_translate_18 rfl ?_
    refine x_callSZ (st := [.long y4]) M_B_has [.long y1, .int x6] d_B_translate_20 ml_11_134 cv_B_has rfl (Nat.le_of_ble_eq_true rfl) ⟨Nat.le_of_ble_eq_true rfl, Nat.le_of_ble_eq_true rfl⟩ ⟨rfl, rfl⟩ h (fun z2 w1 h => ?_)
    refine x_zif_eq 38 d_B_translate_23 (by decide) (fun c0 => ?_) (fun c0 => ?_)
    · have h := h.1 c0
      refine x_lconst (v := 0) d_B_translate_38 (by decide) ?_
      refine x_lor d_B_translate_39 ?_
      obtain ⟨b3, eb3⟩ : ∃ z : Int64, z = y4 ||| 0 := ⟨_, rfl⟩
      have h := h b3 eb3
      refine x_lstoreE (L' := [(0, .ref 39), (1, .long y1), (3, .int x3), (4, .long b3), (6, .int x6)]) [1, 2, 3, 0, 4] d_B_translate_40 (by decide) eb3 rfl ?_
      obtain ⟨a4, ea4⟩ : ∃ z : Int32, z = x6 + 1 := ⟨_, rfl⟩
      have h := h a4 ea4
      refine x_iincE (L' := [(0, .ref 39), (1, .long y1), (3, .int x3), (4, .long b3), (6, .int a4)]) 4 [1, 2, 3, 4, 0] d_B_translate_42 rfl ea4 (by decide) rfl ?_
      refine x_goto 6 d_B_translate_45 (by decide) ?_
      exact h
    · have h := h.2 c0
      refine x_lconst (v := 1) d_B_translate_26 (by decide) ?_
      refine x_aload_n 0 d_B_translate_27 rfl ?_
      refine x_iload 4 d_B_translate_28 rfl ?_
      refine x_iload_n 2 d_B_translate_30 rfl ?_
      refine x_callVI (st := [.long 1, .long y4]) M_B_plus [.int x6, .int x3] d_B_translate_31 ml_11_91 cv_B_plus rfl rfl (Nf_58 (by decide)) rfl (Nat.le_of_ble_eq_true rfl) ⟨Nat.le_of_ble_eq_true rfl, Nat.le_of_ble_eq_true rfl⟩ ⟨rfl, rfl⟩ h (fun r6 w5 h => ?_)
      refine x_lshl d_B_translate_34 ?_
      refine x_goto 39 d_B_translate_35 (by decide) ?_
      refine x_lor d_B_translate_39 ?_
      obtain ⟨b7, eb7⟩ : ∃ z : Int64, z = y4 ||| (1 <<< (r6.toInt64 &&& 63)) := ⟨_, rfl⟩
      have h := h b7 eb7
      refine x_lstoreE (L' := [(0, .ref 39), (1, .long y1), (3, .int x3), (4, .long b7), (6, .int x6)]) [1, 2, 3, 0, 4] d_B_translate_40 (by decide) eb7 rfl ?_
      obtain ⟨a8, ea8⟩ : ∃ z : Int32, z = x6 + 1 := ⟨_, rfl⟩
      have h := h a8 ea8
      refine x_iincE (L' := [(0, .ref 39), (1, .long y1), (3, .int x3), (4, .long b7), (6, .int a8)]) 4 [1, 2, 3, 4, 0] d_B_translate_42 rfl ea8 (by decide) rfl ?_
      refine x_goto 6 d_B_translate_45 (by decide) ?_
      exact h
set_option maxHeartbeats 1000000 in
theorem r_B_normalOf {y1 : Int64} {w : Wd} {K : Int64 → Wd → Prop} (h : E 1 M_B_normalOf 5 [(0, .ref 39), (1, .long y1), (3, .long y1), (5, .int 1)] [] w (qL 1 K)) : RunL 1 M_B_normalOf [.ref 39, .long y1] w K := by
  refine runs_of (L := [(0, .ref 39), (1, .long y1)]) rfl (Nat.le_of_ble_eq_true rfl) rfl ?_
  refine x_lload_n 1 d_B_normalOf_0 rfl ?_
  refine x_lstore_n (L' := [(0, .ref 39), (1, .long y1), (3, .long y1)]) [1, 2, 0] d_B_normalOf_1 (by decide) rfl ?_
  refine x_iconst (v := 1) d_B_normalOf_2 (by decide) ?_
  refine x_istore (L' := [(0, .ref 39), (1, .long y1), (3, .long y1), (5, .int 1)]) [1, 2, 3, 0] d_B_normalOf_3 (by decide) rfl ?_
  exact h
set_option maxHeartbeats 1000000 in
theorem w_B_normalOf_5 {x5 : Int32} {y1 y3 : Int64} {w : Wd} {K : Int64 → Wd → Prop} (h : ((w.1 39 2) ≤ x5 → K y3 w) ∧ (¬ (w.1 39 2) ≤ x5 → RunL 1 M_B_translate [.ref 39, .long y1, .int x5] w (fun r2 w1 => (y3 ≤ r2 → ∀ a3 : Int32, a3 = x5 + 1 → E 1 M_B_normalOf 5 [(0, .ref 39), (1, .long y1), (3, .long y3), (5, .int a3)] [] w1 (qL 1 K)) ∧ (¬ y3 ≤ r2 → ∀ a4 : Int32, a4 = x5 + 1 → E 1 M_B_normalOf 5 [(0, .ref 39), (1, .long y1), (3, .long r2), (5, .int a4)] [] w1 (qL 1 K))))) : E 1 M_B_normalOf 5 [(0, .ref 39), (1, .long y1), (3, .long y3), (5, .int x5)] [] w (qL 1 K) := by
  refine x_iload 3 d_B_normalOf_5 rfl ?_
  refine x_aload_n 0 d_B_normalOf_7 rfl ?_
  refine x_getI 11 2 d_B_normalOf_8 fg_11_16 rfl rfl (Nf_58 (by decide)) ?_
  refine x_icmp_ge 43 d_B_normalOf_11 (by decide) (fun c0 => ?_) (fun c0 => ?_)
  · have h := h.1 c0
    refine x_lload_n 2 d_B_normalOf_43 rfl ?_
    exact x_retL d_B_normalOf_44 rfl ⟨rfl, rfl⟩ h
  · have h := h.2 c0
    refine x_aload_n 0 d_B_normalOf_14 rfl ?_
    refine x_lload_n 1 d_B_normalOf_15 rfl ?_
    refine x_iload 3 d_B_normalOf_16 rfl ?_
    refine x_callVL (st := []) M_B_translate [.long y1, .int x5] d_B_normalOf_18 ml_11_138 cv_B_translate rfl rfl (Nf_58 (by decide)) rfl (Nat.le_of_ble_eq_true rfl) ⟨Nat.le_of_ble_eq_true rfl, Nat.le_of_ble_eq_true rfl⟩ ⟨rfl, rfl⟩ h (fun r2 w1 h => ?_)
    refine x_lstore (L' := [(0, .ref 39), (1, .long y1), (3, .long y3), (5, .int x5), (6, .long r2)]) [1, 2, 3, 4, 0] d_B_normalOf_21 (by decide) rfl ?_
    refine x_lload 4 d_B_normalOf_23 rfl ?_
    refine x_lload_n 2 d_B_normalOf_25 rfl ?_
    refine x_lif_ge 35 d_B_normalOf_26 d_B_normalOf_27 (by decide) (fun c0 => ?_) (fun c0 => ?_)
    · have h := h.1 c0
      refine x_lload_n 2 d_B_normalOf_35 rfl ?_
      refine x_lstore_n (L' := [(0, .ref 39), (1, .long y1), (3, .long y3), (5, .int x5), (6, .long r2)]) [1, 2, 0, 3, 4] d_B_normalOf_36 (by decide) rfl ?_
      obtain ⟨a3, ea3⟩ : ∃ z : Int32, z = x5 + 1 := ⟨_, rfl⟩
      have h := h a3 ea3
      refine x_iincE (L' := [(0, .ref 39), (1, .long y1), (3, .long y3), (5, .int a3), (6, .long r2)]) 3 [1, 2, 3, 0, 4] d_B_normalOf_37 rfl ea3 (by decide) rfl ?_
      refine x_goto 5 d_B_normalOf_40 (by decide) ?_
      exact x_perm [0, 1, 2, 3] rfl h
    · have h := h.2 c0
      refine x_lload 4 d_B_normalOf_30 rfl ?_
      refine x_goto 36 d_B_normalOf_32 (by decide) ?_
      refine x_lstore_n (L' := [(0, .ref 39), (1, .long y1), (3, .long r2), (5, .int x5), (6, .long r2)]) [1, 2, 0, 3, 4] d_B_normalOf_36 (by decide) rfl ?_
      obtain ⟨a4, ea4⟩ : ∃ z : Int32, z = x5 + 1 := ⟨_, rfl⟩
      have h := h a4 ea4
      refine x_iincE (L' := [(0, .ref 39), (1, .long y1), (3, .long r2), (5, .int a4), (6, .long r2)]) 3 [1, 2, 3, 0, 4] d_B_normalOf_37 rfl ea4 (by decide) rfl ?_
      refine x_goto 5 d_B_normalOf_40 (by decide) ?_
      exact x_perm [0, 1, 2, 3] rfl h
set_option maxHeartbeats 1000000 in
theorem r_B_lists {p0 n0 : Nat} (hk0 : kd p0 = .inl (1, n0)) (hp0 : p0 < Nf 1) {p4 : Nat} (hk4 : kd p4 = .inl (1, 6)) (hp4 : p4 < Nf 1) {x2 x3 x4 : Int32} {w : Wd} {K : Wd → Prop} (h : ∀ w1 : Wd, w1 = upI w 39 19 0 → E 1 M_B_lists 8 [(0, .ref 39), (1, .ref p0), (2, .int x2), (3, .int x3), (4, .int x4), (5, .ref p4), (6, .int 0)] [] w1 (qV 1 K)) : RunV 1 M_B_lists [.ref 39, .ref p0, .int x2, .int x3, .int x4, .ref p4] w K := by
  refine runs_of (L := [(0, .ref 39), (1, .ref p0), (2, .int x2), (3, .int x3), (4, .int x4), (5, .ref p4)]) rfl (Nat.le_of_ble_eq_true rfl) rfl ?_
  refine x_aload_n 0 d_B_lists_0 rfl ?_
  refine x_iconst (v := 0) d_B_lists_1 (by decide) ?_
  refine x_putIE 11 19 d_B_lists_2 fp_11_188 rfl rfl (Nf_58 (by decide)) (fun w1 ew1 => ?_)
  have h := h w1 ew1
  refine x_iconst (v := 0) d_B_lists_5 (by decide) ?_
  refine x_istore (L' := [(0, .ref 39), (1, .ref p0), (2, .int x2), (3, .int x3), (4, .int x4), (5, .ref p4), (6, .int 0)]) [1, 2, 3, 4, 5, 6, 0] d_B_lists_6 (by decide) rfl ?_
  exact h
set_option maxHeartbeats 1000000 in
theorem w_B_lists_8 {p0 n0 : Nat} (hk0 : kd p0 = .inl (1, n0)) (hp0 : p0 < Nf 1) {p4 : Nat} (hk4 : kd p4 = .inl (1, 6)) (hp4 : p4 < Nf 1) {x2 x3 x4 x6 : Int32} {w : Wd} {K : Wd → Prop} (h : (6 ≤ x6 → K w) ∧ (¬ 6 ≤ x6 → vp_in (x2 + x6) n0 ∧ ((w.2 p0 (x2 + x6).toNatClampNeg) = 0 → ∀ a1 : Int32, a1 = x6 + 1 → E 1 M_B_lists 8 [(0, .ref 39), (1, .ref p0), (2, .int x2), (3, .int x3), (4, .int x4), (5, .ref p4), (6, .int a1)] [] w (qV 1 K)) ∧ (¬ (w.2 p0 (x2 + x6).toNatClampNeg) = 0 → vp_in (x2 + x6) n0 ∧ RunL 1 M_B_imageOf [.ref 39, .long (w.2 p0 (x2 + x6).toNatClampNeg), .int x3, .int x4] w (fun r3 w2 => RunL 1 M_B_normalOf [.ref 39, .long r3] w2 (fun r5 w4 => ∀ a6 : Int32, a6 = w4.1 39 19 → E 1 M_B_lists 51 [(0, .ref 39), (1, .ref p0), (2, .int x2), (3, .int x3), (4, .int x4), (5, .ref p4), (6, .int x6), (7, .long r5), (9, .int a6)] [] w4 (qV 1 K)))))) : E 1 M_B_lists 8 [(0, .ref 39), (1, .ref p0), (2, .int x2), (3, .int x3), (4, .int x4), (5, .ref p4), (6, .int x6)] [] w (qV 1 K) := by
  refine x_iload 6 d_B_lists_8 rfl ?_
  refine x_bipush (v := 6) d_B_lists_10 (by decide) ?_
  refine x_icmp_ge 110 d_B_lists_12 (by decide) (fun c0 => ?_) (fun c0 => ?_)
  · have h := h.1 c0
    exact x_retV d_B_lists_110 rfl ⟨rfl, rfl⟩ h
  · have h := h.2 c0
    refine x_aload_n 1 d_B_lists_15 rfl ?_
    refine x_iload_n 2 d_B_lists_16 rfl ?_
    refine x_iload 6 d_B_lists_17 rfl ?_
    refine x_iadd d_B_lists_19 ?_
    obtain ⟨h0, h⟩ := h
    refine x_lald d_B_lists_20 hk0 hp0 h0 ?_
    refine x_lconst (v := 0) d_B_lists_21 (by decide) ?_
    refine x_lif_eq 104 d_B_lists_22 d_B_lists_23 (by decide) (fun c0 => ?_) (fun c0 => ?_)
    · have h := h.1 c0
      obtain ⟨a1, ea1⟩ : ∃ z : Int32, z = x6 + 1 := ⟨_, rfl⟩
      have h := h a1 ea1
      refine x_iincE (L' := [(0, .ref 39), (1, .ref p0), (2, .int x2), (3, .int x3), (4, .int x4), (5, .ref p4), (6, .int a1)]) 6 [1, 2, 3, 4, 5, 6, 0] d_B_lists_104 rfl ea1 (by decide) rfl ?_
      refine x_goto 8 d_B_lists_107 (by decide) ?_
      exact h
    · have h := h.2 c0
      refine x_aload_n 0 d_B_lists_26 rfl ?_
      refine x_aload_n 0 d_B_lists_27 rfl ?_
      refine x_aload_n 1 d_B_lists_28 rfl ?_
      refine x_iload_n 2 d_B_lists_29 rfl ?_
      refine x_iload 6 d_B_lists_30 rfl ?_
      refine x_iadd d_B_lists_32 ?_
      obtain ⟨h0, h⟩ := h
      refine x_lald d_B_lists_33 hk0 hp0 h0 ?_
      refine x_iload_n 3 d_B_lists_34 rfl ?_
      refine x_iload 4 d_B_lists_35 rfl ?_
      refine x_callVL (st := [.ref 39]) M_B_imageOf [.long (w.2 p0 (x2 + x6).toNatClampNeg), .int x3, .int x4] d_B_lists_37 ml_11_154 cv_B_imageOf rfl rfl (Nf_58 (by decide)) rfl (Nat.le_of_ble_eq_true rfl) ⟨Nat.le_of_ble_eq_true rfl, Nat.le_of_ble_eq_true rfl⟩ ⟨rfl, rfl⟩ h (fun r3 w2 h => ?_)
      refine x_callVL (st := []) M_B_normalOf [.long r3] d_B_lists_40 ml_11_174 cv_B_normalOf rfl rfl (Nf_58 (by decide)) rfl (Nat.le_of_ble_eq_true rfl) ⟨Nat.le_of_ble_eq_true rfl, Nat.le_of_ble_eq_true rfl⟩ ⟨rfl, rfl⟩ h (fun r5 w4 h => ?_)
      refine x_lstore (L' := [(0, .ref 39), (1, .ref p0), (2, .int x2), (3, .int x3), (4, .int x4), (5, .ref p4), (6, .int x6), (7, .long r5)]) [1, 2, 3, 4, 5, 6, 7, 0] d_B_lists_43 (by decide) rfl ?_
      refine x_aload_n 0 d_B_lists_45 rfl ?_
      refine x_getI 11 19 d_B_lists_46 fg_11_188 rfl rfl (Nf_58 (by decide)) ?_
      obtain ⟨a6, ea6⟩ : ∃ z : Int32, z = w4.1 39 19 := ⟨_, rfl⟩
      have h := h a6 ea6
      refine x_istoreE (L' := [(0, .ref 39), (1, .ref p0), (2, .int x2), (3, .int x3), (4, .int x4), (5, .ref p4), (6, .int x6), (7, .long r5), (9, .int a6)]) [1, 2, 3, 4, 5, 6, 7, 8, 0] d_B_lists_49 (by decide) ea6 rfl ?_
      exact h
set_option maxHeartbeats 1000000 in
theorem w_B_lists_51 {p0 n0 : Nat} (hk0 : kd p0 = .inl (1, n0)) (hp0 : p0 < Nf 1) {p4 : Nat} (hk4 : kd p4 = .inl (1, 6)) (hp4 : p4 < Nf 1) {x2 x3 x4 x6 x9 : Int32} {y7 : Int64} {w : Wd} {K : Wd → Prop} (h : (x9 ≤ 0 → vp_in x9 6 ∧ ∀ w1 : Wd, w1 = upL w p4 x9.toNatClampNeg y7 → ∀ w2 : Wd, w2 = upI w1 39 19 ((w1.1 39 19) + 1) → ∀ a3 : Int32, a3 = x6 + 1 → E 1 M_B_lists 8 [(0, .ref 39), (1, .ref p0), (2, .int x2), (3, .int x3), (4, .int x4), (5, .ref p4), (6, .int a3)] [] w2 (qV 1 K)) ∧ (¬ x9 ≤ 0 → vp_in (x9 - 1) 6 ∧ ((w.2 p4 (x9 - 1).toNatClampNeg) ≤ y7 → vp_in x9 6 ∧ ∀ w4 : Wd, w4 = upL w p4 x9.toNatClampNeg y7 → ∀ w5 : Wd, w5 = upI w4 39 19 ((w4.1 39 19) + 1) → ∀ a6 : Int32, a6 = x6 + 1 → E 1 M_B_lists 8 [(0, .ref 39), (1, .ref p0), (2, .int x2), (3, .int x3), (4, .int x4), (5, .ref p4), (6, .int a6)] [] w5 (qV 1 K)) ∧ (¬ (w.2 p4 (x9 - 1).toNatClampNeg) ≤ y7 → vp_in (x9 - 1) 6 ∧ vp_in x9 6 ∧ ∀ w7 : Wd, w7 = upL w p4 x9.toNatClampNeg (w.2 p4 (x9 - 1).toNatClampNeg) → ∀ a8 : Int32, a8 = x9 + (-1) → E 1 M_B_lists 51 [(0, .ref 39), (1, .ref p0), (2, .int x2), (3, .int x3), (4, .int x4), (5, .ref p4), (6, .int x6), (7, .long y7), (9, .int a8)] [] w7 (qV 1 K)))) : E 1 M_B_lists 51 [(0, .ref 39), (1, .ref p0), (2, .int x2), (3, .int x3), (4, .int x4), (5, .ref p4), (6, .int x6), (7, .long y7), (9, .int x9)] [] w (qV 1 K) := by
  refine x_iload 8 d_B_lists_51 rfl ?_
  refine x_if_le 87 d_B_lists_53 (by decide) (fun c0 => ?_) (fun c0 => ?_)
  · have h := h.1 c0
    refine x_aload 5 d_B_lists_87 rfl ?_
    refine x_iload 8 d_B_lists_89 rfl ?_
    refine x_lload 7 d_B_lists_91 rfl ?_
    obtain ⟨h0, h⟩ := h
    refine x_lastE d_B_lists_93 hk4 hp4 h0 (fun w1 ew1 => ?_)
    have h := h w1 ew1
    refine x_aload_n 0 d_B_lists_94 rfl ?_
    refine x_dup d_B_lists_95 rfl ?_
    refine x_getI 11 19 d_B_lists_96 fg_11_188 rfl rfl (Nf_58 (by decide)) ?_
    refine x_iconst (v := 1) d_B_lists_99 (by decide) ?_
    refine x_iadd d_B_lists_100 ?_
    refine x_putIE 11 19 d_B_lists_101 fp_11_188 rfl rfl (Nf_58 (by decide)) (fun w2 ew2 => ?_)
    have h := h w2 ew2
    obtain ⟨a3, ea3⟩ : ∃ z : Int32, z = x6 + 1 := ⟨_, rfl⟩
    have h := h a3 ea3
    refine x_iincE (L' := [(0, .ref 39), (1, .ref p0), (2, .int x2), (3, .int x3), (4, .int x4), (5, .ref p4), (6, .int a3), (7, .long y7), (9, .int x9)]) 6 [1, 2, 3, 4, 5, 6, 0, 7, 8] d_B_lists_104 rfl ea3 (by decide) rfl ?_
    refine x_goto 8 d_B_lists_107 (by decide) ?_
    exact x_perm [0, 1, 2, 3, 4, 5, 6] rfl h
  · have h := h.2 c0
    refine x_aload 5 d_B_lists_56 rfl ?_
    refine x_iload 8 d_B_lists_58 rfl ?_
    refine x_iconst (v := 1) d_B_lists_60 (by decide) ?_
    refine x_isub d_B_lists_61 ?_
    obtain ⟨h0, h⟩ := h
    refine x_lald d_B_lists_62 hk4 hp4 h0 ?_
    refine x_lload 7 d_B_lists_63 rfl ?_
    refine x_lif_le 87 d_B_lists_65 d_B_lists_66 (by decide) (fun c0 => ?_) (fun c0 => ?_)
    · have h := h.1 c0
      refine x_aload 5 d_B_lists_87 rfl ?_
      refine x_iload 8 d_B_lists_89 rfl ?_
      refine x_lload 7 d_B_lists_91 rfl ?_
      obtain ⟨h0, h⟩ := h
      refine x_lastE d_B_lists_93 hk4 hp4 h0 (fun w4 ew4 => ?_)
      have h := h w4 ew4
      refine x_aload_n 0 d_B_lists_94 rfl ?_
      refine x_dup d_B_lists_95 rfl ?_
      refine x_getI 11 19 d_B_lists_96 fg_11_188 rfl rfl (Nf_58 (by decide)) ?_
      refine x_iconst (v := 1) d_B_lists_99 (by decide) ?_
      refine x_iadd d_B_lists_100 ?_
      refine x_putIE 11 19 d_B_lists_101 fp_11_188 rfl rfl (Nf_58 (by decide)) (fun w5 ew5 => ?_)
      have h := h w5 ew5
      obtain ⟨a6, ea6⟩ : ∃ z : Int32, z = x6 + 1 := ⟨_, rfl⟩
      have h := h a6 ea6
      refine x_iincE (L' := [(0, .ref 39), (1, .ref p0), (2, .int x2), (3, .int x3), (4, .int x4), (5, .ref p4), (6, .int a6), (7, .long y7), (9, .int x9)]) 6 [1, 2, 3, 4, 5, 6, 0, 7, 8] d_B_lists_104 rfl ea6 (by decide) rfl ?_
      refine x_goto 8 d_B_lists_107 (by decide) ?_
      exact x_perm [0, 1, 2, 3, 4, 5, 6] rfl h
    · have h := h.2 c0
      refine x_aload 5 d_B_lists_69 rfl ?_
      refine x_iload 8 d_B_lists_71 rfl ?_
      refine x_aload 5 d_B_lists_73 rfl ?_
      refine x_iload 8 d_B_lists_75 rfl ?_
      refine x_iconst (v := 1) d_B_lists_77 (by decide) ?_
      refine x_isub d_B_lists_78 ?_
      obtain ⟨h0, h⟩ := h
      refine x_lald d_B_lists_79 hk4 hp4 h0 ?_
      obtain ⟨h0, h⟩ := h
      refine x_lastE d_B_lists_80 hk4 hp4 h0 (fun w7 ew7 => ?_)
      have h := h w7 ew7
      obtain ⟨a8, ea8⟩ : ∃ z : Int32, z = x9 + (-1) := ⟨_, rfl⟩
      have h := h a8 ea8
      refine x_iincE (L' := [(0, .ref 39), (1, .ref p0), (2, .int x2), (3, .int x3), (4, .int x4), (5, .ref p4), (6, .int x6), (7, .long y7), (9, .int a8)]) 8 [1, 2, 3, 4, 5, 6, 7, 8, 0] d_B_lists_81 rfl ea8 (by decide) rfl ?_
      refine x_goto 51 d_B_lists_84 (by decide) ?_
      exact h
set_option maxHeartbeats 1000000 in
theorem r_B_compared {p0 : Nat} (hk0 : kd p0 = .inl (1, 6)) (hp0 : p0 < Nf 1) {p1 : Nat} (hk1 : kd p1 = .inl (1, 6)) (hp1 : p1 < Nf 1) {w : Wd} {K : Int32 → Wd → Prop} (h : E 1 M_B_compared 2 [(0, .ref 39), (1, .ref p0), (2, .ref p1), (3, .int 0)] [] w (qI 1 K)) : RunI 1 M_B_compared [.ref 39, .ref p0, .ref p1] w K := by
  refine runs_of (L := [(0, .ref 39), (1, .ref p0), (2, .ref p1)]) rfl (Nat.le_of_ble_eq_true rfl) rfl ?_
  refine x_iconst (v := 0) d_B_compared_0 (by decide) ?_
  refine x_istore_n (L' := [(0, .ref 39), (1, .ref p0), (2, .ref p1), (3, .int 0)]) [1, 2, 3, 0] d_B_compared_1 (by decide) rfl ?_
  exact h
set_option maxHeartbeats 1000000 in
theorem w_B_compared_2 {p0 : Nat} (hk0 : kd p0 = .inl (1, 6)) (hp0 : p0 < Nf 1) {p1 : Nat} (hk1 : kd p1 = .inl (1, 6)) (hp1 : p1 < Nf 1) {x3 : Int32} {w : Wd} {K : Int32 → Wd → Prop} (h : ((w.1 39 19) ≤ x3 → K 0 w) ∧ (¬ (w.1 39 19) ≤ x3 → vp_in x3 6 ∧ vp_in x3 6 ∧ ((w.2 p0 x3.toNatClampNeg) = (w.2 p1 x3.toNatClampNeg) → ∀ a1 : Int32, a1 = x3 + 1 → E 1 M_B_compared 2 [(0, .ref 39), (1, .ref p0), (2, .ref p1), (3, .int a1)] [] w (qI 1 K)) ∧ (¬ (w.2 p0 x3.toNatClampNeg) = (w.2 p1 x3.toNatClampNeg) → vp_in x3 6 ∧ vp_in x3 6 ∧ ((w.2 p1 x3.toNatClampNeg) ≤ (w.2 p0 x3.toNatClampNeg) → K 1 w) ∧ (¬ (w.2 p1 x3.toNatClampNeg) ≤ (w.2 p0 x3.toNatClampNeg) → K ((-1)) w)))) : E 1 M_B_compared 2 [(0, .ref 39), (1, .ref p0), (2, .ref p1), (3, .int x3)] [] w (qI 1 K) := by
  refine x_iload_n 3 d_B_compared_2 rfl ?_
  refine x_aload_n 0 d_B_compared_3 rfl ?_
  refine x_getI 11 19 d_B_compared_4 fg_11_188 rfl rfl (Nf_58 (by decide)) ?_
  refine x_icmp_ge 42 d_B_compared_7 (by decide) (fun c0 => ?_) (fun c0 => ?_)
  · have h := h.1 c0
    refine x_iconst (v := 0) d_B_compared_42 (by decide) ?_
    exact x_retI d_B_compared_43 rfl ⟨rfl, rfl⟩ h
  · have h := h.2 c0
    refine x_aload_n 1 d_B_compared_10 rfl ?_
    refine x_iload_n 3 d_B_compared_11 rfl ?_
    obtain ⟨h0, h⟩ := h
    refine x_lald d_B_compared_12 hk0 hp0 h0 ?_
    refine x_aload_n 2 d_B_compared_13 rfl ?_
    refine x_iload_n 3 d_B_compared_14 rfl ?_
    obtain ⟨h0, h⟩ := h
    refine x_lald d_B_compared_15 hk1 hp1 h0 ?_
    refine x_lif_eq 36 d_B_compared_16 d_B_compared_17 (by decide) (fun c0 => ?_) (fun c0 => ?_)
    · have h := h.1 c0
      obtain ⟨a1, ea1⟩ : ∃ z : Int32, z = x3 + 1 := ⟨_, rfl⟩
      have h := h a1 ea1
      refine x_iincE (L' := [(0, .ref 39), (1, .ref p0), (2, .ref p1), (3, .int a1)]) 3 [1, 2, 3, 0] d_B_compared_36 rfl ea1 (by decide) rfl ?_
      refine x_goto 2 d_B_compared_39 (by decide) ?_
      exact h
    · have h := h.2 c0
      refine x_aload_n 1 d_B_compared_20 rfl ?_
      refine x_iload_n 3 d_B_compared_21 rfl ?_
      obtain ⟨h0, h⟩ := h
      refine x_lald d_B_compared_22 hk0 hp0 h0 ?_
      refine x_aload_n 2 d_B_compared_23 rfl ?_
      refine x_iload_n 3 d_B_compared_24 rfl ?_
      obtain ⟨h0, h⟩ := h
      refine x_lald d_B_compared_25 hk1 hp1 h0 ?_
      refine x_lif_ge 34 d_B_compared_26 d_B_compared_27 (by decide) (fun c0 => ?_) (fun c0 => ?_)
      · have h := h.1 c0
        refine x_iconst (v := 1) d_B_compared_34 (by decide) ?_
        exact x_retI d_B_compared_35 rfl ⟨rfl, rfl⟩ h
      · have h := h.2 c0
        refine x_iconst (v := (-1)) d_B_compared_30 (by decide) ?_
        refine x_goto 35 d_B_compared_31 (by decide) ?_
        exact x_retI d_B_compared_35 rfl ⟨rfl, rfl⟩ h
set_option maxHeartbeats 1000000 in
theorem r_B_canonicalOf {p0 n0 : Nat} (hk0 : kd p0 = .inl (1, n0)) (hp0 : p0 < Nf 1) {p2 : Nat} (hk2 : kd p2 = .inl (1, 6)) (hp2 : p2 < Nf 1) {x2 : Int32} {w : Wd} {K : Wd → Prop} (h : E 1 M_B_canonicalOf 3 [(0, .ref 39), (1, .ref p0), (2, .int x2), (3, .ref p2), (4, .int 0)] [] w (qV 1 K)) : RunV 1 M_B_canonicalOf [.ref 39, .ref p0, .int x2, .ref p2] w K := by
  refine runs_of (L := [(0, .ref 39), (1, .ref p0), (2, .int x2), (3, .ref p2)]) rfl (Nat.le_of_ble_eq_true rfl) rfl ?_
  refine x_iconst (v := 0) d_B_canonicalOf_0 (by decide) ?_
  refine x_istore (L' := [(0, .ref 39), (1, .ref p0), (2, .int x2), (3, .ref p2), (4, .int 0)]) [1, 2, 3, 4, 0] d_B_canonicalOf_1 (by decide) rfl ?_
  exact h
set_option maxHeartbeats 1000000 in
theorem w_B_canonicalOf_3 {p0 n0 : Nat} (hk0 : kd p0 = .inl (1, n0)) (hp0 : p0 < Nf 1) {p2 : Nat} (hk2 : kd p2 = .inl (1, 6)) (hp2 : p2 < Nf 1) {x2 x4 : Int32} {w : Wd} {K : Wd → Prop} (h : ((w.1 39 11) ≤ x4 → K w) ∧ (¬ (w.1 39 11) ≤ x4 → vp_in x4 500 ∧ vp_in x4 500 ∧ RunV 1 M_B_lists [.ref 39, .ref p0, .int x2, .int (w.1 45 x4.toNatClampNeg), .int (w.1 46 x4.toNatClampNeg), .ref 49] w (fun w1 => (x4 = 0 → E 1 M_B_canonicalOf 56 [(0, .ref 39), (1, .ref p0), (2, .int x2), (3, .ref p2), (4, .int x4), (5, .int 0)] [] w1 (qV 1 K)) ∧ (¬ x4 = 0 → RunI 1 M_B_compared [.ref 39, .ref 49, .ref p2] w1 (fun r3 w2 => (0 ≤ r3 → ∀ a4 : Int32, a4 = x4 + 1 → E 1 M_B_canonicalOf 3 [(0, .ref 39), (1, .ref p0), (2, .int x2), (3, .ref p2), (4, .int a4)] [] w2 (qV 1 K)) ∧ (¬ 0 ≤ r3 → E 1 M_B_canonicalOf 56 [(0, .ref 39), (1, .ref p0), (2, .int x2), (3, .ref p2), (4, .int x4), (5, .int 0)] [] w2 (qV 1 K))))))) : E 1 M_B_canonicalOf 3 [(0, .ref 39), (1, .ref p0), (2, .int x2), (3, .ref p2), (4, .int x4)] [] w (qV 1 K) := by
  refine x_iload 4 d_B_canonicalOf_3 rfl ?_
  refine x_aload_n 0 d_B_canonicalOf_5 rfl ?_
  refine x_getI 11 11 d_B_canonicalOf_6 fg_11_98 rfl rfl (Nf_58 (by decide)) ?_
  refine x_icmp_ge 88 d_B_canonicalOf_9 (by decide) (fun c0 => ?_) (fun c0 => ?_)
  · have h := h.1 c0
    exact x_retV d_B_canonicalOf_88 rfl ⟨rfl, rfl⟩ h
  · have h := h.2 c0
    refine x_aload_n 0 d_B_canonicalOf_12 rfl ?_
    refine x_aload_n 1 d_B_canonicalOf_13 rfl ?_
    refine x_iload_n 2 d_B_canonicalOf_14 rfl ?_
    refine x_aload_n 0 d_B_canonicalOf_15 rfl ?_
    refine x_getR 11 12 45 d_B_canonicalOf_16 fg_11_41 rfl rfl rfl (Nf_58 (by decide)) ?_
    refine x_iload 4 d_B_canonicalOf_19 rfl ?_
    obtain ⟨h0, h⟩ := h
    refine x_iald d_B_canonicalOf_21 rfl (Nf_58 (by decide)) h0 ?_
    refine x_aload_n 0 d_B_canonicalOf_22 rfl ?_
    refine x_getR 11 13 46 d_B_canonicalOf_23 fg_11_44 rfl rfl rfl (Nf_58 (by decide)) ?_
    refine x_iload 4 d_B_canonicalOf_26 rfl ?_
    obtain ⟨h0, h⟩ := h
    refine x_iald d_B_canonicalOf_28 rfl (Nf_58 (by decide)) h0 ?_
    refine x_aload_n 0 d_B_canonicalOf_29 rfl ?_
    refine x_getR 11 20 49 d_B_canonicalOf_30 fg_11_53 rfl rfl rfl (Nf_58 (by decide)) ?_
    refine x_callVV (st := []) M_B_lists [.ref p0, .int x2, .int (w.1 45 x4.toNatClampNeg), .int (w.1 46 x4.toNatClampNeg), .ref 49] d_B_canonicalOf_33 ml_11_191 cv_B_lists rfl rfl (Nf_58 (by decide)) rfl (Nat.le_of_ble_eq_true rfl) ⟨Nat.le_of_ble_eq_true rfl, Nat.le_of_ble_eq_true rfl⟩ ⟨rfl, rfl⟩ h (fun w1 h => ?_)
    refine x_iload 4 d_B_canonicalOf_36 rfl ?_
    refine x_if_eq 53 d_B_canonicalOf_38 (by decide) (fun c0 => ?_) (fun c0 => ?_)
    · have h := h.1 c0
      refine x_iconst (v := 0) d_B_canonicalOf_53 (by decide) ?_
      refine x_istore (L' := [(0, .ref 39), (1, .ref p0), (2, .int x2), (3, .ref p2), (4, .int x4), (5, .int 0)]) [1, 2, 3, 4, 5, 0] d_B_canonicalOf_54 (by decide) rfl ?_
      exact h
    · have h := h.2 c0
      refine x_aload_n 0 d_B_canonicalOf_41 rfl ?_
      refine x_aload_n 0 d_B_canonicalOf_42 rfl ?_
      refine x_getR 11 20 49 d_B_canonicalOf_43 fg_11_53 rfl rfl rfl (Nf_58 (by decide)) ?_
      refine x_aload_n 3 d_B_canonicalOf_46 rfl ?_
      refine x_callVI (st := []) M_B_compared [.ref 49, .ref p2] d_B_canonicalOf_47 ml_11_195 cv_B_compared rfl rfl (Nf_58 (by decide)) rfl (Nat.le_of_ble_eq_true rfl) ⟨Nat.le_of_ble_eq_true rfl, Nat.le_of_ble_eq_true rfl⟩ ⟨rfl, rfl⟩ h (fun r3 w2 h => ?_)
      refine x_if_ge 82 d_B_canonicalOf_50 (by decide) (fun c0 => ?_) (fun c0 => ?_)
      · have h := h.1 c0
        obtain ⟨a4, ea4⟩ : ∃ z : Int32, z = x4 + 1 := ⟨_, rfl⟩
        have h := h a4 ea4
        refine x_iincE (L' := [(0, .ref 39), (1, .ref p0), (2, .int x2), (3, .ref p2), (4, .int a4)]) 4 [1, 2, 3, 4, 0] d_B_canonicalOf_82 rfl ea4 (by decide) rfl ?_
        refine x_goto 3 d_B_canonicalOf_85 (by decide) ?_
        exact h
      · have h := h.2 c0
        refine x_iconst (v := 0) d_B_canonicalOf_53 (by decide) ?_
        refine x_istore (L' := [(0, .ref 39), (1, .ref p0), (2, .int x2), (3, .ref p2), (4, .int x4), (5, .int 0)]) [1, 2, 3, 4, 5, 0] d_B_canonicalOf_54 (by decide) rfl ?_
        exact h
set_option maxHeartbeats 1000000 in
theorem w_B_canonicalOf_56 {p0 n0 : Nat} (hk0 : kd p0 = .inl (1, n0)) (hp0 : p0 < Nf 1) {p2 : Nat} (hk2 : kd p2 = .inl (1, 6)) (hp2 : p2 < Nf 1) {x2 x4 x5 : Int32} {w : Wd} {K : Wd → Prop} (h : ((w.1 39 19) ≤ x5 → ∀ a1 : Int32, a1 = x4 + 1 → E 1 M_B_canonicalOf 3 [(0, .ref 39), (1, .ref p0), (2, .int x2), (3, .ref p2), (4, .int a1)] [] w (qV 1 K)) ∧ (¬ (w.1 39 19) ≤ x5 → vp_in x5 6 ∧ vp_in x5 6 ∧ ∀ w2 : Wd, w2 = upL w p2 x5.toNatClampNeg (w.2 49 x5.toNatClampNeg) → ∀ a3 : Int32, a3 = x5 + 1 → E 1 M_B_canonicalOf 56 [(0, .ref 39), (1, .ref p0), (2, .int x2), (3, .ref p2), (4, .int x4), (5, .int a3)] [] w2 (qV 1 K))) : E 1 M_B_canonicalOf 56 [(0, .ref 39), (1, .ref p0), (2, .int x2), (3, .ref p2), (4, .int x4), (5, .int x5)] [] w (qV 1 K) := by
  refine x_iload 5 d_B_canonicalOf_56 rfl ?_
  refine x_aload_n 0 d_B_canonicalOf_58 rfl ?_
  refine x_getI 11 19 d_B_canonicalOf_59 fg_11_188 rfl rfl (Nf_58 (by decide)) ?_
  refine x_icmp_ge 82 d_B_canonicalOf_62 (by decide) (fun c0 => ?_) (fun c0 => ?_)
  · have h := h.1 c0
    obtain ⟨a1, ea1⟩ : ∃ z : Int32, z = x4 + 1 := ⟨_, rfl⟩
    have h := h a1 ea1
    refine x_iincE (L' := [(0, .ref 39), (1, .ref p0), (2, .int x2), (3, .ref p2), (4, .int a1), (5, .int x5)]) 4 [1, 2, 3, 4, 0, 5] d_B_canonicalOf_82 rfl ea1 (by decide) rfl ?_
    refine x_goto 3 d_B_canonicalOf_85 (by decide) ?_
    exact x_perm [0, 1, 2, 3, 4] rfl h
  · have h := h.2 c0
    refine x_aload_n 3 d_B_canonicalOf_65 rfl ?_
    refine x_iload 5 d_B_canonicalOf_66 rfl ?_
    refine x_aload_n 0 d_B_canonicalOf_68 rfl ?_
    refine x_getR 11 20 49 d_B_canonicalOf_69 fg_11_53 rfl rfl rfl (Nf_58 (by decide)) ?_
    refine x_iload 5 d_B_canonicalOf_72 rfl ?_
    obtain ⟨h0, h⟩ := h
    refine x_lald d_B_canonicalOf_74 rfl (Nf_58 (by decide)) h0 ?_
    obtain ⟨h0, h⟩ := h
    refine x_lastE d_B_canonicalOf_75 hk2 hp2 h0 (fun w2 ew2 => ?_)
    have h := h w2 ew2
    obtain ⟨a3, ea3⟩ : ∃ z : Int32, z = x5 + 1 := ⟨_, rfl⟩
    have h := h a3 ea3
    refine x_iincE (L' := [(0, .ref 39), (1, .ref p0), (2, .int x2), (3, .ref p2), (4, .int x4), (5, .int a3)]) 5 [1, 2, 3, 4, 5, 0] d_B_canonicalOf_76 rfl ea3 (by decide) rfl ?_
    refine x_goto 56 d_B_canonicalOf_79 (by decide) ?_
    exact h
set_option maxHeartbeats 1000000 in
theorem r_B_canonical {x1 : Int32} {w : Wd} {K : Int64 → Wd → Prop} (h : (0 ≤ x1 → RunV 1 M_B_canonicalOf [.ref 39, .ref 40, .int 0, .ref 51] w (fun w1 => ((w1.1 39 19) ≤ x1 → K ((-4)) w1) ∧ (¬ (w1.1 39 19) ≤ x1 → vp_in x1 6 ∧ K (w1.2 51 x1.toNatClampNeg) w1))) ∧ (¬ 0 ≤ x1 → K ((-1)) w)) : RunL 1 M_B_canonical [.ref 39, .int x1] w K := by
  refine runs_of (L := [(0, .ref 39), (1, .int x1)]) rfl (Nat.le_of_ble_eq_true rfl) rfl ?_
  refine x_iload_n 1 d_B_canonical_0 rfl ?_
  refine x_if_ge 8 d_B_canonical_1 (by decide) (fun c0 => ?_) (fun c0 => ?_)
  · have h := h.1 c0
    refine x_aload_n 0 d_B_canonical_8 rfl ?_
    refine x_aload_n 0 d_B_canonical_9 rfl ?_
    refine x_getR 11 4 40 d_B_canonical_10 fg_11_23 rfl rfl rfl (Nf_58 (by decide)) ?_
    refine x_iconst (v := 0) d_B_canonical_13 (by decide) ?_
    refine x_aload_n 0 d_B_canonical_14 rfl ?_
    refine x_getR 11 22 51 d_B_canonical_15 fg_11_59 rfl rfl rfl (Nf_58 (by decide)) ?_
    refine x_callVV (st := []) M_B_canonicalOf [.ref 40, .int 0, .ref 51] d_B_canonical_18 ml_11_205 cv_B_canonicalOf rfl rfl (Nf_58 (by decide)) rfl (Nat.le_of_ble_eq_true rfl) ⟨Nat.le_of_ble_eq_true rfl, Nat.le_of_ble_eq_true rfl⟩ ⟨rfl, rfl⟩ h (fun w1 h => ?_)
    refine x_iload_n 1 d_B_canonical_21 rfl ?_
    refine x_aload_n 0 d_B_canonical_22 rfl ?_
    refine x_getI 11 19 d_B_canonical_23 fg_11_188 rfl rfl (Nf_58 (by decide)) ?_
    refine x_icmp_ge 38 d_B_canonical_26 (by decide) (fun c0 => ?_) (fun c0 => ?_)
    · have h := h.1 c0
      refine x_ldc2 (v := (-4)) d_B_canonical_38 mw_1189 ?_
      exact x_retL d_B_canonical_41 rfl ⟨rfl, rfl⟩ h
    · have h := h.2 c0
      refine x_aload_n 0 d_B_canonical_29 rfl ?_
      refine x_getR 11 22 51 d_B_canonical_30 fg_11_59 rfl rfl rfl (Nf_58 (by decide)) ?_
      refine x_iload_n 1 d_B_canonical_33 rfl ?_
      obtain ⟨h0, h⟩ := h
      refine x_lald d_B_canonical_34 rfl (Nf_58 (by decide)) h0 ?_
      refine x_goto 41 d_B_canonical_35 (by decide) ?_
      exact x_retL d_B_canonical_41 rfl ⟨rfl, rfl⟩ h
  · have h := h.2 c0
    refine x_ldc2 (v := (-1)) d_B_canonical_4 mw_1184 ?_
    exact x_retL d_B_canonical_7 rfl ⟨rfl, rfl⟩ h
set_option maxHeartbeats 1000000 in
theorem r_B_more {y0 y2 : Int64} {w : Wd} {K : Int64 → Wd → Prop} (h : K ((31 * y0) + y2) w) : RunL 1 M_B_more [.long y0, .long y2] w K := by
  refine runs_of (L := [(0, .long y0), (2, .long y2)]) rfl (Nat.le_of_ble_eq_true rfl) rfl ?_
  refine x_ldc2 (v := 31) d_B_more_0 mw_1404 ?_
  refine x_lload_n 0 d_B_more_3 rfl ?_
  refine x_lmul d_B_more_4 ?_
  refine x_lload_n 1 d_B_more_5 rfl ?_
  refine x_ladd d_B_more_6 ?_
  exact x_retL d_B_more_7 rfl ⟨rfl, rfl⟩ h
set_option maxHeartbeats 1000000 in
theorem r_B_minus {x1 x2 : Int32} {w : Wd} {K : Int32 → Wd → Prop} (h : (¬ (w.1 39 1) = 0) ∧ (¬ (w.1 39 1) = 0) ∧ (¬ (w.1 39 0) = 0) ∧ (¬ (w.1 39 1) = 0) ∧ (¬ (w.1 39 1) = 0) ∧ (¬ (w.1 39 1) = 0) ∧ K (((w.1 39 1) * ((((x1 / (w.1 39 1)) - (x2 / (w.1 39 1))) + (w.1 39 0)) - (((x1 / (w.1 39 1)) - (x2 / (w.1 39 1))) + (w.1 39 0)) / (w.1 39 0) * (w.1 39 0))) + ((((x1 - x1 / (w.1 39 1) * (w.1 39 1)) - (x2 - x2 / (w.1 39 1) * (w.1 39 1))) + (w.1 39 1)) - (((x1 - x1 / (w.1 39 1) * (w.1 39 1)) - (x2 - x2 / (w.1 39 1) * (w.1 39 1))) + (w.1 39 1)) / (w.1 39 1) * (w.1 39 1))) w) : RunI 1 M_B_minus [.ref 39, .int x1, .int x2] w K := by
  refine runs_of (L := [(0, .ref 39), (1, .int x1), (2, .int x2)]) rfl (Nat.le_of_ble_eq_true rfl) rfl ?_
  refine x_aload_n 0 d_B_minus_0 rfl ?_
  refine x_getI 11 1 d_B_minus_1 fg_11_13 rfl rfl (Nf_58 (by decide)) ?_
  refine x_iload_n 1 d_B_minus_4 rfl ?_
  refine x_aload_n 0 d_B_minus_5 rfl ?_
  refine x_getI 11 1 d_B_minus_6 fg_11_13 rfl rfl (Nf_58 (by decide)) ?_
  obtain ⟨h0, h⟩ := h
  refine x_idiv d_B_minus_9 h0 ?_
  refine x_iload_n 2 d_B_minus_10 rfl ?_
  refine x_aload_n 0 d_B_minus_11 rfl ?_
  refine x_getI 11 1 d_B_minus_12 fg_11_13 rfl rfl (Nf_58 (by decide)) ?_
  obtain ⟨h0, h⟩ := h
  refine x_idiv d_B_minus_15 h0 ?_
  refine x_isub d_B_minus_16 ?_
  refine x_aload_n 0 d_B_minus_17 rfl ?_
  refine x_getI 11 0 d_B_minus_18 fg_11_7 rfl rfl (Nf_58 (by decide)) ?_
  refine x_iadd d_B_minus_21 ?_
  refine x_aload_n 0 d_B_minus_22 rfl ?_
  refine x_getI 11 0 d_B_minus_23 fg_11_7 rfl rfl (Nf_58 (by decide)) ?_
  obtain ⟨h0, h⟩ := h
  refine x_irem d_B_minus_26 h0 ?_
  refine x_imul d_B_minus_27 ?_
  refine x_iload_n 1 d_B_minus_28 rfl ?_
  refine x_aload_n 0 d_B_minus_29 rfl ?_
  refine x_getI 11 1 d_B_minus_30 fg_11_13 rfl rfl (Nf_58 (by decide)) ?_
  obtain ⟨h0, h⟩ := h
  refine x_irem d_B_minus_33 h0 ?_
  refine x_iload_n 2 d_B_minus_34 rfl ?_
  refine x_aload_n 0 d_B_minus_35 rfl ?_
  refine x_getI 11 1 d_B_minus_36 fg_11_13 rfl rfl (Nf_58 (by decide)) ?_
  obtain ⟨h0, h⟩ := h
  refine x_irem d_B_minus_39 h0 ?_
  refine x_isub d_B_minus_40 ?_
  refine x_aload_n 0 d_B_minus_41 rfl ?_
  refine x_getI 11 1 d_B_minus_42 fg_11_13 rfl rfl (Nf_58 (by decide)) ?_
  refine x_iadd d_B_minus_45 ?_
  refine x_aload_n 0 d_B_minus_46 rfl ?_
  refine x_getI 11 1 d_B_minus_47 fg_11_13 rfl rfl (Nf_58 (by decide)) ?_
  obtain ⟨h0, h⟩ := h
  refine x_irem d_B_minus_50 h0 ?_
  refine x_iadd d_B_minus_51 ?_
  exact x_retI d_B_minus_52 rfl ⟨rfl, rfl⟩ h
set_option maxHeartbeats 1000000 in
theorem r_B_counts {p0 n0 : Nat} (hk0 : kd p0 = .inl (1, n0)) (hp0 : p0 < Nf 1) {x2 : Int32} {w : Wd} {K : Wd → Prop} (h : E 1 M_B_counts 2 [(0, .ref 39), (1, .ref p0), (2, .int x2), (3, .int 0)] [] w (qV 1 K)) : RunV 1 M_B_counts [.ref 39, .ref p0, .int x2] w K := by
  refine runs_of (L := [(0, .ref 39), (1, .ref p0), (2, .int x2)]) rfl (Nat.le_of_ble_eq_true rfl) rfl ?_
  refine x_iconst (v := 0) d_B_counts_0 (by decide) ?_
  refine x_istore_n (L' := [(0, .ref 39), (1, .ref p0), (2, .int x2), (3, .int 0)]) [1, 2, 3, 0] d_B_counts_1 (by decide) rfl ?_
  exact h
set_option maxHeartbeats 1000000 in
theorem w_B_counts_2 {p0 n0 : Nat} (hk0 : kd p0 = .inl (1, n0)) (hp0 : p0 < Nf 1) {x2 x3 : Int32} {w : Wd} {K : Wd → Prop} (h : (40 ≤ x3 → E 1 M_B_counts 23 [(0, .ref 39), (1, .ref p0), (2, .int x2), (3, .int 0)] [] w (qV 1 K)) ∧ (¬ 40 ≤ x3 → vp_in x3 40 ∧ ∀ w1 : Wd, w1 = upI w 48 x3.toNatClampNeg 0 → ∀ a2 : Int32, a2 = x3 + 1 → E 1 M_B_counts 2 [(0, .ref 39), (1, .ref p0), (2, .int x2), (3, .int a2)] [] w1 (qV 1 K))) : E 1 M_B_counts 2 [(0, .ref 39), (1, .ref p0), (2, .int x2), (3, .int x3)] [] w (qV 1 K) := by
  refine x_iload_n 3 d_B_counts_2 rfl ?_
  refine x_bipush (v := 40) d_B_counts_3 (by decide) ?_
  refine x_icmp_ge 21 d_B_counts_5 (by decide) (fun c0 => ?_) (fun c0 => ?_)
  · have h := h.1 c0
    refine x_iconst (v := 0) d_B_counts_21 (by decide) ?_
    refine x_istore_n (L' := [(0, .ref 39), (1, .ref p0), (2, .int x2), (3, .int 0)]) [1, 2, 3, 0] d_B_counts_22 (by decide) rfl ?_
    exact h
  · have h := h.2 c0
    refine x_aload_n 0 d_B_counts_8 rfl ?_
    refine x_getR 11 18 48 d_B_counts_9 fg_11_50 rfl rfl rfl (Nf_58 (by decide)) ?_
    refine x_iload_n 3 d_B_counts_12 rfl ?_
    refine x_iconst (v := 0) d_B_counts_13 (by decide) ?_
    obtain ⟨h0, h⟩ := h
    refine x_iastE d_B_counts_14 rfl (Nf_58 (by decide)) h0 (fun w1 ew1 => ?_)
    have h := h w1 ew1
    obtain ⟨a2, ea2⟩ : ∃ z : Int32, z = x3 + 1 := ⟨_, rfl⟩
    have h := h a2 ea2
    refine x_iincE (L' := [(0, .ref 39), (1, .ref p0), (2, .int x2), (3, .int a2)]) 3 [1, 2, 3, 0] d_B_counts_15 rfl ea2 (by decide) rfl ?_
    refine x_goto 2 d_B_counts_18 (by decide) ?_
    exact h
set_option maxHeartbeats 1000000 in
theorem w_B_counts_23 {p0 n0 : Nat} (hk0 : kd p0 = .inl (1, n0)) (hp0 : p0 < Nf 1) {x2 x3 : Int32} {w : Wd} {K : Wd → Prop} (h : (x2 ≤ x3 → K w) ∧ (¬ x2 ≤ x3 → E 1 M_B_counts 31 [(0, .ref 39), (1, .ref p0), (2, .int x2), (3, .int x3), (4, .int 0)] [] w (qV 1 K))) : E 1 M_B_counts 23 [(0, .ref 39), (1, .ref p0), (2, .int x2), (3, .int x3)] [] w (qV 1 K) := by
  refine x_iload_n 3 d_B_counts_23 rfl ?_
  refine x_iload_n 2 d_B_counts_24 rfl ?_
  refine x_icmp_ge 116 d_B_counts_25 (by decide) (fun c0 => ?_) (fun c0 => ?_)
  · have h := h.1 c0
    exact x_retV d_B_counts_116 rfl ⟨rfl, rfl⟩ h
  · have h := h.2 c0
    refine x_iconst (v := 0) d_B_counts_28 (by decide) ?_
    refine x_istore (L' := [(0, .ref 39), (1, .ref p0), (2, .int x2), (3, .int x3), (4, .int 0)]) [1, 2, 3, 4, 0] d_B_counts_29 (by decide) rfl ?_
    exact h
set_option maxHeartbeats 1000000 in
theorem w_B_counts_31 {p0 n0 : Nat} (hk0 : kd p0 = .inl (1, n0)) (hp0 : p0 < Nf 1) {x2 x3 x4 : Int32} {w : Wd} {K : Wd → Prop} (h : ((w.1 39 2) ≤ x4 → ∀ a1 : Int32, a1 = x3 + 1 → E 1 M_B_counts 23 [(0, .ref 39), (1, .ref p0), (2, .int x2), (3, .int a1)] [] w (qV 1 K)) ∧ (¬ (w.1 39 2) ≤ x4 → E 1 M_B_counts 43 [(0, .ref 39), (1, .ref p0), (2, .int x2), (3, .int x3), (4, .int x4), (5, .int 0)] [] w (qV 1 K))) : E 1 M_B_counts 31 [(0, .ref 39), (1, .ref p0), (2, .int x2), (3, .int x3), (4, .int x4)] [] w (qV 1 K) := by
  refine x_iload 4 d_B_counts_31 rfl ?_
  refine x_aload_n 0 d_B_counts_33 rfl ?_
  refine x_getI 11 2 d_B_counts_34 fg_11_16 rfl rfl (Nf_58 (by decide)) ?_
  refine x_icmp_ge 110 d_B_counts_37 (by decide) (fun c0 => ?_) (fun c0 => ?_)
  · have h := h.1 c0
    obtain ⟨a1, ea1⟩ : ∃ z : Int32, z = x3 + 1 := ⟨_, rfl⟩
    have h := h a1 ea1
    refine x_iincE (L' := [(0, .ref 39), (1, .ref p0), (2, .int x2), (3, .int a1), (4, .int x4)]) 3 [1, 2, 3, 0, 4] d_B_counts_110 rfl ea1 (by decide) rfl ?_
    refine x_goto 23 d_B_counts_113 (by decide) ?_
    exact x_perm [0, 1, 2, 3] rfl h
  · have h := h.2 c0
    refine x_iconst (v := 0) d_B_counts_40 (by decide) ?_
    refine x_istore (L' := [(0, .ref 39), (1, .ref p0), (2, .int x2), (3, .int x3), (4, .int x4), (5, .int 0)]) [1, 2, 3, 4, 5, 0] d_B_counts_41 (by decide) rfl ?_
    exact h
set_option maxHeartbeats 1000000 in
theorem w_B_counts_43 {p0 n0 : Nat} (hk0 : kd p0 = .inl (1, n0)) (hp0 : p0 < Nf 1) {x2 x3 x4 x5 : Int32} {w : Wd} {K : Wd → Prop} (h : ((w.1 39 2) ≤ x5 → ∀ a1 : Int32, a1 = x4 + 1 → E 1 M_B_counts 31 [(0, .ref 39), (1, .ref p0), (2, .int x2), (3, .int x3), (4, .int a1)] [] w (qV 1 K)) ∧ (¬ (w.1 39 2) ≤ x5 → vp_in x3 n0 ∧ RunZ 1 M_B_has [.long (w.2 p0 x3.toNatClampNeg), .int x4] w (fun z3 w2 => (z3 = false → ∀ a4 : Int32, a4 = x4 + 1 → E 1 M_B_counts 31 [(0, .ref 39), (1, .ref p0), (2, .int x2), (3, .int x3), (4, .int a4)] [] w2 (qV 1 K)) ∧ (z3 = true → (x5 = x4 → ∀ a5 : Int32, a5 = x5 + 1 → E 1 M_B_counts 43 [(0, .ref 39), (1, .ref p0), (2, .int x2), (3, .int x3), (4, .int x4), (5, .int a5)] [] w2 (qV 1 K)) ∧ (¬ x5 = x4 → vp_in x3 n0 ∧ RunZ 1 M_B_has [.long (w2.2 p0 x3.toNatClampNeg), .int x5] w2 (fun z7 w6 => (z7 = false → ∀ a8 : Int32, a8 = x5 + 1 → E 1 M_B_counts 43 [(0, .ref 39), (1, .ref p0), (2, .int x2), (3, .int x3), (4, .int x4), (5, .int a8)] [] w6 (qV 1 K)) ∧ (z7 = true → RunI 1 M_B_minus [.ref 39, .int x4, .int x5] w6 (fun r10 w9 => vp_in r10 40 ∧ vp_in r10 40 ∧ ∀ w11 : Wd, w11 = upI w9 48 r10.toNatClampNeg ((w9.1 48 r10.toNatClampNeg) + 1) → ∀ a12 : Int32, a12 = x5 + 1 → E 1 M_B_counts 43 [(0, .ref 39), (1, .ref p0), (2, .int x2), (3, .int x3), (4, .int x4), (5, .int a12)] [] w11 (qV 1 K))))))))) : E 1 M_B_counts 43 [(0, .ref 39), (1, .ref p0), (2, .int x2), (3, .int x3), (4, .int x4), (5, .int x5)] [] w (qV 1 K) := by
  refine x_iload 5 d_B_counts_43 rfl ?_
  refine x_aload_n 0 d_B_counts_45 rfl ?_
  refine x_getI 11 2 d_B_counts_46 fg_11_16 rfl rfl (Nf_58 (by decide)) ?_
  refine x_icmp_ge 104 d_B_counts_49 (by decide) (fun c0 => ?_) (fun c0 => ?_)
  · have h := h.1 c0
    obtain ⟨a1, ea1⟩ : ∃ z : Int32, z = x4 + 1 := ⟨_, rfl⟩
    have h := h a1 ea1
    refine x_iincE (L' := [(0, .ref 39), (1, .ref p0), (2, .int x2), (3, .int x3), (4, .int a1), (5, .int x5)]) 4 [1, 2, 3, 4, 0, 5] d_B_counts_104 rfl ea1 (by decide) rfl ?_
    refine x_goto 31 d_B_counts_107 (by decide) ?_
    exact x_perm [0, 1, 2, 3, 4] rfl h
  · have h := h.2 c0
    refine x_aload_n 1 d_B_counts_52 rfl ?_
    refine x_iload_n 3 d_B_counts_53 rfl ?_
    obtain ⟨h0, h⟩ := h
    refine x_lald d_B_counts_54 hk0 hp0 h0 ?_
    refine x_iload 4 d_B_counts_55 rfl ?_
    refine x_callSZ (st := []) M_B_has [.long (w.2 p0 x3.toNatClampNeg), .int x4] d_B_counts_57 ml_11_134 cv_B_has rfl (Nat.le_of_ble_eq_true rfl) ⟨Nat.le_of_ble_eq_true rfl, Nat.le_of_ble_eq_true rfl⟩ ⟨rfl, rfl⟩ h (fun z3 w2 h => ?_)
    refine x_zif_eq 104 d_B_counts_60 (by decide) (fun c0 => ?_) (fun c0 => ?_)
    · have h := h.1 c0
      obtain ⟨a4, ea4⟩ : ∃ z : Int32, z = x4 + 1 := ⟨_, rfl⟩
      have h := h a4 ea4
      refine x_iincE (L' := [(0, .ref 39), (1, .ref p0), (2, .int x2), (3, .int x3), (4, .int a4), (5, .int x5)]) 4 [1, 2, 3, 4, 0, 5] d_B_counts_104 rfl ea4 (by decide) rfl ?_
      refine x_goto 31 d_B_counts_107 (by decide) ?_
      exact x_perm [0, 1, 2, 3, 4] rfl h
    · have h := h.2 c0
      refine x_iload 5 d_B_counts_63 rfl ?_
      refine x_iload 4 d_B_counts_65 rfl ?_
      refine x_icmp_eq 98 d_B_counts_67 (by decide) (fun c0 => ?_) (fun c0 => ?_)
      · have h := h.1 c0
        obtain ⟨a5, ea5⟩ : ∃ z : Int32, z = x5 + 1 := ⟨_, rfl⟩
        have h := h a5 ea5
        refine x_iincE (L' := [(0, .ref 39), (1, .ref p0), (2, .int x2), (3, .int x3), (4, .int x4), (5, .int a5)]) 5 [1, 2, 3, 4, 5, 0] d_B_counts_98 rfl ea5 (by decide) rfl ?_
        refine x_goto 43 d_B_counts_101 (by decide) ?_
        exact h
      · have h := h.2 c0
        refine x_aload_n 1 d_B_counts_70 rfl ?_
        refine x_iload_n 3 d_B_counts_71 rfl ?_
        obtain ⟨h0, h⟩ := h
        refine x_lald d_B_counts_72 hk0 hp0 h0 ?_
        refine x_iload 5 d_B_counts_73 rfl ?_
        refine x_callSZ (st := []) M_B_has [.long (w2.2 p0 x3.toNatClampNeg), .int x5] d_B_counts_75 ml_11_134 cv_B_has rfl (Nat.le_of_ble_eq_true rfl) ⟨Nat.le_of_ble_eq_true rfl, Nat.le_of_ble_eq_true rfl⟩ ⟨rfl, rfl⟩ h (fun z7 w6 h => ?_)
        refine x_zif_eq 98 d_B_counts_78 (by decide) (fun c0 => ?_) (fun c0 => ?_)
        · have h := h.1 c0
          obtain ⟨a8, ea8⟩ : ∃ z : Int32, z = x5 + 1 := ⟨_, rfl⟩
          have h := h a8 ea8
          refine x_iincE (L' := [(0, .ref 39), (1, .ref p0), (2, .int x2), (3, .int x3), (4, .int x4), (5, .int a8)]) 5 [1, 2, 3, 4, 5, 0] d_B_counts_98 rfl ea8 (by decide) rfl ?_
          refine x_goto 43 d_B_counts_101 (by decide) ?_
          exact h
        · have h := h.2 c0
          refine x_aload_n 0 d_B_counts_81 rfl ?_
          refine x_getR 11 18 48 d_B_counts_82 fg_11_50 rfl rfl rfl (Nf_58 (by decide)) ?_
          refine x_aload_n 0 d_B_counts_85 rfl ?_
          refine x_iload 4 d_B_counts_86 rfl ?_
          refine x_iload 5 d_B_counts_88 rfl ?_
          refine x_callVI (st := [.ref 48]) M_B_minus [.int x4, .int x5] d_B_counts_90 ml_11_178 cv_B_minus rfl rfl (Nf_58 (by decide)) rfl (Nat.le_of_ble_eq_true rfl) ⟨Nat.le_of_ble_eq_true rfl, Nat.le_of_ble_eq_true rfl⟩ ⟨rfl, rfl⟩ h (fun r10 w9 h => ?_)
          refine x_dup2 d_B_counts_93 rfl rfl ?_
          obtain ⟨h0, h⟩ := h
          refine x_iald d_B_counts_94 rfl (Nf_58 (by decide)) h0 ?_
          refine x_iconst (v := 1) d_B_counts_95 (by decide) ?_
          refine x_iadd d_B_counts_96 ?_
          obtain ⟨h0, h⟩ := h
          refine x_iastE d_B_counts_97 rfl (Nf_58 (by decide)) h0 (fun w11 ew11 => ?_)
          have h := h w11 ew11
          obtain ⟨a12, ea12⟩ : ∃ z : Int32, z = x5 + 1 := ⟨_, rfl⟩
          have h := h a12 ea12
          refine x_iincE (L' := [(0, .ref 39), (1, .ref p0), (2, .int x2), (3, .int x3), (4, .int x4), (5, .int a12)]) 5 [1, 2, 3, 4, 5, 0] d_B_counts_98 rfl ea12 (by decide) rfl ?_
          refine x_goto 43 d_B_counts_101 (by decide) ?_
          exact h
set_option maxHeartbeats 1000000 in
theorem r_B_gcd {x0 x1 : Int32} {w : Wd} {K : Int32 → Wd → Prop} (h : E 1 M_B_gcd 4 [(2, .int x0), (3, .int x1)] [] w (qI 1 K)) : RunI 1 M_B_gcd [.int x0, .int x1] w K := by
  refine runs_of (L := [(0, .int x0), (1, .int x1)]) rfl (Nat.le_of_ble_eq_true rfl) rfl ?_
  refine x_iload_n 0 d_B_gcd_0 rfl ?_
  refine x_istore_n (L' := [(0, .int x0), (1, .int x1), (2, .int x0)]) [1, 2, 0] d_B_gcd_1 (by decide) rfl ?_
  refine x_iload_n 1 d_B_gcd_2 rfl ?_
  refine x_istore_n (L' := [(0, .int x0), (1, .int x1), (2, .int x0), (3, .int x1)]) [1, 2, 3, 0] d_B_gcd_3 (by decide) rfl ?_
  exact x_perm [2, 3] rfl h
set_option maxHeartbeats 1000000 in
theorem w_B_gcd_4 {x2 x3 : Int32} {w : Wd} {K : Int32 → Wd → Prop} (h : (x3 = 0 → K x2 w) ∧ (¬ x3 = 0 → (¬ x3 = 0) ∧ ∀ a1 : Int32, a1 = x2 - x2 / x3 * x3 → E 1 M_B_gcd 4 [(2, .int x3), (3, .int a1)] [] w (qI 1 K))) : E 1 M_B_gcd 4 [(2, .int x2), (3, .int x3)] [] w (qI 1 K) := by
  refine x_iload_n 1 d_B_gcd_4 rfl ?_
  refine x_if_eq 21 d_B_gcd_5 (by decide) (fun c0 => ?_) (fun c0 => ?_)
  · have h := h.1 c0
    refine x_iload_n 0 d_B_gcd_21 rfl ?_
    exact x_retI d_B_gcd_22 rfl ⟨rfl, rfl⟩ h
  · have h := h.2 c0
    refine x_iload_n 0 d_B_gcd_8 rfl ?_
    refine x_iload_n 1 d_B_gcd_9 rfl ?_
    obtain ⟨h0, h⟩ := h
    refine x_irem d_B_gcd_10 h0 ?_
    obtain ⟨a1, ea1⟩ : ∃ z : Int32, z = x2 - x2 / x3 * x3 := ⟨_, rfl⟩
    have h := h a1 ea1
    refine x_istoreE (L' := [(2, .int x2), (3, .int x3), (4, .int a1)]) [1, 2, 0] d_B_gcd_11 (by decide) ea1 rfl ?_
    refine x_iload_n 1 d_B_gcd_13 rfl ?_
    refine x_istore_n (L' := [(2, .int x3), (3, .int x3), (4, .int a1)]) [0, 1, 2] d_B_gcd_14 (by decide) rfl ?_
    refine x_iload 2 d_B_gcd_15 rfl ?_
    refine x_istore_n (L' := [(2, .int x3), (3, .int a1), (4, .int a1)]) [1, 0, 2] d_B_gcd_17 (by decide) rfl ?_
    refine x_goto 4 d_B_gcd_18 (by decide) ?_
    exact x_perm [0, 1] rfl h
set_option maxHeartbeats 1000000 in
theorem r_B_listsAsItIs {w : Wd} {K : Wd → Prop} (h : (¬ (w.1 39 2) = 0) ∧ (¬ (w.1 39 1) = 0) ∧ RunV 1 M_B_lists [.ref 39, .ref 40, .int 0, .int ((w.1 39 1) - (w.1 39 1) / (w.1 39 2) * (w.1 39 2)), .int (1 - 1 / (w.1 39 1) * (w.1 39 1)), .ref 50] w (fun w1 => K w1)) : RunV 1 M_B_listsAsItIs [.ref 39] w K := by
  refine runs_of (L := [(0, .ref 39)]) rfl (Nat.le_of_ble_eq_true rfl) rfl ?_
  refine x_aload_n 0 d_B_listsAsItIs_0 rfl ?_
  refine x_aload_n 0 d_B_listsAsItIs_1 rfl ?_
  refine x_getR 11 4 40 d_B_listsAsItIs_2 fg_11_23 rfl rfl rfl (Nf_58 (by decide)) ?_
  refine x_iconst (v := 0) d_B_listsAsItIs_5 (by decide) ?_
  refine x_aload_n 0 d_B_listsAsItIs_6 rfl ?_
  refine x_getI 11 1 d_B_listsAsItIs_7 fg_11_13 rfl rfl (Nf_58 (by decide)) ?_
  refine x_aload_n 0 d_B_listsAsItIs_10 rfl ?_
  refine x_getI 11 2 d_B_listsAsItIs_11 fg_11_16 rfl rfl (Nf_58 (by decide)) ?_
  obtain ⟨h0, h⟩ := h
  refine x_irem d_B_listsAsItIs_14 h0 ?_
  refine x_iconst (v := 1) d_B_listsAsItIs_15 (by decide) ?_
  refine x_aload_n 0 d_B_listsAsItIs_16 rfl ?_
  refine x_getI 11 1 d_B_listsAsItIs_17 fg_11_13 rfl rfl (Nf_58 (by decide)) ?_
  obtain ⟨h0, h⟩ := h
  refine x_irem d_B_listsAsItIs_20 h0 ?_
  refine x_aload_n 0 d_B_listsAsItIs_21 rfl ?_
  refine x_getR 11 21 50 d_B_listsAsItIs_22 fg_11_56 rfl rfl rfl (Nf_58 (by decide)) ?_
  refine x_callVV (st := []) M_B_lists [.ref 40, .int 0, .int ((w.1 39 1) - (w.1 39 1) / (w.1 39 2) * (w.1 39 2)), .int (1 - 1 / (w.1 39 1) * (w.1 39 1)), .ref 50] d_B_listsAsItIs_25 ml_11_191 cv_B_lists rfl rfl (Nf_58 (by decide)) rfl (Nat.le_of_ble_eq_true rfl) ⟨Nat.le_of_ble_eq_true rfl, Nat.le_of_ble_eq_true rfl⟩ ⟨rfl, rfl⟩ h (fun w1 h => ?_)
  exact x_retV d_B_listsAsItIs_28 rfl ⟨rfl, rfl⟩ h
set_option maxHeartbeats 1000000 in
theorem r_B_isMultiplierNow {x1 : Int32} {w : Wd} {K : Bool → Wd → Prop} (h : RunI 1 M_B_gcd [.int x1, .int (w.1 39 2)] w (fun r2 w1 => (r2 ≤ 1 → RunV 1 M_B_listsAsItIs [.ref 39] w1 (fun w3 => (¬ (w3.1 39 2) = 0) ∧ RunI 1 M_B_times [.ref 39, .int x1, .int ((w3.1 39 1) - (w3.1 39 1) / (w3.1 39 2) * (w3.1 39 2))] w3 (fun r5 w4 => (¬ (w4.1 39 1) = 0) ∧ RunI 1 M_B_times [.ref 39, .int x1, .int (1 - 1 / (w4.1 39 1) * (w4.1 39 1))] w4 (fun r7 w6 => RunV 1 M_B_lists [.ref 39, .ref 40, .int 0, .int r5, .int r7, .ref 49] w6 (fun w8 => RunI 1 M_B_compared [.ref 39, .ref 49, .ref 50] w8 (fun r10 w9 => (¬ r10 = 0 → K false w9) ∧ (r10 = 0 → K true w9))))))) ∧ (¬ r2 ≤ 1 → K false w1))) : RunZ 1 M_B_isMultiplierNow [.ref 39, .int x1] w K := by
  refine runs_of (L := [(0, .ref 39), (1, .int x1)]) rfl (Nat.le_of_ble_eq_true rfl) rfl ?_
  refine x_iload_n 1 d_B_isMultiplierNow_0 rfl ?_
  refine x_aload_n 0 d_B_isMultiplierNow_1 rfl ?_
  refine x_getI 11 2 d_B_isMultiplierNow_2 fg_11_16 rfl rfl (Nf_58 (by decide)) ?_
  refine x_callSI (st := []) M_B_gcd [.int x1, .int (w.1 39 2)] d_B_isMultiplierNow_5 ml_11_158 cv_B_gcd rfl (Nat.le_of_ble_eq_true rfl) ⟨Nat.le_of_ble_eq_true rfl, Nat.le_of_ble_eq_true rfl⟩ ⟨rfl, rfl⟩ h (fun r2 w1 h => ?_)
  refine x_iconst (v := 1) d_B_isMultiplierNow_8 (by decide) ?_
  refine x_icmp_le 14 d_B_isMultiplierNow_9 (by decide) (fun c0 => ?_) (fun c0 => ?_)
  · have h := h.1 c0
    refine x_aload_n 0 d_B_isMultiplierNow_14 rfl ?_
    refine x_callVV (st := []) M_B_listsAsItIs [] d_B_isMultiplierNow_15 ml_11_199 cv_B_listsAsItIs rfl rfl (Nf_58 (by decide)) rfl (Nat.le_of_ble_eq_true rfl) ⟨Nat.le_of_ble_eq_true rfl, Nat.le_of_ble_eq_true rfl⟩ ⟨rfl, rfl⟩ h (fun w3 h => ?_)
    refine x_aload_n 0 d_B_isMultiplierNow_18 rfl ?_
    refine x_aload_n 0 d_B_isMultiplierNow_19 rfl ?_
    refine x_getR 11 4 40 d_B_isMultiplierNow_20 fg_11_23 rfl rfl rfl (Nf_58 (by decide)) ?_
    refine x_iconst (v := 0) d_B_isMultiplierNow_23 (by decide) ?_
    refine x_aload_n 0 d_B_isMultiplierNow_24 rfl ?_
    refine x_iload_n 1 d_B_isMultiplierNow_25 rfl ?_
    refine x_aload_n 0 d_B_isMultiplierNow_26 rfl ?_
    refine x_getI 11 1 d_B_isMultiplierNow_27 fg_11_13 rfl rfl (Nf_58 (by decide)) ?_
    refine x_aload_n 0 d_B_isMultiplierNow_30 rfl ?_
    refine x_getI 11 2 d_B_isMultiplierNow_31 fg_11_16 rfl rfl (Nf_58 (by decide)) ?_
    obtain ⟨h0, h⟩ := h
    refine x_irem d_B_isMultiplierNow_34 h0 ?_
    refine x_callVI (st := [.int 0, .ref 40, .ref 39]) M_B_times [.int x1, .int ((w3.1 39 1) - (w3.1 39 1) / (w3.1 39 2) * (w3.1 39 2))] d_B_isMultiplierNow_35 ml_11_87 cv_B_times rfl rfl (Nf_58 (by decide)) rfl (Nat.le_of_ble_eq_true rfl) ⟨Nat.le_of_ble_eq_true rfl, Nat.le_of_ble_eq_true rfl⟩ ⟨rfl, rfl⟩ h (fun r5 w4 h => ?_)
    refine x_aload_n 0 d_B_isMultiplierNow_38 rfl ?_
    refine x_iload_n 1 d_B_isMultiplierNow_39 rfl ?_
    refine x_iconst (v := 1) d_B_isMultiplierNow_40 (by decide) ?_
    refine x_aload_n 0 d_B_isMultiplierNow_41 rfl ?_
    refine x_getI 11 1 d_B_isMultiplierNow_42 fg_11_13 rfl rfl (Nf_58 (by decide)) ?_
    obtain ⟨h0, h⟩ := h
    refine x_irem d_B_isMultiplierNow_45 h0 ?_
    refine x_callVI (st := [.int r5, .int 0, .ref 40, .ref 39]) M_B_times [.int x1, .int (1 - 1 / (w4.1 39 1) * (w4.1 39 1))] d_B_isMultiplierNow_46 ml_11_87 cv_B_times rfl rfl (Nf_58 (by decide)) rfl (Nat.le_of_ble_eq_true rfl) ⟨Nat.le_of_ble_eq_true rfl, Nat.le_of_ble_eq_true rfl⟩ ⟨rfl, rfl⟩ h (fun r7 w6 h => ?_)
    refine x_aload_n 0 d_B_isMultiplierNow_49 rfl ?_
    refine x_getR 11 20 49 d_B_isMultiplierNow_50 fg_11_53 rfl rfl rfl (Nf_58 (by decide)) ?_
    refine x_callVV (st := []) M_B_lists [.ref 40, .int 0, .int r5, .int r7, .ref 49] d_B_isMultiplierNow_53 ml_11_191 cv_B_lists rfl rfl (Nf_58 (by decide)) rfl (Nat.le_of_ble_eq_true rfl) ⟨Nat.le_of_ble_eq_true rfl, Nat.le_of_ble_eq_true rfl⟩ ⟨rfl, rfl⟩ h (fun w8 h => ?_)
    refine x_aload_n 0 d_B_isMultiplierNow_56 rfl ?_
    refine x_aload_n 0 d_B_isMultiplierNow_57 rfl ?_
    refine x_getR 11 20 49 d_B_isMultiplierNow_58 fg_11_53 rfl rfl rfl (Nf_58 (by decide)) ?_
    refine x_aload_n 0 d_B_isMultiplierNow_61 rfl ?_
    refine x_getR 11 21 50 d_B_isMultiplierNow_62 fg_11_56 rfl rfl rfl (Nf_58 (by decide)) ?_
    refine x_callVI (st := []) M_B_compared [.ref 49, .ref 50] d_B_isMultiplierNow_65 ml_11_195 cv_B_compared rfl rfl (Nf_58 (by decide)) rfl (Nat.le_of_ble_eq_true rfl) ⟨Nat.le_of_ble_eq_true rfl, Nat.le_of_ble_eq_true rfl⟩ ⟨rfl, rfl⟩ h (fun r10 w9 h => ?_)
    refine x_if_ne 75 d_B_isMultiplierNow_68 (by decide) (fun c0 => ?_) (fun c0 => ?_)
    · have h := h.1 c0
      refine x_iconst (v := 0) d_B_isMultiplierNow_75 (by decide) ?_
      exact x_retZ (z := false) d_B_isMultiplierNow_76 rfl rfl ⟨rfl, rfl⟩ h
    · have h := h.2 c0
      refine x_iconst (v := 1) d_B_isMultiplierNow_71 (by decide) ?_
      refine x_goto 76 d_B_isMultiplierNow_72 (by decide) ?_
      exact x_retZ (z := true) d_B_isMultiplierNow_76 rfl rfl ⟨rfl, rfl⟩ h
  · have h := h.2 c0
    refine x_iconst (v := 0) d_B_isMultiplierNow_12 (by decide) ?_
    exact x_retZ (z := false) d_B_isMultiplierNow_13 rfl rfl ⟨rfl, rfl⟩ h
set_option maxHeartbeats 1000000 in
theorem r_B_multipliers {w : Wd} {K : Int64 → Wd → Prop} (h : E 1 M_B_multipliers 4 [(0, .ref 39), (1, .long 0), (3, .int 1)] [] w (qL 1 K)) : RunL 1 M_B_multipliers [.ref 39] w K := by
  refine runs_of (L := [(0, .ref 39)]) rfl (Nat.le_of_ble_eq_true rfl) rfl ?_
  refine x_lconst (v := 0) d_B_multipliers_0 (by decide) ?_
  refine x_lstore_n (L' := [(0, .ref 39), (1, .long 0)]) [1, 0] d_B_multipliers_1 (by decide) rfl ?_
  refine x_iconst (v := 1) d_B_multipliers_2 (by decide) ?_
  refine x_istore_n (L' := [(0, .ref 39), (1, .long 0), (3, .int 1)]) [1, 2, 0] d_B_multipliers_3 (by decide) rfl ?_
  exact h
set_option maxHeartbeats 1000000 in
theorem w_B_multipliers_4 {x3 : Int32} {y1 : Int64} {w : Wd} {K : Int64 → Wd → Prop} (h : ((w.1 39 2) ≤ x3 → K y1 w) ∧ (¬ (w.1 39 2) ≤ x3 → RunZ 1 M_B_isMultiplierNow [.ref 39, .int x3] w (fun z2 w1 => (z2 = false → ∀ b3 : Int64, b3 = y1 ||| 0 → ∀ a4 : Int32, a4 = x3 + 1 → E 1 M_B_multipliers 4 [(0, .ref 39), (1, .long b3), (3, .int a4)] [] w1 (qL 1 K)) ∧ (z2 = true → ∀ b5 : Int64, b5 = y1 ||| (1 <<< (x3.toInt64 &&& 63)) → ∀ a6 : Int32, a6 = x3 + 1 → E 1 M_B_multipliers 4 [(0, .ref 39), (1, .long b5), (3, .int a6)] [] w1 (qL 1 K))))) : E 1 M_B_multipliers 4 [(0, .ref 39), (1, .long y1), (3, .int x3)] [] w (qL 1 K) := by
  refine x_iload_n 2 d_B_multipliers_4 rfl ?_
  refine x_aload_n 0 d_B_multipliers_5 rfl ?_
  refine x_getI 11 2 d_B_multipliers_6 fg_11_16 rfl rfl (Nf_58 (by decide)) ?_
  refine x_icmp_ge 36 d_B_multipliers_9 (by decide) (fun c0 => ?_) (fun c0 => ?_)
  · have h := h.1 c0
    refine x_lload_n 1 d_B_multipliers_36 rfl ?_
    exact x_retL d_B_multipliers_37 rfl ⟨rfl, rfl⟩ h
  · have h := h.2 c0
    refine x_lload_n 1 d_B_multipliers_12 rfl ?_
    refine x_aload_n 0 d_B_multipliers_13 rfl ?_
    refine x_iload_n 2 d_B_multipliers_14 rfl ?_
    refine x_callVZ (st := [.long y1]) M_B_isMultiplierNow [.int x3] d_B_multipliers_15 ml_11_202 cv_B_isMultiplierNow rfl rfl (Nf_58 (by decide)) rfl (Nat.le_of_ble_eq_true rfl) ⟨Nat.le_of_ble_eq_true rfl, Nat.le_of_ble_eq_true rfl⟩ ⟨rfl, rfl⟩ h (fun z2 w1 h => ?_)
    refine x_zif_eq 27 d_B_multipliers_18 (by decide) (fun c0 => ?_) (fun c0 => ?_)
    · have h := h.1 c0
      refine x_lconst (v := 0) d_B_multipliers_27 (by decide) ?_
      refine x_lor d_B_multipliers_28 ?_
      obtain ⟨b3, eb3⟩ : ∃ z : Int64, z = y1 ||| 0 := ⟨_, rfl⟩
      have h := h b3 eb3
      refine x_lstore_nE (L' := [(0, .ref 39), (1, .long b3), (3, .int x3)]) [1, 0, 2] d_B_multipliers_29 (by decide) eb3 rfl ?_
      obtain ⟨a4, ea4⟩ : ∃ z : Int32, z = x3 + 1 := ⟨_, rfl⟩
      have h := h a4 ea4
      refine x_iincE (L' := [(0, .ref 39), (1, .long b3), (3, .int a4)]) 2 [1, 2, 0] d_B_multipliers_30 rfl ea4 (by decide) rfl ?_
      refine x_goto 4 d_B_multipliers_33 (by decide) ?_
      exact h
    · have h := h.2 c0
      refine x_lconst (v := 1) d_B_multipliers_21 (by decide) ?_
      refine x_iload_n 2 d_B_multipliers_22 rfl ?_
      refine x_lshl d_B_multipliers_23 ?_
      refine x_goto 28 d_B_multipliers_24 (by decide) ?_
      refine x_lor d_B_multipliers_28 ?_
      obtain ⟨b5, eb5⟩ : ∃ z : Int64, z = y1 ||| (1 <<< (x3.toInt64 &&& 63)) := ⟨_, rfl⟩
      have h := h b5 eb5
      refine x_lstore_nE (L' := [(0, .ref 39), (1, .long b5), (3, .int x3)]) [1, 0, 2] d_B_multipliers_29 (by decide) eb5 rfl ?_
      obtain ⟨a6, ea6⟩ : ∃ z : Int32, z = x3 + 1 := ⟨_, rfl⟩
      have h := h a6 ea6
      refine x_iincE (L' := [(0, .ref 39), (1, .long b5), (3, .int a6)]) 2 [1, 2, 0] d_B_multipliers_30 rfl ea6 (by decide) rfl ?_
      refine x_goto 4 d_B_multipliers_33 (by decide) ?_
      exact h
set_option maxHeartbeats 1000000 in
theorem r_B_symmetries {w : Wd} {K : Int32 → Wd → Prop} (h : RunV 1 M_B_listsAsItIs [.ref 39] w (fun w1 => E 1 M_B_symmetries 8 [(0, .ref 39), (1, .int 0), (2, .int 0)] [] w1 (qI 1 K))) : RunI 1 M_B_symmetries [.ref 39] w K := by
  refine runs_of (L := [(0, .ref 39)]) rfl (Nat.le_of_ble_eq_true rfl) rfl ?_
  refine x_aload_n 0 d_B_symmetries_0 rfl ?_
  refine x_callVV (st := []) M_B_listsAsItIs [] d_B_symmetries_1 ml_11_199 cv_B_listsAsItIs rfl rfl (Nf_58 (by decide)) rfl (Nat.le_of_ble_eq_true rfl) ⟨Nat.le_of_ble_eq_true rfl, Nat.le_of_ble_eq_true rfl⟩ ⟨rfl, rfl⟩ h (fun w1 h => ?_)
  refine x_iconst (v := 0) d_B_symmetries_4 (by decide) ?_
  refine x_istore_n (L' := [(0, .ref 39), (1, .int 0)]) [1, 0] d_B_symmetries_5 (by decide) rfl ?_
  refine x_iconst (v := 0) d_B_symmetries_6 (by decide) ?_
  refine x_istore_n (L' := [(0, .ref 39), (1, .int 0), (2, .int 0)]) [1, 2, 0] d_B_symmetries_7 (by decide) rfl ?_
  exact h
set_option maxHeartbeats 1000000 in
theorem w_B_symmetries_8 {x1 x2 : Int32} {w : Wd} {K : Int32 → Wd → Prop} (h : ((w.1 39 11) ≤ x2 → K x1 w) ∧ (¬ (w.1 39 11) ≤ x2 → vp_in x2 500 ∧ vp_in x2 500 ∧ RunV 1 M_B_lists [.ref 39, .ref 40, .int 0, .int (w.1 45 x2.toNatClampNeg), .int (w.1 46 x2.toNatClampNeg), .ref 49] w (fun w1 => RunI 1 M_B_compared [.ref 39, .ref 49, .ref 50] w1 (fun r3 w2 => (¬ r3 = 0 → ∀ a4 : Int32, a4 = x1 + 0 → ∀ a5 : Int32, a5 = x2 + 1 → E 1 M_B_symmetries 8 [(0, .ref 39), (1, .int a4), (2, .int a5)] [] w2 (qI 1 K)) ∧ (r3 = 0 → ∀ a6 : Int32, a6 = x1 + 1 → ∀ a7 : Int32, a7 = x2 + 1 → E 1 M_B_symmetries 8 [(0, .ref 39), (1, .int a6), (2, .int a7)] [] w2 (qI 1 K)))))) : E 1 M_B_symmetries 8 [(0, .ref 39), (1, .int x1), (2, .int x2)] [] w (qI 1 K) := by
  refine x_iload_n 2 d_B_symmetries_8 rfl ?_
  refine x_aload_n 0 d_B_symmetries_9 rfl ?_
  refine x_getI 11 11 d_B_symmetries_10 fg_11_98 rfl rfl (Nf_58 (by decide)) ?_
  refine x_icmp_ge 70 d_B_symmetries_13 (by decide) (fun c0 => ?_) (fun c0 => ?_)
  · have h := h.1 c0
    refine x_iload_n 1 d_B_symmetries_70 rfl ?_
    exact x_retI d_B_symmetries_71 rfl ⟨rfl, rfl⟩ h
  · have h := h.2 c0
    refine x_aload_n 0 d_B_symmetries_16 rfl ?_
    refine x_aload_n 0 d_B_symmetries_17 rfl ?_
    refine x_getR 11 4 40 d_B_symmetries_18 fg_11_23 rfl rfl rfl (Nf_58 (by decide)) ?_
    refine x_iconst (v := 0) d_B_symmetries_21 (by decide) ?_
    refine x_aload_n 0 d_B_symmetries_22 rfl ?_
    refine x_getR 11 12 45 d_B_symmetries_23 fg_11_41 rfl rfl rfl (Nf_58 (by decide)) ?_
    refine x_iload_n 2 d_B_symmetries_26 rfl ?_
    obtain ⟨h0, h⟩ := h
    refine x_iald d_B_symmetries_27 rfl (Nf_58 (by decide)) h0 ?_
    refine x_aload_n 0 d_B_symmetries_28 rfl ?_
    refine x_getR 11 13 46 d_B_symmetries_29 fg_11_44 rfl rfl rfl (Nf_58 (by decide)) ?_
    refine x_iload_n 2 d_B_symmetries_32 rfl ?_
    obtain ⟨h0, h⟩ := h
    refine x_iald d_B_symmetries_33 rfl (Nf_58 (by decide)) h0 ?_
    refine x_aload_n 0 d_B_symmetries_34 rfl ?_
    refine x_getR 11 20 49 d_B_symmetries_35 fg_11_53 rfl rfl rfl (Nf_58 (by decide)) ?_
    refine x_callVV (st := []) M_B_lists [.ref 40, .int 0, .int (w.1 45 x2.toNatClampNeg), .int (w.1 46 x2.toNatClampNeg), .ref 49] d_B_symmetries_38 ml_11_191 cv_B_lists rfl rfl (Nf_58 (by decide)) rfl (Nat.le_of_ble_eq_true rfl) ⟨Nat.le_of_ble_eq_true rfl, Nat.le_of_ble_eq_true rfl⟩ ⟨rfl, rfl⟩ h (fun w1 h => ?_)
    refine x_iload_n 1 d_B_symmetries_41 rfl ?_
    refine x_aload_n 0 d_B_symmetries_42 rfl ?_
    refine x_aload_n 0 d_B_symmetries_43 rfl ?_
    refine x_getR 11 20 49 d_B_symmetries_44 fg_11_53 rfl rfl rfl (Nf_58 (by decide)) ?_
    refine x_aload_n 0 d_B_symmetries_47 rfl ?_
    refine x_getR 11 21 50 d_B_symmetries_48 fg_11_56 rfl rfl rfl (Nf_58 (by decide)) ?_
    refine x_callVI (st := [.int x1]) M_B_compared [.ref 49, .ref 50] d_B_symmetries_51 ml_11_195 cv_B_compared rfl rfl (Nf_58 (by decide)) rfl (Nat.le_of_ble_eq_true rfl) ⟨Nat.le_of_ble_eq_true rfl, Nat.le_of_ble_eq_true rfl⟩ ⟨rfl, rfl⟩ h (fun r3 w2 h => ?_)
    refine x_if_ne 61 d_B_symmetries_54 (by decide) (fun c0 => ?_) (fun c0 => ?_)
    · have h := h.1 c0
      refine x_iconst (v := 0) d_B_symmetries_61 (by decide) ?_
      refine x_iadd d_B_symmetries_62 ?_
      obtain ⟨a4, ea4⟩ : ∃ z : Int32, z = x1 + 0 := ⟨_, rfl⟩
      have h := h a4 ea4
      refine x_istore_nE (L' := [(0, .ref 39), (1, .int a4), (2, .int x2)]) [1, 0, 2] d_B_symmetries_63 (by decide) ea4 rfl ?_
      obtain ⟨a5, ea5⟩ : ∃ z : Int32, z = x2 + 1 := ⟨_, rfl⟩
      have h := h a5 ea5
      refine x_iincE (L' := [(0, .ref 39), (1, .int a4), (2, .int a5)]) 2 [1, 2, 0] d_B_symmetries_64 rfl ea5 (by decide) rfl ?_
      refine x_goto 8 d_B_symmetries_67 (by decide) ?_
      exact h
    · have h := h.2 c0
      refine x_iconst (v := 1) d_B_symmetries_57 (by decide) ?_
      refine x_goto 62 d_B_symmetries_58 (by decide) ?_
      refine x_iadd d_B_symmetries_62 ?_
      obtain ⟨a6, ea6⟩ : ∃ z : Int32, z = x1 + 1 := ⟨_, rfl⟩
      have h := h a6 ea6
      refine x_istore_nE (L' := [(0, .ref 39), (1, .int a6), (2, .int x2)]) [1, 0, 2] d_B_symmetries_63 (by decide) ea6 rfl ?_
      obtain ⟨a7, ea7⟩ : ∃ z : Int32, z = x2 + 1 := ⟨_, rfl⟩
      have h := h a7 ea7
      refine x_iincE (L' := [(0, .ref 39), (1, .int a6), (2, .int a7)]) 2 [1, 2, 0] d_B_symmetries_64 rfl ea7 (by decide) rfl ?_
      refine x_goto 8 d_B_symmetries_67 (by decide) ?_
      exact h
set_option maxHeartbeats 1000000 in
theorem r_B_develops {w : Wd} {K : Wd → Prop} (h : ∀ w1 : Wd, w1 = upI w 39 23 0 → E 1 M_B_develops 7 [(0, .ref 39), (1, .int 0)] [] w1 (qV 1 K)) : RunV 1 M_B_develops [.ref 39] w K := by
  refine runs_of (L := [(0, .ref 39)]) rfl (Nat.le_of_ble_eq_true rfl) rfl ?_
  refine x_aload_n 0 d_B_develops_0 rfl ?_
  refine x_iconst (v := 0) d_B_develops_1 (by decide) ?_
  refine x_putIE 11 23 d_B_develops_2 fp_11_209 rfl rfl (Nf_58 (by decide)) (fun w1 ew1 => ?_)
  have h := h w1 ew1
  refine x_iconst (v := 0) d_B_develops_5 (by decide) ?_
  refine x_istore_n (L' := [(0, .ref 39), (1, .int 0)]) [1, 0] d_B_develops_6 (by decide) rfl ?_
  exact h
set_option maxHeartbeats 1000000 in
theorem w_B_develops_7 {x1 : Int32} {w : Wd} {K : Wd → Prop} (h : (6 ≤ x1 → K w) ∧ (¬ 6 ≤ x1 → ∀ a1 : Int32, a1 = w.1 39 23 → E 1 M_B_develops 20 [(0, .ref 39), (1, .int x1), (2, .int a1), (3, .int 0)] [] w (qV 1 K))) : E 1 M_B_develops 7 [(0, .ref 39), (1, .int x1)] [] w (qV 1 K) := by
  refine x_iload_n 1 d_B_develops_7 rfl ?_
  refine x_bipush (v := 6) d_B_develops_8 (by decide) ?_
  refine x_icmp_ge 136 d_B_develops_10 (by decide) (fun c0 => ?_) (fun c0 => ?_)
  · have h := h.1 c0
    exact x_retV d_B_develops_136 rfl ⟨rfl, rfl⟩ h
  · have h := h.2 c0
    refine x_aload_n 0 d_B_develops_13 rfl ?_
    refine x_getI 11 23 d_B_develops_14 fg_11_209 rfl rfl (Nf_58 (by decide)) ?_
    obtain ⟨a1, ea1⟩ : ∃ z : Int32, z = w.1 39 23 := ⟨_, rfl⟩
    have h := h a1 ea1
    refine x_istore_nE (L' := [(0, .ref 39), (1, .int x1), (2, .int a1)]) [1, 2, 0] d_B_develops_17 (by decide) ea1 rfl ?_
    refine x_iconst (v := 0) d_B_develops_18 (by decide) ?_
    refine x_istore_n (L' := [(0, .ref 39), (1, .int x1), (2, .int a1), (3, .int 0)]) [1, 2, 3, 0] d_B_develops_19 (by decide) rfl ?_
    exact h
set_option maxHeartbeats 1000000 in
theorem w_B_develops_20 {x1 x2 x3 : Int32} {w : Wd} {K : Wd → Prop} (h : ((w.1 39 2) ≤ x3 → ∀ a1 : Int32, a1 = x1 + 1 → E 1 M_B_develops 7 [(0, .ref 39), (1, .int a1)] [] w (qV 1 K)) ∧ (¬ (w.1 39 2) ≤ x3 → vp_in x1 6 ∧ ((w.2 40 x1.toNatClampNeg) = 0 → ∀ a2 : Int32, a2 = x1 + 1 → E 1 M_B_develops 7 [(0, .ref 39), (1, .int a2)] [] w (qV 1 K)) ∧ (¬ (w.2 40 x1.toNatClampNeg) = 0 → vp_in x1 6 ∧ RunL 1 M_B_translate [.ref 39, .long (w.2 40 x1.toNatClampNeg), .int x3] w (fun r4 w3 => E 1 M_B_develops 58 [(0, .ref 39), (1, .int x1), (2, .int x2), (3, .int x3), (4, .long r4), (6, .int 1), (7, .int x2)] [] w3 (qV 1 K))))) : E 1 M_B_develops 20 [(0, .ref 39), (1, .int x1), (2, .int x2), (3, .int x3)] [] w (qV 1 K) := by
  refine x_iload_n 3 d_B_develops_20 rfl ?_
  refine x_aload_n 0 d_B_develops_21 rfl ?_
  refine x_getI 11 2 d_B_develops_22 fg_11_16 rfl rfl (Nf_58 (by decide)) ?_
  refine x_icmp_ge 130 d_B_develops_25 (by decide) (fun c0 => ?_) (fun c0 => ?_)
  · have h := h.1 c0
    obtain ⟨a1, ea1⟩ : ∃ z : Int32, z = x1 + 1 := ⟨_, rfl⟩
    have h := h a1 ea1
    refine x_iincE (L' := [(0, .ref 39), (1, .int a1), (2, .int x2), (3, .int x3)]) 1 [1, 0, 2, 3] d_B_develops_130 rfl ea1 (by decide) rfl ?_
    refine x_goto 7 d_B_develops_133 (by decide) ?_
    exact x_perm [0, 1] rfl h
  · have h := h.2 c0
    refine x_aload_n 0 d_B_develops_28 rfl ?_
    refine x_getR 11 4 40 d_B_develops_29 fg_11_23 rfl rfl rfl (Nf_58 (by decide)) ?_
    refine x_iload_n 1 d_B_develops_32 rfl ?_
    obtain ⟨h0, h⟩ := h
    refine x_lald d_B_develops_33 rfl (Nf_58 (by decide)) h0 ?_
    refine x_lconst (v := 0) d_B_develops_34 (by decide) ?_
    refine x_lif_eq 130 d_B_develops_35 d_B_develops_36 (by decide) (fun c0 => ?_) (fun c0 => ?_)
    · have h := h.1 c0
      obtain ⟨a2, ea2⟩ : ∃ z : Int32, z = x1 + 1 := ⟨_, rfl⟩
      have h := h a2 ea2
      refine x_iincE (L' := [(0, .ref 39), (1, .int a2), (2, .int x2), (3, .int x3)]) 1 [1, 0, 2, 3] d_B_develops_130 rfl ea2 (by decide) rfl ?_
      refine x_goto 7 d_B_develops_133 (by decide) ?_
      exact x_perm [0, 1] rfl h
    · have h := h.2 c0
      refine x_aload_n 0 d_B_develops_39 rfl ?_
      refine x_aload_n 0 d_B_develops_40 rfl ?_
      refine x_getR 11 4 40 d_B_develops_41 fg_11_23 rfl rfl rfl (Nf_58 (by decide)) ?_
      refine x_iload_n 1 d_B_develops_44 rfl ?_
      obtain ⟨h0, h⟩ := h
      refine x_lald d_B_develops_45 rfl (Nf_58 (by decide)) h0 ?_
      refine x_iload_n 3 d_B_develops_46 rfl ?_
      refine x_callVL (st := []) M_B_translate [.long (w.2 40 x1.toNatClampNeg), .int x3] d_B_develops_47 ml_11_138 cv_B_translate rfl rfl (Nf_58 (by decide)) rfl (Nat.le_of_ble_eq_true rfl) ⟨Nat.le_of_ble_eq_true rfl, Nat.le_of_ble_eq_true rfl⟩ ⟨rfl, rfl⟩ h (fun r4 w3 h => ?_)
      refine x_lstore (L' := [(0, .ref 39), (1, .int x1), (2, .int x2), (3, .int x3), (4, .long r4)]) [1, 2, 3, 4, 0] d_B_develops_50 (by decide) rfl ?_
      refine x_iconst (v := 1) d_B_develops_52 (by decide) ?_
      refine x_istore (L' := [(0, .ref 39), (1, .int x1), (2, .int x2), (3, .int x3), (4, .long r4), (6, .int 1)]) [1, 2, 3, 4, 5, 0] d_B_develops_53 (by decide) rfl ?_
      refine x_iload_n 2 d_B_develops_55 rfl ?_
      refine x_istore (L' := [(0, .ref 39), (1, .int x1), (2, .int x2), (3, .int x3), (4, .long r4), (6, .int 1), (7, .int x2)]) [1, 2, 3, 4, 5, 6, 0] d_B_develops_56 (by decide) rfl ?_
      exact h
set_option maxHeartbeats 1000000 in
theorem w_B_develops_58 {x1 x2 x3 x6 x7 : Int32} {y4 : Int64} {w : Wd} {K : Wd → Prop} (h : ((w.1 39 23) ≤ x7 → (x6 = 0 → ∀ a1 : Int32, a1 = x3 + 1 → E 1 M_B_develops 20 [(0, .ref 39), (1, .int x1), (2, .int x2), (3, .int a1)] [] w (qV 1 K)) ∧ (¬ x6 = 0 → vp_in (w.1 39 23) 240 ∧ ∀ w2 : Wd, w2 = upL w 52 (w.1 39 23).toNatClampNeg y4 → ∀ w3 : Wd, w3 = upI w2 39 23 ((w2.1 39 23) + 1) → ∀ a4 : Int32, a4 = x3 + 1 → E 1 M_B_develops 20 [(0, .ref 39), (1, .int x1), (2, .int x2), (3, .int a4)] [] w3 (qV 1 K))) ∧ (¬ (w.1 39 23) ≤ x7 → (x6 = 0 → ∀ a5 : Int32, a5 = x7 + 1 → E 1 M_B_develops 58 [(0, .ref 39), (1, .int x1), (2, .int x2), (3, .int x3), (4, .long y4), (6, .int 0), (7, .int a5)] [] w (qV 1 K)) ∧ (¬ x6 = 0 → vp_in x7 240 ∧ ((w.2 52 x7.toNatClampNeg) = y4 → ∀ a6 : Int32, a6 = x7 + 1 → E 1 M_B_develops 58 [(0, .ref 39), (1, .int x1), (2, .int x2), (3, .int x3), (4, .long y4), (6, .int 0), (7, .int a6)] [] w (qV 1 K)) ∧ (¬ (w.2 52 x7.toNatClampNeg) = y4 → ∀ a7 : Int32, a7 = x7 + 1 → E 1 M_B_develops 58 [(0, .ref 39), (1, .int x1), (2, .int x2), (3, .int x3), (4, .long y4), (6, .int 1), (7, .int a7)] [] w (qV 1 K))))) : E 1 M_B_develops 58 [(0, .ref 39), (1, .int x1), (2, .int x2), (3, .int x3), (4, .long y4), (6, .int x6), (7, .int x7)] [] w (qV 1 K) := by
  refine x_iload 6 d_B_develops_58 rfl ?_
  refine x_aload_n 0 d_B_develops_60 rfl ?_
  refine x_getI 11 23 d_B_develops_61 fg_11_209 rfl rfl (Nf_58 (by decide)) ?_
  refine x_icmp_ge 98 d_B_develops_64 (by decide) (fun c0 => ?_) (fun c0 => ?_)
  · have h := h.1 c0
    refine x_iload 5 d_B_develops_98 rfl ?_
    refine x_if_eq 124 d_B_develops_100 (by decide) (fun c0 => ?_) (fun c0 => ?_)
    · have h := h.1 c0
      obtain ⟨a1, ea1⟩ : ∃ z : Int32, z = x3 + 1 := ⟨_, rfl⟩
      have h := h a1 ea1
      refine x_iincE (L' := [(0, .ref 39), (1, .int x1), (2, .int x2), (3, .int a1), (4, .long y4), (6, .int x6), (7, .int x7)]) 3 [1, 2, 3, 0, 4, 5, 6] d_B_develops_124 rfl ea1 (by decide) rfl ?_
      refine x_goto 20 d_B_develops_127 (by decide) ?_
      exact x_perm [0, 1, 2, 3] rfl h
    · have h := h.2 c0
      refine x_aload_n 0 d_B_develops_103 rfl ?_
      refine x_getR 11 24 52 d_B_develops_104 fg_11_62 rfl rfl rfl (Nf_58 (by decide)) ?_
      refine x_aload_n 0 d_B_develops_107 rfl ?_
      refine x_getI 11 23 d_B_develops_108 fg_11_209 rfl rfl (Nf_58 (by decide)) ?_
      refine x_lload 4 d_B_develops_111 rfl ?_
      obtain ⟨h0, h⟩ := h
      refine x_lastE d_B_develops_113 rfl (Nf_58 (by decide)) h0 (fun w2 ew2 => ?_)
      have h := h w2 ew2
      refine x_aload_n 0 d_B_develops_114 rfl ?_
      refine x_dup d_B_develops_115 rfl ?_
      refine x_getI 11 23 d_B_develops_116 fg_11_209 rfl rfl (Nf_58 (by decide)) ?_
      refine x_iconst (v := 1) d_B_develops_119 (by decide) ?_
      refine x_iadd d_B_develops_120 ?_
      refine x_putIE 11 23 d_B_develops_121 fp_11_209 rfl rfl (Nf_58 (by decide)) (fun w3 ew3 => ?_)
      have h := h w3 ew3
      obtain ⟨a4, ea4⟩ : ∃ z : Int32, z = x3 + 1 := ⟨_, rfl⟩
      have h := h a4 ea4
      refine x_iincE (L' := [(0, .ref 39), (1, .int x1), (2, .int x2), (3, .int a4), (4, .long y4), (6, .int x6), (7, .int x7)]) 3 [1, 2, 3, 0, 4, 5, 6] d_B_develops_124 rfl ea4 (by decide) rfl ?_
      refine x_goto 20 d_B_develops_127 (by decide) ?_
      exact x_perm [0, 1, 2, 3] rfl h
  · have h := h.2 c0
    refine x_iload 5 d_B_develops_67 rfl ?_
    refine x_if_eq 89 d_B_develops_69 (by decide) (fun c0 => ?_) (fun c0 => ?_)
    · have h := h.1 c0
      refine x_iconst (v := 0) d_B_develops_89 (by decide) ?_
      refine x_istore (L' := [(0, .ref 39), (1, .int x1), (2, .int x2), (3, .int x3), (4, .long y4), (6, .int 0), (7, .int x7)]) [1, 2, 3, 4, 5, 0, 6] d_B_develops_90 (by decide) rfl ?_
      obtain ⟨a5, ea5⟩ : ∃ z : Int32, z = x7 + 1 := ⟨_, rfl⟩
      have h := h a5 ea5
      refine x_iincE (L' := [(0, .ref 39), (1, .int x1), (2, .int x2), (3, .int x3), (4, .long y4), (6, .int 0), (7, .int a5)]) 6 [1, 2, 3, 4, 5, 6, 0] d_B_develops_92 rfl ea5 (by decide) rfl ?_
      refine x_goto 58 d_B_develops_95 (by decide) ?_
      exact h
    · have h := h.2 c0
      refine x_aload_n 0 d_B_develops_72 rfl ?_
      refine x_getR 11 24 52 d_B_develops_73 fg_11_62 rfl rfl rfl (Nf_58 (by decide)) ?_
      refine x_iload 6 d_B_develops_76 rfl ?_
      obtain ⟨h0, h⟩ := h
      refine x_lald d_B_develops_78 rfl (Nf_58 (by decide)) h0 ?_
      refine x_lload 4 d_B_develops_79 rfl ?_
      refine x_lif_eq 89 d_B_develops_81 d_B_develops_82 (by decide) (fun c0 => ?_) (fun c0 => ?_)
      · have h := h.1 c0
        refine x_iconst (v := 0) d_B_develops_89 (by decide) ?_
        refine x_istore (L' := [(0, .ref 39), (1, .int x1), (2, .int x2), (3, .int x3), (4, .long y4), (6, .int 0), (7, .int x7)]) [1, 2, 3, 4, 5, 0, 6] d_B_develops_90 (by decide) rfl ?_
        obtain ⟨a6, ea6⟩ : ∃ z : Int32, z = x7 + 1 := ⟨_, rfl⟩
        have h := h a6 ea6
        refine x_iincE (L' := [(0, .ref 39), (1, .int x1), (2, .int x2), (3, .int x3), (4, .long y4), (6, .int 0), (7, .int a6)]) 6 [1, 2, 3, 4, 5, 6, 0] d_B_develops_92 rfl ea6 (by decide) rfl ?_
        refine x_goto 58 d_B_develops_95 (by decide) ?_
        exact h
      · have h := h.2 c0
        refine x_iconst (v := 1) d_B_develops_85 (by decide) ?_
        refine x_goto 90 d_B_develops_86 (by decide) ?_
        refine x_istore (L' := [(0, .ref 39), (1, .int x1), (2, .int x2), (3, .int x3), (4, .long y4), (6, .int 1), (7, .int x7)]) [1, 2, 3, 4, 5, 0, 6] d_B_develops_90 (by decide) rfl ?_
        obtain ⟨a7, ea7⟩ : ∃ z : Int32, z = x7 + 1 := ⟨_, rfl⟩
        have h := h a7 ea7
        refine x_iincE (L' := [(0, .ref 39), (1, .int x1), (2, .int x2), (3, .int x3), (4, .long y4), (6, .int 1), (7, .int a7)]) 6 [1, 2, 3, 4, 5, 6, 0] d_B_develops_92 rfl ea7 (by decide) rfl ?_
        refine x_goto 58 d_B_develops_95 (by decide) ?_
        exact h
set_option maxHeartbeats 1000000 in
theorem r_B_designBlocks {w : Wd} {K : Int32 → Wd → Prop} (h : RunV 1 M_B_develops [.ref 39] w (fun w1 => K (w1.1 39 23) w1)) : RunI 1 M_B_designBlocks [.ref 39] w K := by
  refine runs_of (L := [(0, .ref 39)]) rfl (Nat.le_of_ble_eq_true rfl) rfl ?_
  refine x_aload_n 0 d_B_designBlocks_0 rfl ?_
  refine x_callVV (st := []) M_B_develops [] d_B_designBlocks_1 ml_11_212 cv_B_develops rfl rfl (Nf_58 (by decide)) rfl (Nat.le_of_ble_eq_true rfl) ⟨Nat.le_of_ble_eq_true rfl, Nat.le_of_ble_eq_true rfl⟩ ⟨rfl, rfl⟩ h (fun w1 h => ?_)
  refine x_aload_n 0 d_B_designBlocks_4 rfl ?_
  refine x_getI 11 23 d_B_designBlocks_5 fg_11_209 rfl rfl (Nf_58 (by decide)) ?_
  exact x_retI d_B_designBlocks_8 rfl ⟨rfl, rfl⟩ h
set_option maxHeartbeats 1000000 in
theorem r_B_inverse {x0 x1 : Int32} {w : Wd} {K : Int32 → Wd → Prop} (h : E 1 M_B_inverse 2 [(0, .int x0), (1, .int x1), (2, .int 1)] [] w (qI 1 K)) : RunI 1 M_B_inverse [.int x0, .int x1] w K := by
  refine runs_of (L := [(0, .int x0), (1, .int x1)]) rfl (Nat.le_of_ble_eq_true rfl) rfl ?_
  refine x_iconst (v := 1) d_B_inverse_0 (by decide) ?_
  refine x_istore_n (L' := [(0, .int x0), (1, .int x1), (2, .int 1)]) [1, 2, 0] d_B_inverse_1 (by decide) rfl ?_
  exact h
set_option maxHeartbeats 1000000 in
theorem w_B_inverse_2 {x0 x1 x2 : Int32} {w : Wd} {K : Int32 → Wd → Prop} (h : (¬ x1 = 0) ∧ (((x0 * x2) - (x0 * x2) / x1 * x1) = 1 → K x2 w) ∧ (¬ ((x0 * x2) - (x0 * x2) / x1 * x1) = 1 → ∀ a1 : Int32, a1 = x2 + 1 → E 1 M_B_inverse 2 [(0, .int x0), (1, .int x1), (2, .int a1)] [] w (qI 1 K))) : E 1 M_B_inverse 2 [(0, .int x0), (1, .int x1), (2, .int x2)] [] w (qI 1 K) := by
  refine x_iload_n 0 d_B_inverse_2 rfl ?_
  refine x_iload_n 2 d_B_inverse_3 rfl ?_
  refine x_imul d_B_inverse_4 ?_
  refine x_iload_n 1 d_B_inverse_5 rfl ?_
  obtain ⟨h0, h⟩ := h
  refine x_irem d_B_inverse_6 h0 ?_
  refine x_iconst (v := 1) d_B_inverse_7 (by decide) ?_
  refine x_icmp_eq 17 d_B_inverse_8 (by decide) (fun c0 => ?_) (fun c0 => ?_)
  · have h := h.1 c0
    refine x_iload_n 2 d_B_inverse_17 rfl ?_
    exact x_retI d_B_inverse_18 rfl ⟨rfl, rfl⟩ h
  · have h := h.2 c0
    obtain ⟨a1, ea1⟩ : ∃ z : Int32, z = x2 + 1 := ⟨_, rfl⟩
    have h := h a1 ea1
    refine x_iincE (L' := [(0, .int x0), (1, .int x1), (2, .int a1)]) 2 [1, 2, 0] d_B_inverse_11 rfl ea1 (by decide) rfl ?_
    refine x_goto 2 d_B_inverse_14 (by decide) ?_
    exact h
set_option maxHeartbeats 1000000 in
theorem r_B_clears {x1 x2 x3 : Int32} {w : Wd} {K : Wd → Prop} (h : vp_in ((40 * x1) + x2) 9600 ∧ RunI 1 M_B_inverse [.int (w.1 53 ((40 * x1) + x2).toNatClampNeg), .int x3] w (fun r2 w1 => ∀ a3 : Int32, a3 = x1 + 1 → E 1 M_B_clears 22 [(0, .ref 39), (1, .int x1), (2, .int x2), (3, .int x3), (4, .int r2), (5, .int a3)] [] w1 (qV 1 K))) : RunV 1 M_B_clears [.ref 39, .int x1, .int x2, .int x3] w K := by
  refine runs_of (L := [(0, .ref 39), (1, .int x1), (2, .int x2), (3, .int x3)]) rfl (Nat.le_of_ble_eq_true rfl) rfl ?_
  refine x_aload_n 0 d_B_clears_0 rfl ?_
  refine x_getR 11 25 53 d_B_clears_1 fg_11_65 rfl rfl rfl (Nf_58 (by decide)) ?_
  refine x_bipush (v := 40) d_B_clears_4 (by decide) ?_
  refine x_iload_n 1 d_B_clears_6 rfl ?_
  refine x_imul d_B_clears_7 ?_
  refine x_iload_n 2 d_B_clears_8 rfl ?_
  refine x_iadd d_B_clears_9 ?_
  obtain ⟨h0, h⟩ := h
  refine x_iald d_B_clears_10 rfl (Nf_58 (by decide)) h0 ?_
  refine x_iload_n 3 d_B_clears_11 rfl ?_
  refine x_callSI (st := []) M_B_inverse [.int (w.1 53 ((40 * x1) + x2).toNatClampNeg), .int x3] d_B_clears_12 ml_11_215 cv_B_inverse rfl (Nat.le_of_ble_eq_true rfl) ⟨Nat.le_of_ble_eq_true rfl, Nat.le_of_ble_eq_true rfl⟩ ⟨rfl, rfl⟩ h (fun r2 w1 h => ?_)
  refine x_istore (L' := [(0, .ref 39), (1, .int x1), (2, .int x2), (3, .int x3), (4, .int r2)]) [1, 2, 3, 4, 0] d_B_clears_15 (by decide) rfl ?_
  refine x_iload_n 1 d_B_clears_17 rfl ?_
  refine x_iconst (v := 1) d_B_clears_18 (by decide) ?_
  refine x_iadd d_B_clears_19 ?_
  obtain ⟨a3, ea3⟩ : ∃ z : Int32, z = x1 + 1 := ⟨_, rfl⟩
  have h := h a3 ea3
  refine x_istoreE (L' := [(0, .ref 39), (1, .int x1), (2, .int x2), (3, .int x3), (4, .int r2), (5, .int a3)]) [1, 2, 3, 4, 5, 0] d_B_clears_20 (by decide) ea3 rfl ?_
  exact h
set_option maxHeartbeats 1000000 in
theorem w_B_clears_22 {x1 x2 x3 x4 x5 : Int32} {w : Wd} {K : Wd → Prop} (h : ((w.1 39 23) ≤ x5 → K w) ∧ (¬ (w.1 39 23) ≤ x5 → vp_in ((40 * x5) + x2) 9600 ∧ (¬ x3 = 0) ∧ ∀ a1 : Int32, a1 = ((w.1 53 ((40 * x5) + x2).toNatClampNeg) * x4) - ((w.1 53 ((40 * x5) + x2).toNatClampNeg) * x4) / x3 * x3 → E 1 M_B_clears 53 [(0, .ref 39), (1, .int x1), (2, .int x2), (3, .int x3), (4, .int x4), (5, .int x5), (6, .int a1), (7, .int x2)] [] w (qV 1 K))) : E 1 M_B_clears 22 [(0, .ref 39), (1, .int x1), (2, .int x2), (3, .int x3), (4, .int x4), (5, .int x5)] [] w (qV 1 K) := by
  refine x_iload 5 d_B_clears_22 rfl ?_
  refine x_aload_n 0 d_B_clears_24 rfl ?_
  refine x_getI 11 23 d_B_clears_25 fg_11_209 rfl rfl (Nf_58 (by decide)) ?_
  refine x_icmp_ge 125 d_B_clears_28 (by decide) (fun c0 => ?_) (fun c0 => ?_)
  · have h := h.1 c0
    exact x_retV d_B_clears_125 rfl ⟨rfl, rfl⟩ h
  · have h := h.2 c0
    refine x_aload_n 0 d_B_clears_31 rfl ?_
    refine x_getR 11 25 53 d_B_clears_32 fg_11_65 rfl rfl rfl (Nf_58 (by decide)) ?_
    refine x_bipush (v := 40) d_B_clears_35 (by decide) ?_
    refine x_iload 5 d_B_clears_37 rfl ?_
    refine x_imul d_B_clears_39 ?_
    refine x_iload_n 2 d_B_clears_40 rfl ?_
    refine x_iadd d_B_clears_41 ?_
    obtain ⟨h0, h⟩ := h
    refine x_iald d_B_clears_42 rfl (Nf_58 (by decide)) h0 ?_
    refine x_iload 4 d_B_clears_43 rfl ?_
    refine x_imul d_B_clears_45 ?_
    refine x_iload_n 3 d_B_clears_46 rfl ?_
    obtain ⟨h0, h⟩ := h
    refine x_irem d_B_clears_47 h0 ?_
    obtain ⟨a1, ea1⟩ : ∃ z : Int32, z = ((w.1 53 ((40 * x5) + x2).toNatClampNeg) * x4) - ((w.1 53 ((40 * x5) + x2).toNatClampNeg) * x4) / x3 * x3 := ⟨_, rfl⟩
    have h := h a1 ea1
    refine x_istoreE (L' := [(0, .ref 39), (1, .int x1), (2, .int x2), (3, .int x3), (4, .int x4), (5, .int x5), (6, .int a1)]) [1, 2, 3, 4, 5, 6, 0] d_B_clears_48 (by decide) ea1 rfl ?_
    refine x_iload_n 2 d_B_clears_50 rfl ?_
    refine x_istore (L' := [(0, .ref 39), (1, .int x1), (2, .int x2), (3, .int x3), (4, .int x4), (5, .int x5), (6, .int a1), (7, .int x2)]) [1, 2, 3, 4, 5, 6, 7, 0] d_B_clears_51 (by decide) rfl ?_
    exact h
set_option maxHeartbeats 1000000 in
theorem w_B_clears_53 {x1 x2 x3 x4 x5 x6 x7 : Int32} {w : Wd} {K : Wd → Prop} (h : ((w.1 39 2) ≤ x7 → ∀ a1 : Int32, a1 = x5 + 1 → E 1 M_B_clears 22 [(0, .ref 39), (1, .int x1), (2, .int x2), (3, .int x3), (4, .int x4), (5, .int a1)] [] w (qV 1 K)) ∧ (¬ (w.1 39 2) ≤ x7 → (x6 ≤ 0 → ∀ a2 : Int32, a2 = x5 + 1 → E 1 M_B_clears 22 [(0, .ref 39), (1, .int x1), (2, .int x2), (3, .int x3), (4, .int x4), (5, .int a2)] [] w (qV 1 K)) ∧ (¬ x6 ≤ 0 → vp_in ((40 * x5) + x7) 9600 ∧ vp_in ((40 * x1) + x7) 9600 ∧ (¬ x3 = 0) ∧ vp_in ((40 * x5) + x7) 9600 ∧ ∀ w3 : Wd, w3 = upI w 53 ((40 * x5) + x7).toNatClampNeg (((w.1 53 ((40 * x5) + x7).toNatClampNeg) + ((x3 - x6) * (w.1 53 ((40 * x1) + x7).toNatClampNeg))) - ((w.1 53 ((40 * x5) + x7).toNatClampNeg) + ((x3 - x6) * (w.1 53 ((40 * x1) + x7).toNatClampNeg))) / x3 * x3) → ∀ a4 : Int32, a4 = x7 + 1 → E 1 M_B_clears 53 [(0, .ref 39), (1, .int x1), (2, .int x2), (3, .int x3), (4, .int x4), (5, .int x5), (6, .int x6), (7, .int a4)] [] w3 (qV 1 K)))) : E 1 M_B_clears 53 [(0, .ref 39), (1, .int x1), (2, .int x2), (3, .int x3), (4, .int x4), (5, .int x5), (6, .int x6), (7, .int x7)] [] w (qV 1 K) := by
  refine x_iload 7 d_B_clears_53 rfl ?_
  refine x_aload_n 0 d_B_clears_55 rfl ?_
  refine x_getI 11 2 d_B_clears_56 fg_11_16 rfl rfl (Nf_58 (by decide)) ?_
  refine x_icmp_ge 119 d_B_clears_59 (by decide) (fun c0 => ?_) (fun c0 => ?_)
  · have h := h.1 c0
    obtain ⟨a1, ea1⟩ : ∃ z : Int32, z = x5 + 1 := ⟨_, rfl⟩
    have h := h a1 ea1
    refine x_iincE (L' := [(0, .ref 39), (1, .int x1), (2, .int x2), (3, .int x3), (4, .int x4), (5, .int a1), (6, .int x6), (7, .int x7)]) 5 [1, 2, 3, 4, 5, 0, 6, 7] d_B_clears_119 rfl ea1 (by decide) rfl ?_
    refine x_goto 22 d_B_clears_122 (by decide) ?_
    exact x_perm [0, 1, 2, 3, 4, 5] rfl h
  · have h := h.2 c0
    refine x_iload 6 d_B_clears_62 rfl ?_
    refine x_if_le 119 d_B_clears_64 (by decide) (fun c0 => ?_) (fun c0 => ?_)
    · have h := h.1 c0
      obtain ⟨a2, ea2⟩ : ∃ z : Int32, z = x5 + 1 := ⟨_, rfl⟩
      have h := h a2 ea2
      refine x_iincE (L' := [(0, .ref 39), (1, .int x1), (2, .int x2), (3, .int x3), (4, .int x4), (5, .int a2), (6, .int x6), (7, .int x7)]) 5 [1, 2, 3, 4, 5, 0, 6, 7] d_B_clears_119 rfl ea2 (by decide) rfl ?_
      refine x_goto 22 d_B_clears_122 (by decide) ?_
      exact x_perm [0, 1, 2, 3, 4, 5] rfl h
    · have h := h.2 c0
      refine x_aload_n 0 d_B_clears_67 rfl ?_
      refine x_getR 11 25 53 d_B_clears_68 fg_11_65 rfl rfl rfl (Nf_58 (by decide)) ?_
      refine x_bipush (v := 40) d_B_clears_71 (by decide) ?_
      refine x_iload 5 d_B_clears_73 rfl ?_
      refine x_imul d_B_clears_75 ?_
      refine x_iload 7 d_B_clears_76 rfl ?_
      refine x_iadd d_B_clears_78 ?_
      refine x_aload_n 0 d_B_clears_79 rfl ?_
      refine x_getR 11 25 53 d_B_clears_80 fg_11_65 rfl rfl rfl (Nf_58 (by decide)) ?_
      refine x_bipush (v := 40) d_B_clears_83 (by decide) ?_
      refine x_iload 5 d_B_clears_85 rfl ?_
      refine x_imul d_B_clears_87 ?_
      refine x_iload 7 d_B_clears_88 rfl ?_
      refine x_iadd d_B_clears_90 ?_
      obtain ⟨h0, h⟩ := h
      refine x_iald d_B_clears_91 rfl (Nf_58 (by decide)) h0 ?_
      refine x_iload_n 3 d_B_clears_92 rfl ?_
      refine x_iload 6 d_B_clears_93 rfl ?_
      refine x_isub d_B_clears_95 ?_
      refine x_aload_n 0 d_B_clears_96 rfl ?_
      refine x_getR 11 25 53 d_B_clears_97 fg_11_65 rfl rfl rfl (Nf_58 (by decide)) ?_
      refine x_bipush (v := 40) d_B_clears_100 (by decide) ?_
      refine x_iload_n 1 d_B_clears_102 rfl ?_
      refine x_imul d_B_clears_103 ?_
      refine x_iload 7 d_B_clears_104 rfl ?_
      refine x_iadd d_B_clears_106 ?_
      obtain ⟨h0, h⟩ := h
      refine x_iald d_B_clears_107 rfl (Nf_58 (by decide)) h0 ?_
      refine x_imul d_B_clears_108 ?_
      refine x_iadd d_B_clears_109 ?_
      refine x_iload_n 3 d_B_clears_110 rfl ?_
      obtain ⟨h0, h⟩ := h
      refine x_irem d_B_clears_111 h0 ?_
      obtain ⟨h0, h⟩ := h
      refine x_iastE d_B_clears_112 rfl (Nf_58 (by decide)) h0 (fun w3 ew3 => ?_)
      have h := h w3 ew3
      obtain ⟨a4, ea4⟩ : ∃ z : Int32, z = x7 + 1 := ⟨_, rfl⟩
      have h := h a4 ea4
      refine x_iincE (L' := [(0, .ref 39), (1, .int x1), (2, .int x2), (3, .int x3), (4, .int x4), (5, .int x5), (6, .int x6), (7, .int a4)]) 7 [1, 2, 3, 4, 5, 6, 7, 0] d_B_clears_113 rfl ea4 (by decide) rfl ?_
      refine x_goto 53 d_B_clears_116 (by decide) ?_
      exact h
set_option maxHeartbeats 1000000 in
theorem r_B_rankOf {x1 : Int32} {w : Wd} {K : Int32 → Wd → Prop} (h : RunV 1 M_B_develops [.ref 39] w (fun w1 => E 1 M_B_rankOf 6 [(0, .ref 39), (1, .int x1), (2, .int 0)] [] w1 (qI 1 K))) : RunI 1 M_B_rankOf [.ref 39, .int x1] w K := by
  refine runs_of (L := [(0, .ref 39), (1, .int x1)]) rfl (Nat.le_of_ble_eq_true rfl) rfl ?_
  refine x_aload_n 0 d_B_rankOf_0 rfl ?_
  refine x_callVV (st := []) M_B_develops [] d_B_rankOf_1 ml_11_212 cv_B_develops rfl rfl (Nf_58 (by decide)) rfl (Nat.le_of_ble_eq_true rfl) ⟨Nat.le_of_ble_eq_true rfl, Nat.le_of_ble_eq_true rfl⟩ ⟨rfl, rfl⟩ h (fun w1 h => ?_)
  refine x_iconst (v := 0) d_B_rankOf_4 (by decide) ?_
  refine x_istore_n (L' := [(0, .ref 39), (1, .int x1), (2, .int 0)]) [1, 2, 0] d_B_rankOf_5 (by decide) rfl ?_
  exact h
set_option maxHeartbeats 1000000 in
theorem w_B_rankOf_6 {x1 x2 : Int32} {w : Wd} {K : Int32 → Wd → Prop} (h : ((w.1 39 23) ≤ x2 → E 1 M_B_rankOf 69 [(0, .ref 39), (1, .int x1), (2, .int 0), (3, .int 0)] [] w (qI 1 K)) ∧ (¬ (w.1 39 23) ≤ x2 → E 1 M_B_rankOf 16 [(0, .ref 39), (1, .int x1), (2, .int x2), (3, .int 0)] [] w (qI 1 K))) : E 1 M_B_rankOf 6 [(0, .ref 39), (1, .int x1), (2, .int x2)] [] w (qI 1 K) := by
  refine x_iload_n 2 d_B_rankOf_6 rfl ?_
  refine x_aload_n 0 d_B_rankOf_7 rfl ?_
  refine x_getI 11 23 d_B_rankOf_8 fg_11_209 rfl rfl (Nf_58 (by decide)) ?_
  refine x_icmp_ge 65 d_B_rankOf_11 (by decide) (fun c0 => ?_) (fun c0 => ?_)
  · have h := h.1 c0
    refine x_iconst (v := 0) d_B_rankOf_65 (by decide) ?_
    refine x_istore_n (L' := [(0, .ref 39), (1, .int x1), (2, .int 0)]) [1, 2, 0] d_B_rankOf_66 (by decide) rfl ?_
    refine x_iconst (v := 0) d_B_rankOf_67 (by decide) ?_
    refine x_istore_n (L' := [(0, .ref 39), (1, .int x1), (2, .int 0), (3, .int 0)]) [1, 2, 3, 0] d_B_rankOf_68 (by decide) rfl ?_
    exact h
  · have h := h.2 c0
    refine x_iconst (v := 0) d_B_rankOf_14 (by decide) ?_
    refine x_istore_n (L' := [(0, .ref 39), (1, .int x1), (2, .int x2), (3, .int 0)]) [1, 2, 3, 0] d_B_rankOf_15 (by decide) rfl ?_
    exact h
set_option maxHeartbeats 1000000 in
theorem w_B_rankOf_69 {x1 x2 x3 : Int32} {w : Wd} {K : Int32 → Wd → Prop} (h : ((w.1 39 2) ≤ x3 → K x2 w) ∧ (¬ (w.1 39 2) ≤ x3 → E 1 M_B_rankOf 80 [(0, .ref 39), (1, .int x1), (2, .int x2), (3, .int x3), (4, .int x2)] [] w (qI 1 K))) : E 1 M_B_rankOf 69 [(0, .ref 39), (1, .int x1), (2, .int x2), (3, .int x3)] [] w (qI 1 K) := by
  refine x_iload_n 3 d_B_rankOf_69 rfl ?_
  refine x_aload_n 0 d_B_rankOf_70 rfl ?_
  refine x_getI 11 2 d_B_rankOf_71 fg_11_16 rfl rfl (Nf_58 (by decide)) ?_
  refine x_icmp_ge 207 d_B_rankOf_74 (by decide) (fun c0 => ?_) (fun c0 => ?_)
  · have h := h.1 c0
    refine x_iload_n 2 d_B_rankOf_207 rfl ?_
    exact x_retI d_B_rankOf_208 rfl ⟨rfl, rfl⟩ h
  · have h := h.2 c0
    refine x_iload_n 2 d_B_rankOf_77 rfl ?_
    refine x_istore (L' := [(0, .ref 39), (1, .int x1), (2, .int x2), (3, .int x3), (4, .int x2)]) [1, 2, 3, 4, 0] d_B_rankOf_78 (by decide) rfl ?_
    exact h
set_option maxHeartbeats 1000000 in
theorem w_B_rankOf_16 {x1 x2 x3 : Int32} {w : Wd} {K : Int32 → Wd → Prop} (h : ((w.1 39 2) ≤ x3 → ∀ a1 : Int32, a1 = x2 + 1 → E 1 M_B_rankOf 6 [(0, .ref 39), (1, .int x1), (2, .int a1)] [] w (qI 1 K)) ∧ (¬ (w.1 39 2) ≤ x3 → vp_in x2 240 ∧ RunZ 1 M_B_has [.long (w.2 52 x2.toNatClampNeg), .int x3] w (fun z3 w2 => (z3 = false → vp_in ((40 * x2) + x3) 9600 ∧ ∀ w4 : Wd, w4 = upI w2 53 ((40 * x2) + x3).toNatClampNeg 0 → ∀ a5 : Int32, a5 = x3 + 1 → E 1 M_B_rankOf 16 [(0, .ref 39), (1, .int x1), (2, .int x2), (3, .int a5)] [] w4 (qI 1 K)) ∧ (z3 = true → vp_in ((40 * x2) + x3) 9600 ∧ ∀ w6 : Wd, w6 = upI w2 53 ((40 * x2) + x3).toNatClampNeg 1 → ∀ a7 : Int32, a7 = x3 + 1 → E 1 M_B_rankOf 16 [(0, .ref 39), (1, .int x1), (2, .int x2), (3, .int a7)] [] w6 (qI 1 K))))) : E 1 M_B_rankOf 16 [(0, .ref 39), (1, .int x1), (2, .int x2), (3, .int x3)] [] w (qI 1 K) := by
  refine x_iload_n 3 d_B_rankOf_16 rfl ?_
  refine x_aload_n 0 d_B_rankOf_17 rfl ?_
  refine x_getI 11 2 d_B_rankOf_18 fg_11_16 rfl rfl (Nf_58 (by decide)) ?_
  refine x_icmp_ge 59 d_B_rankOf_21 (by decide) (fun c0 => ?_) (fun c0 => ?_)
  · have h := h.1 c0
    obtain ⟨a1, ea1⟩ : ∃ z : Int32, z = x2 + 1 := ⟨_, rfl⟩
    have h := h a1 ea1
    refine x_iincE (L' := [(0, .ref 39), (1, .int x1), (2, .int a1), (3, .int x3)]) 2 [1, 2, 0, 3] d_B_rankOf_59 rfl ea1 (by decide) rfl ?_
    refine x_goto 6 d_B_rankOf_62 (by decide) ?_
    exact x_perm [0, 1, 2] rfl h
  · have h := h.2 c0
    refine x_aload_n 0 d_B_rankOf_24 rfl ?_
    refine x_getR 11 25 53 d_B_rankOf_25 fg_11_65 rfl rfl rfl (Nf_58 (by decide)) ?_
    refine x_bipush (v := 40) d_B_rankOf_28 (by decide) ?_
    refine x_iload_n 2 d_B_rankOf_30 rfl ?_
    refine x_imul d_B_rankOf_31 ?_
    refine x_iload_n 3 d_B_rankOf_32 rfl ?_
    refine x_iadd d_B_rankOf_33 ?_
    refine x_aload_n 0 d_B_rankOf_34 rfl ?_
    refine x_getR 11 24 52 d_B_rankOf_35 fg_11_62 rfl rfl rfl (Nf_58 (by decide)) ?_
    refine x_iload_n 2 d_B_rankOf_38 rfl ?_
    obtain ⟨h0, h⟩ := h
    refine x_lald d_B_rankOf_39 rfl (Nf_58 (by decide)) h0 ?_
    refine x_iload_n 3 d_B_rankOf_40 rfl ?_
    refine x_callSZ (st := [.int ((40 * x2) + x3), .ref 53]) M_B_has [.long (w.2 52 x2.toNatClampNeg), .int x3] d_B_rankOf_41 ml_11_134 cv_B_has rfl (Nat.le_of_ble_eq_true rfl) ⟨Nat.le_of_ble_eq_true rfl, Nat.le_of_ble_eq_true rfl⟩ ⟨rfl, rfl⟩ h (fun z3 w2 h => ?_)
    refine x_zif_eq 51 d_B_rankOf_44 (by decide) (fun c0 => ?_) (fun c0 => ?_)
    · have h := h.1 c0
      refine x_iconst (v := 0) d_B_rankOf_51 (by decide) ?_
      obtain ⟨h0, h⟩ := h
      refine x_iastE d_B_rankOf_52 rfl (Nf_58 (by decide)) h0 (fun w4 ew4 => ?_)
      have h := h w4 ew4
      obtain ⟨a5, ea5⟩ : ∃ z : Int32, z = x3 + 1 := ⟨_, rfl⟩
      have h := h a5 ea5
      refine x_iincE (L' := [(0, .ref 39), (1, .int x1), (2, .int x2), (3, .int a5)]) 3 [1, 2, 3, 0] d_B_rankOf_53 rfl ea5 (by decide) rfl ?_
      refine x_goto 16 d_B_rankOf_56 (by decide) ?_
      exact h
    · have h := h.2 c0
      refine x_iconst (v := 1) d_B_rankOf_47 (by decide) ?_
      refine x_goto 52 d_B_rankOf_48 (by decide) ?_
      obtain ⟨h0, h⟩ := h
      refine x_iastE d_B_rankOf_52 rfl (Nf_58 (by decide)) h0 (fun w6 ew6 => ?_)
      have h := h w6 ew6
      obtain ⟨a7, ea7⟩ : ∃ z : Int32, z = x3 + 1 := ⟨_, rfl⟩
      have h := h a7 ea7
      refine x_iincE (L' := [(0, .ref 39), (1, .int x1), (2, .int x2), (3, .int a7)]) 3 [1, 2, 3, 0] d_B_rankOf_53 rfl ea7 (by decide) rfl ?_
      refine x_goto 16 d_B_rankOf_56 (by decide) ?_
      exact h
set_option maxHeartbeats 1000000 in
theorem w_B_rankOf_80 {x1 x2 x3 x4 : Int32} {w : Wd} {K : Int32 → Wd → Prop} (h : ((w.1 39 23) ≤ x4 → ((w.1 39 23) ≤ x4 → ∀ a1 : Int32, a1 = x3 + 1 → E 1 M_B_rankOf 69 [(0, .ref 39), (1, .int x1), (2, .int x2), (3, .int a1)] [] w (qI 1 K)) ∧ (¬ (w.1 39 23) ≤ x4 → E 1 M_B_rankOf 122 [(0, .ref 39), (1, .int x1), (2, .int x2), (3, .int x3), (4, .int x4), (5, .int 0)] [] w (qI 1 K))) ∧ (¬ (w.1 39 23) ≤ x4 → vp_in ((40 * x4) + x3) 9600 ∧ (¬ (w.1 53 ((40 * x4) + x3).toNatClampNeg) = 0 → ((w.1 39 23) ≤ x4 → ∀ a2 : Int32, a2 = x3 + 1 → E 1 M_B_rankOf 69 [(0, .ref 39), (1, .int x1), (2, .int x2), (3, .int a2)] [] w (qI 1 K)) ∧ (¬ (w.1 39 23) ≤ x4 → E 1 M_B_rankOf 122 [(0, .ref 39), (1, .int x1), (2, .int x2), (3, .int x3), (4, .int x4), (5, .int 0)] [] w (qI 1 K))) ∧ ((w.1 53 ((40 * x4) + x3).toNatClampNeg) = 0 → ∀ a3 : Int32, a3 = x4 + 1 → E 1 M_B_rankOf 80 [(0, .ref 39), (1, .int x1), (2, .int x2), (3, .int x3), (4, .int a3)] [] w (qI 1 K)))) : E 1 M_B_rankOf 80 [(0, .ref 39), (1, .int x1), (2, .int x2), (3, .int x3), (4, .int x4)] [] w (qI 1 K) := by
  refine x_iload 4 d_B_rankOf_80 rfl ?_
  refine x_aload_n 0 d_B_rankOf_82 rfl ?_
  refine x_getI 11 23 d_B_rankOf_83 fg_11_209 rfl rfl (Nf_58 (by decide)) ?_
  refine x_icmp_ge 110 d_B_rankOf_86 (by decide) (fun c0 => ?_) (fun c0 => ?_)
  · have h := h.1 c0
    refine x_iload 4 d_B_rankOf_110 rfl ?_
    refine x_aload_n 0 d_B_rankOf_112 rfl ?_
    refine x_getI 11 23 d_B_rankOf_113 fg_11_209 rfl rfl (Nf_58 (by decide)) ?_
    refine x_icmp_ge 201 d_B_rankOf_116 (by decide) (fun c0 => ?_) (fun c0 => ?_)
    · have h := h.1 c0
      obtain ⟨a1, ea1⟩ : ∃ z : Int32, z = x3 + 1 := ⟨_, rfl⟩
      have h := h a1 ea1
      refine x_iincE (L' := [(0, .ref 39), (1, .int x1), (2, .int x2), (3, .int a1), (4, .int x4)]) 3 [1, 2, 3, 0, 4] d_B_rankOf_201 rfl ea1 (by decide) rfl ?_
      refine x_goto 69 d_B_rankOf_204 (by decide) ?_
      exact x_perm [0, 1, 2, 3] rfl h
    · have h := h.2 c0
      refine x_iconst (v := 0) d_B_rankOf_119 (by decide) ?_
      refine x_istore (L' := [(0, .ref 39), (1, .int x1), (2, .int x2), (3, .int x3), (4, .int x4), (5, .int 0)]) [1, 2, 3, 4, 5, 0] d_B_rankOf_120 (by decide) rfl ?_
      exact h
  · have h := h.2 c0
    refine x_aload_n 0 d_B_rankOf_89 rfl ?_
    refine x_getR 11 25 53 d_B_rankOf_90 fg_11_65 rfl rfl rfl (Nf_58 (by decide)) ?_
    refine x_bipush (v := 40) d_B_rankOf_93 (by decide) ?_
    refine x_iload 4 d_B_rankOf_95 rfl ?_
    refine x_imul d_B_rankOf_97 ?_
    refine x_iload_n 3 d_B_rankOf_98 rfl ?_
    refine x_iadd d_B_rankOf_99 ?_
    obtain ⟨h0, h⟩ := h
    refine x_iald d_B_rankOf_100 rfl (Nf_58 (by decide)) h0 ?_
    refine x_if_ne 110 d_B_rankOf_101 (by decide) (fun c0 => ?_) (fun c0 => ?_)
    · have h := h.1 c0
      refine x_iload 4 d_B_rankOf_110 rfl ?_
      refine x_aload_n 0 d_B_rankOf_112 rfl ?_
      refine x_getI 11 23 d_B_rankOf_113 fg_11_209 rfl rfl (Nf_58 (by decide)) ?_
      refine x_icmp_ge 201 d_B_rankOf_116 (by decide) (fun c0 => ?_) (fun c0 => ?_)
      · have h := h.1 c0
        obtain ⟨a2, ea2⟩ : ∃ z : Int32, z = x3 + 1 := ⟨_, rfl⟩
        have h := h a2 ea2
        refine x_iincE (L' := [(0, .ref 39), (1, .int x1), (2, .int x2), (3, .int a2), (4, .int x4)]) 3 [1, 2, 3, 0, 4] d_B_rankOf_201 rfl ea2 (by decide) rfl ?_
        refine x_goto 69 d_B_rankOf_204 (by decide) ?_
        exact x_perm [0, 1, 2, 3] rfl h
      · have h := h.2 c0
        refine x_iconst (v := 0) d_B_rankOf_119 (by decide) ?_
        refine x_istore (L' := [(0, .ref 39), (1, .int x1), (2, .int x2), (3, .int x3), (4, .int x4), (5, .int 0)]) [1, 2, 3, 4, 5, 0] d_B_rankOf_120 (by decide) rfl ?_
        exact h
    · have h := h.2 c0
      obtain ⟨a3, ea3⟩ : ∃ z : Int32, z = x4 + 1 := ⟨_, rfl⟩
      have h := h a3 ea3
      refine x_iincE (L' := [(0, .ref 39), (1, .int x1), (2, .int x2), (3, .int x3), (4, .int a3)]) 4 [1, 2, 3, 4, 0] d_B_rankOf_104 rfl ea3 (by decide) rfl ?_
      refine x_goto 80 d_B_rankOf_107 (by decide) ?_
      exact h
set_option maxHeartbeats 1000000 in
theorem w_B_rankOf_122 {x1 x2 x3 x4 x5 : Int32} {w : Wd} {K : Int32 → Wd → Prop} (h : ((w.1 39 2) ≤ x5 → RunV 1 M_B_clears [.ref 39, .int x2, .int x3, .int x1] w (fun w1 => ∀ a2 : Int32, a2 = x2 + 1 → ∀ a3 : Int32, a3 = x3 + 1 → E 1 M_B_rankOf 69 [(0, .ref 39), (1, .int x1), (2, .int a2), (3, .int a3)] [] w1 (qI 1 K))) ∧ (¬ (w.1 39 2) ≤ x5 → vp_in ((40 * x4) + x5) 9600 ∧ ∀ a4 : Int32, a4 = w.1 53 ((40 * x4) + x5).toNatClampNeg → vp_in ((40 * x2) + x5) 9600 ∧ vp_in ((40 * x4) + x5) 9600 ∧ ∀ w5 : Wd, w5 = upI w 53 ((40 * x4) + x5).toNatClampNeg (w.1 53 ((40 * x2) + x5).toNatClampNeg) → vp_in ((40 * x2) + x5) 9600 ∧ ∀ w6 : Wd, w6 = upI w5 53 ((40 * x2) + x5).toNatClampNeg a4 → ∀ a7 : Int32, a7 = x5 + 1 → E 1 M_B_rankOf 122 [(0, .ref 39), (1, .int x1), (2, .int x2), (3, .int x3), (4, .int x4), (5, .int a7)] [] w6 (qI 1 K))) : E 1 M_B_rankOf 122 [(0, .ref 39), (1, .int x1), (2, .int x2), (3, .int x3), (4, .int x4), (5, .int x5)] [] w (qI 1 K) := by
  refine x_iload 5 d_B_rankOf_122 rfl ?_
  refine x_aload_n 0 d_B_rankOf_124 rfl ?_
  refine x_getI 11 2 d_B_rankOf_125 fg_11_16 rfl rfl (Nf_58 (by decide)) ?_
  refine x_icmp_ge 191 d_B_rankOf_128 (by decide) (fun c0 => ?_) (fun c0 => ?_)
  · have h := h.1 c0
    refine x_aload_n 0 d_B_rankOf_191 rfl ?_
    refine x_iload_n 2 d_B_rankOf_192 rfl ?_
    refine x_iload_n 3 d_B_rankOf_193 rfl ?_
    refine x_iload_n 1 d_B_rankOf_194 rfl ?_
    refine x_callVV (st := []) M_B_clears [.int x2, .int x3, .int x1] d_B_rankOf_195 ml_11_218 cv_B_clears rfl rfl (Nf_58 (by decide)) rfl (Nat.le_of_ble_eq_true rfl) ⟨Nat.le_of_ble_eq_true rfl, Nat.le_of_ble_eq_true rfl⟩ ⟨rfl, rfl⟩ h (fun w1 h => ?_)
    obtain ⟨a2, ea2⟩ : ∃ z : Int32, z = x2 + 1 := ⟨_, rfl⟩
    have h := h a2 ea2
    refine x_iincE (L' := [(0, .ref 39), (1, .int x1), (2, .int a2), (3, .int x3), (4, .int x4), (5, .int x5)]) 2 [1, 2, 0, 3, 4, 5] d_B_rankOf_198 rfl ea2 (by decide) rfl ?_
    obtain ⟨a3, ea3⟩ : ∃ z : Int32, z = x3 + 1 := ⟨_, rfl⟩
    have h := h a3 ea3
    refine x_iincE (L' := [(0, .ref 39), (1, .int x1), (2, .int a2), (3, .int a3), (4, .int x4), (5, .int x5)]) 3 [1, 2, 3, 0, 4, 5] d_B_rankOf_201 rfl ea3 (by decide) rfl ?_
    refine x_goto 69 d_B_rankOf_204 (by decide) ?_
    exact x_perm [0, 1, 2, 3] rfl h
  · have h := h.2 c0
    refine x_aload_n 0 d_B_rankOf_131 rfl ?_
    refine x_getR 11 25 53 d_B_rankOf_132 fg_11_65 rfl rfl rfl (Nf_58 (by decide)) ?_
    refine x_bipush (v := 40) d_B_rankOf_135 (by decide) ?_
    refine x_iload 4 d_B_rankOf_137 rfl ?_
    refine x_imul d_B_rankOf_139 ?_
    refine x_iload 5 d_B_rankOf_140 rfl ?_
    refine x_iadd d_B_rankOf_142 ?_
    obtain ⟨h0, h⟩ := h
    refine x_iald d_B_rankOf_143 rfl (Nf_58 (by decide)) h0 ?_
    obtain ⟨a4, ea4⟩ : ∃ z : Int32, z = w.1 53 ((40 * x4) + x5).toNatClampNeg := ⟨_, rfl⟩
    have h := h a4 ea4
    refine x_istoreE (L' := [(0, .ref 39), (1, .int x1), (2, .int x2), (3, .int x3), (4, .int x4), (5, .int x5), (6, .int a4)]) [1, 2, 3, 4, 5, 6, 0] d_B_rankOf_144 (by decide) ea4 rfl ?_
    refine x_aload_n 0 d_B_rankOf_146 rfl ?_
    refine x_getR 11 25 53 d_B_rankOf_147 fg_11_65 rfl rfl rfl (Nf_58 (by decide)) ?_
    refine x_bipush (v := 40) d_B_rankOf_150 (by decide) ?_
    refine x_iload 4 d_B_rankOf_152 rfl ?_
    refine x_imul d_B_rankOf_154 ?_
    refine x_iload 5 d_B_rankOf_155 rfl ?_
    refine x_iadd d_B_rankOf_157 ?_
    refine x_aload_n 0 d_B_rankOf_158 rfl ?_
    refine x_getR 11 25 53 d_B_rankOf_159 fg_11_65 rfl rfl rfl (Nf_58 (by decide)) ?_
    refine x_bipush (v := 40) d_B_rankOf_162 (by decide) ?_
    refine x_iload_n 2 d_B_rankOf_164 rfl ?_
    refine x_imul d_B_rankOf_165 ?_
    refine x_iload 5 d_B_rankOf_166 rfl ?_
    refine x_iadd d_B_rankOf_168 ?_
    obtain ⟨h0, h⟩ := h
    refine x_iald d_B_rankOf_169 rfl (Nf_58 (by decide)) h0 ?_
    obtain ⟨h0, h⟩ := h
    refine x_iastE d_B_rankOf_170 rfl (Nf_58 (by decide)) h0 (fun w5 ew5 => ?_)
    have h := h w5 ew5
    refine x_aload_n 0 d_B_rankOf_171 rfl ?_
    refine x_getR 11 25 53 d_B_rankOf_172 fg_11_65 rfl rfl rfl (Nf_58 (by decide)) ?_
    refine x_bipush (v := 40) d_B_rankOf_175 (by decide) ?_
    refine x_iload_n 2 d_B_rankOf_177 rfl ?_
    refine x_imul d_B_rankOf_178 ?_
    refine x_iload 5 d_B_rankOf_179 rfl ?_
    refine x_iadd d_B_rankOf_181 ?_
    refine x_iload 6 d_B_rankOf_182 rfl ?_
    obtain ⟨h0, h⟩ := h
    refine x_iastE d_B_rankOf_184 rfl (Nf_58 (by decide)) h0 (fun w6 ew6 => ?_)
    have h := h w6 ew6
    obtain ⟨a7, ea7⟩ : ∃ z : Int32, z = x5 + 1 := ⟨_, rfl⟩
    have h := h a7 ea7
    refine x_iincE (L' := [(0, .ref 39), (1, .int x1), (2, .int x2), (3, .int x3), (4, .int x4), (5, .int a7), (6, .int a4)]) 5 [1, 2, 3, 4, 5, 0, 6] d_B_rankOf_185 rfl ea7 (by decide) rfl ?_
    refine x_goto 122 d_B_rankOf_188 (by decide) ?_
    exact x_perm [0, 1, 2, 3, 4, 5] rfl h
