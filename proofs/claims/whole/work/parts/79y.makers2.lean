theorem gok71 : GOK 7 1 := ⟨by decide, by decide, by decide⟩
abbrev R0 : RefT := fun _ _ => none
theorem Fresh.ch {w w1 : Wd} (h : Fresh 1 R0 w) (hc : ChG w w1) : Fresh 8 R0 w1 := fun q hq => by
  have h1 := hc.mo
  have h2 := h q (by omega)
  by_cases h39 : q = 39
  · subst h39
    refine ⟨fun j => ?_, fun j => ?_, fun _ => rfl⟩
    · rw [(h1.sl j (by decide) List.not_mem_nil).1]
      exact h2.1 j
    · rw [(h1.sl j (by decide) List.not_mem_nil).2]
      exact h2.2.1 j
  · have h3 := h1.pl q (fun c => by
      have : q = 1 ∨ q = 2 ∨ q = 3 ∨ q = 4 ∨ q = 5 ∨ q = 6 ∨ q = 7 := by simpa using c
      omega) h39
    refine ⟨fun j => ?_, fun j => ?_, fun _ => rfl⟩
    · rw [h3.1]
      exact h2.1 j
    · rw [h3.2]
      exact h2.2.1 j
def RfA : RefT := (upR (upR (upR (upR (upR (upR (upR (upR (upR (upR (upR (upR (upR (upR (upR (upR (upR (upR (upR (upR (upR (upR (upR (upR (upR (upR (upR (upR (upR (upR (upR (upR (upR (upR (upR (upR (upR (upR (upR (upR (upR (upR (upR (upR (upR (upR R0 1 6 2) 1 7 3) 1 8 4) 1 9 5) 1 10 6) 1 11 7) 8 1 9) 8 0 1) 0 0 1) 0 1 10) 11 0 12) 0 2 11) 0 3 8) 13 0 1) 13 1 8) 0 4 13) 14 1 15) 14 2 16) 14 3 17) 14 4 18) 14 0 1) 0 5 14) 19 1 20) 19 0 1) 0 6 19) 21 1 22) 21 2 23) 21 0 1) 0 7 21) 24 1 25) 24 2 26) 24 3 27) 24 4 28) 24 5 29) 24 6 30) 24 7 31) 24 0 1) 0 8 24) 32 1 33) 32 2 34) 32 0 1) 0 9 32) 35 0 36) 0 10 35) 37 0 38) 0 11 37)
theorem c_A {w : Wd} {Q : QT} (hF : Fresh 1 R0 w) (h : ∀ w1, Gd 7 1 w1 → ChG w w1 → Q none 39 RfA (upL w1 0 12 1)) : Runs M_A_init [.ref 0] 1 R0 w Q := by
  refine runs_of (L := [(0, .ref 0)]) rfl (Nat.le_of_ble_eq_true rfl) rfl ?_
  refine x_aload_n 0 d_A_init_0 rfl ?_
  refine x_obj d_A_init_1 ob_A_init (by decide) ⟨by decide, by decide⟩ ?_
  have hn4 : Fresh 1 R0 w := (by
      repeat (refine Fresh.up ?_ (by decide))
      exact hF.mono (by decide))
  refine x_new 5 d_A_init_4 nw_10_7 rfl (hn4 1 (Nat.le_refl _)) (by decide) (by decide) ?_
  refine x_dup d_A_init_7 rfl ?_
  have hc8 : Fresh 2 R0 w := (by
      repeat (refine Fresh.up ?_ (by decide))
      exact hF.mono (by decide))
  refine x_callI (q := 1) (st := [.ref 1]) M_G_init [] d_A_init_8 ml_10_9 cv_G_init rfl (by decide) ⟨by decide, by decide⟩ ⟨by decide, by decide⟩ (c_G hc8 ?_)
  show Ex M_A_init 11 [(0, .ref 0)] [.ref 1] 8 (upR (upR (upR (upR (upR (upR R0 1 6 2) 1 7 3) 1 8 4) 1 9 5) 1 10 6) 1 11 7) w _ _ Q
  refine x_astore_n (L' := [(0, .ref 0), (1, .ref 1)]) [1, 0] d_A_init_11 (by decide) rfl ?_
  refine x_aload_n 1 d_A_init_12 rfl ?_
  refine x_bipush (v := nI 7) d_A_init_13 (by decide) ?_
  refine x_iconst (v := nI 1) d_A_init_15 (by decide) ?_
  refine x_callV (q := 1) (ci := 5) (st := []) M_G_become [.int (nI 7), .int (nI 1)] d_A_init_16 ml_10_10 cv_G_become rfl rfl (by decide) rfl (by decide) ⟨by decide, by decide⟩ ⟨by decide, by decide⟩ (Runs_R (R2 := Rf 0) (by unfold RA_; decide +kernel) (Runs.mono (t_become (f := 0) (n := 7) (m := 1) gok71 (fun w1 hG hch => (⟨hG, hch⟩ : Gd 7 1 w1 ∧ ChG w w1))) (fun r N2 R2 w1 ⟨a1, a2, a3, a4⟩ => ?_)))
  subst a1
  subst a2
  subst a3
  have hF1 : Fresh 8 R0 w1 := hF.ch a4.2
  refine Ex_R (R2 := (upR (upR (upR (upR (upR (upR R0 1 6 2) 1 7 3) 1 8 4) 1 9 5) 1 10 6) 1 11 7)) (by unfold RA_; decide +kernel) ?_
  show Ex M_A_init 19 [(0, .ref 0), (1, .ref 1)] [] 8 (upR (upR (upR (upR (upR (upR R0 1 6 2) 1 7 3) 1 8 4) 1 9 5) 1 10 6) 1 11 7) w1 _ _ Q
  have hn19 : Fresh 8 (upR (upR (upR (upR (upR (upR R0 1 6 2) 1 7 3) 1 8 4) 1 9 5) 1 10 6) 1 11 7) w1 := (by
      repeat (refine Fresh.up ?_ (by decide))
      exact hF1.mono (by decide))
  refine x_new 1 d_A_init_19 nw_10_14 rfl (hn19 8 (Nat.le_refl _)) (by decide) (by decide) ?_
  refine x_dup d_A_init_22 rfl ?_
  refine x_aload_n 1 d_A_init_23 rfl ?_
  have hc24 : Fresh 9 (upR (upR (upR (upR (upR (upR R0 1 6 2) 1 7 3) 1 8 4) 1 9 5) 1 10 6) 1 11 7) w1 := (by
      repeat (refine Fresh.up ?_ (by decide))
      exact hF1.mono (by decide))
  refine x_callI (q := 8) (st := [.ref 8]) M_F_init [.ref 1] d_A_init_24 ml_10_16 cv_F_init rfl (by decide) ⟨by decide, by decide⟩ ⟨by decide, by decide⟩ (c_F hc24 ?_)
  show Ex M_A_init 27 [(0, .ref 0), (1, .ref 1)] [.ref 8] 10 (upR (upR (upR (upR (upR (upR (upR (upR R0 1 6 2) 1 7 3) 1 8 4) 1 9 5) 1 10 6) 1 11 7) 8 1 9) 8 0 1) w1 _ _ Q
  refine x_astore_n (L' := [(0, .ref 0), (1, .ref 1), (2, .ref 8)]) [1, 2, 0] d_A_init_27 (by decide) rfl ?_
  refine x_aload_n 0 d_A_init_28 rfl ?_
  refine x_aload_n 1 d_A_init_29 rfl ?_
  refine x_putF 10 0 d_A_init_30 rfl pf_10_19 rfl rfl (by decide) (fun _ => ⟨rfl, rfl⟩) ?_
  refine x_aload_n 0 d_A_init_33 rfl ?_
  refine x_bipush (v := nI 6) d_A_init_34 (by decide) ?_
  refine x_newa (t := 1) (len := 6) .long d_A_init_36 ac_long (by decide) rfl (by decide) (by decide) (by decide) rfl ⟨(hF1 10 (by decide)).1, (hF1 10 (by decide)).2.1⟩ (by decide) (by decide) ?_
  refine x_putF 10 1 d_A_init_38 rfl pf_10_25 rfl rfl (by decide) (fun _ => ⟨rfl, rfl⟩) ?_
  refine x_aload_n 0 d_A_init_41 rfl ?_
  have hn42 : Fresh 11 (upR (upR (upR (upR (upR (upR (upR (upR (upR (upR R0 1 6 2) 1 7 3) 1 8 4) 1 9 5) 1 10 6) 1 11 7) 8 1 9) 8 0 1) 0 0 1) 0 1 10) w1 := (by
      repeat (refine Fresh.up ?_ (by decide))
      exact hF1.mono (by decide))
  refine x_new 6 d_A_init_42 nw_10_29 rfl (hn42 11 (Nat.le_refl _)) (by decide) (by decide) ?_
  refine x_dup d_A_init_45 rfl ?_
  have hc46 : Fresh 12 (upR (upR (upR (upR (upR (upR (upR (upR (upR (upR R0 1 6 2) 1 7 3) 1 8 4) 1 9 5) 1 10 6) 1 11 7) 8 1 9) 8 0 1) 0 0 1) 0 1 10) w1 := (by
      repeat (refine Fresh.up ?_ (by decide))
      exact hF1.mono (by decide))
  refine x_callI (q := 11) (st := [.ref 11, .ref 0]) M_H_init [] d_A_init_46 ml_10_31 cv_H_init rfl (by decide) ⟨by decide, by decide⟩ ⟨by decide, by decide⟩ (c_H hc46 ?_)
  show Ex M_A_init 49 [(0, .ref 0), (1, .ref 1), (2, .ref 8)] [.ref 11, .ref 0] 13 (upR (upR (upR (upR (upR (upR (upR (upR (upR (upR (upR R0 1 6 2) 1 7 3) 1 8 4) 1 9 5) 1 10 6) 1 11 7) 8 1 9) 8 0 1) 0 0 1) 0 1 10) 11 0 12) w1 _ _ Q
  refine x_putF 10 2 d_A_init_49 rfl pf_10_32 rfl rfl (by decide) (fun _ => ⟨rfl, rfl⟩) ?_
  refine x_aload_n 0 d_A_init_52 rfl ?_
  refine x_aload_n 2 d_A_init_53 rfl ?_
  refine x_putF 10 3 d_A_init_54 rfl pf_10_36 rfl rfl (by decide) (fun _ => ⟨rfl, rfl⟩) ?_
  refine x_aload_n 0 d_A_init_57 rfl ?_
  have hn58 : Fresh 13 (upR (upR (upR (upR (upR (upR (upR (upR (upR (upR (upR (upR (upR R0 1 6 2) 1 7 3) 1 8 4) 1 9 5) 1 10 6) 1 11 7) 8 1 9) 8 0 1) 0 0 1) 0 1 10) 11 0 12) 0 2 11) 0 3 8) w1 := (by
      repeat (refine Fresh.up ?_ (by decide))
      exact hF1.mono (by decide))
  refine x_new 3 d_A_init_58 nw_10_40 rfl (hn58 13 (Nat.le_refl _)) (by decide) (by decide) ?_
  refine x_dup d_A_init_61 rfl ?_
  refine x_aload_n 1 d_A_init_62 rfl ?_
  refine x_aload_n 2 d_A_init_63 rfl ?_
  have hc64 : Fresh 14 (upR (upR (upR (upR (upR (upR (upR (upR (upR (upR (upR (upR (upR R0 1 6 2) 1 7 3) 1 8 4) 1 9 5) 1 10 6) 1 11 7) 8 1 9) 8 0 1) 0 0 1) 0 1 10) 11 0 12) 0 2 11) 0 3 8) w1 := (by
      repeat (refine Fresh.up ?_ (by decide))
      exact hF1.mono (by decide))
  refine x_callI (q := 13) (st := [.ref 13, .ref 0]) M_X_init [.ref 1, .ref 8] d_A_init_64 ml_10_42 cv_X_init rfl (by decide) ⟨by decide, by decide⟩ ⟨by decide, by decide⟩ (c_X hc64 ?_)
  show Ex M_A_init 67 [(0, .ref 0), (1, .ref 1), (2, .ref 8)] [.ref 13, .ref 0] 14 (upR (upR (upR (upR (upR (upR (upR (upR (upR (upR (upR (upR (upR (upR (upR R0 1 6 2) 1 7 3) 1 8 4) 1 9 5) 1 10 6) 1 11 7) 8 1 9) 8 0 1) 0 0 1) 0 1 10) 11 0 12) 0 2 11) 0 3 8) 13 0 1) 13 1 8) w1 _ _ Q
  refine x_putF 10 4 d_A_init_67 rfl pf_10_45 rfl rfl (by decide) (fun _ => ⟨rfl, rfl⟩) ?_
  refine x_aload_n 0 d_A_init_70 rfl ?_
  have hn71 : Fresh 14 (upR (upR (upR (upR (upR (upR (upR (upR (upR (upR (upR (upR (upR (upR (upR (upR R0 1 6 2) 1 7 3) 1 8 4) 1 9 5) 1 10 6) 1 11 7) 8 1 9) 8 0 1) 0 0 1) 0 1 10) 11 0 12) 0 2 11) 0 3 8) 13 0 1) 13 1 8) 0 4 13) w1 := (by
      repeat (refine Fresh.up ?_ (by decide))
      exact hF1.mono (by decide))
  refine x_new 7 d_A_init_71 nw_10_49 rfl (hn71 14 (Nat.le_refl _)) (by decide) (by decide) ?_
  refine x_dup d_A_init_74 rfl ?_
  refine x_aload_n 1 d_A_init_75 rfl ?_
  have hc76 : Fresh 15 (upR (upR (upR (upR (upR (upR (upR (upR (upR (upR (upR (upR (upR (upR (upR (upR R0 1 6 2) 1 7 3) 1 8 4) 1 9 5) 1 10 6) 1 11 7) 8 1 9) 8 0 1) 0 0 1) 0 1 10) 11 0 12) 0 2 11) 0 3 8) 13 0 1) 13 1 8) 0 4 13) w1 := (by
      repeat (refine Fresh.up ?_ (by decide))
      exact hF1.mono (by decide))
  refine x_callI (q := 14) (st := [.ref 14, .ref 0]) M_K_init [.ref 1] d_A_init_76 ml_10_51 cv_K_init rfl (by decide) ⟨by decide, by decide⟩ ⟨by decide, by decide⟩ (c_K hc76 ?_)
  show Ex M_A_init 79 [(0, .ref 0), (1, .ref 1), (2, .ref 8)] [.ref 14, .ref 0] 19 (upR (upR (upR (upR (upR (upR (upR (upR (upR (upR (upR (upR (upR (upR (upR (upR (upR (upR (upR (upR (upR R0 1 6 2) 1 7 3) 1 8 4) 1 9 5) 1 10 6) 1 11 7) 8 1 9) 8 0 1) 0 0 1) 0 1 10) 11 0 12) 0 2 11) 0 3 8) 13 0 1) 13 1 8) 0 4 13) 14 1 15) 14 2 16) 14 3 17) 14 4 18) 14 0 1) w1 _ _ Q
  refine x_putF 10 5 d_A_init_79 rfl pf_10_52 rfl rfl (by decide) (fun _ => ⟨rfl, rfl⟩) ?_
  refine x_aload_n 0 d_A_init_82 rfl ?_
  have hn83 : Fresh 19 (upR (upR (upR (upR (upR (upR (upR (upR (upR (upR (upR (upR (upR (upR (upR (upR (upR (upR (upR (upR (upR (upR R0 1 6 2) 1 7 3) 1 8 4) 1 9 5) 1 10 6) 1 11 7) 8 1 9) 8 0 1) 0 0 1) 0 1 10) 11 0 12) 0 2 11) 0 3 8) 13 0 1) 13 1 8) 0 4 13) 14 1 15) 14 2 16) 14 3 17) 14 4 18) 14 0 1) 0 5 14) w1 := (by
      repeat (refine Fresh.up ?_ (by decide))
      exact hF1.mono (by decide))
  refine x_new 0 d_A_init_83 nw_10_56 rfl (hn83 19 (Nat.le_refl _)) (by decide) (by decide) ?_
  refine x_dup d_A_init_86 rfl ?_
  refine x_aload_n 1 d_A_init_87 rfl ?_
  have hc88 : Fresh 20 (upR (upR (upR (upR (upR (upR (upR (upR (upR (upR (upR (upR (upR (upR (upR (upR (upR (upR (upR (upR (upR (upR R0 1 6 2) 1 7 3) 1 8 4) 1 9 5) 1 10 6) 1 11 7) 8 1 9) 8 0 1) 0 0 1) 0 1 10) 11 0 12) 0 2 11) 0 3 8) 13 0 1) 13 1 8) 0 4 13) 14 1 15) 14 2 16) 14 3 17) 14 4 18) 14 0 1) 0 5 14) w1 := (by
      repeat (refine Fresh.up ?_ (by decide))
      exact hF1.mono (by decide))
  refine x_callI (q := 19) (st := [.ref 19, .ref 0]) M_D_init [.ref 1] d_A_init_88 ml_10_58 cv_D_init rfl (by decide) ⟨by decide, by decide⟩ ⟨by decide, by decide⟩ (c_D hc88 ?_)
  show Ex M_A_init 91 [(0, .ref 0), (1, .ref 1), (2, .ref 8)] [.ref 19, .ref 0] 21 (upR (upR (upR (upR (upR (upR (upR (upR (upR (upR (upR (upR (upR (upR (upR (upR (upR (upR (upR (upR (upR (upR (upR (upR R0 1 6 2) 1 7 3) 1 8 4) 1 9 5) 1 10 6) 1 11 7) 8 1 9) 8 0 1) 0 0 1) 0 1 10) 11 0 12) 0 2 11) 0 3 8) 13 0 1) 13 1 8) 0 4 13) 14 1 15) 14 2 16) 14 3 17) 14 4 18) 14 0 1) 0 5 14) 19 1 20) 19 0 1) w1 _ _ Q
  refine x_putF 10 6 d_A_init_91 rfl pf_10_59 rfl rfl (by decide) (fun _ => ⟨rfl, rfl⟩) ?_
  refine x_aload_n 0 d_A_init_94 rfl ?_
  have hn95 : Fresh 21 (upR (upR (upR (upR (upR (upR (upR (upR (upR (upR (upR (upR (upR (upR (upR (upR (upR (upR (upR (upR (upR (upR (upR (upR (upR R0 1 6 2) 1 7 3) 1 8 4) 1 9 5) 1 10 6) 1 11 7) 8 1 9) 8 0 1) 0 0 1) 0 1 10) 11 0 12) 0 2 11) 0 3 8) 13 0 1) 13 1 8) 0 4 13) 14 1 15) 14 2 16) 14 3 17) 14 4 18) 14 0 1) 0 5 14) 19 1 20) 19 0 1) 0 6 19) w1 := (by
      repeat (refine Fresh.up ?_ (by decide))
      exact hF1.mono (by decide))
  refine x_new 2 d_A_init_95 nw_10_63 rfl (hn95 21 (Nat.le_refl _)) (by decide) (by decide) ?_
  refine x_dup d_A_init_98 rfl ?_
  refine x_aload_n 1 d_A_init_99 rfl ?_
  have hc100 : Fresh 22 (upR (upR (upR (upR (upR (upR (upR (upR (upR (upR (upR (upR (upR (upR (upR (upR (upR (upR (upR (upR (upR (upR (upR (upR (upR R0 1 6 2) 1 7 3) 1 8 4) 1 9 5) 1 10 6) 1 11 7) 8 1 9) 8 0 1) 0 0 1) 0 1 10) 11 0 12) 0 2 11) 0 3 8) 13 0 1) 13 1 8) 0 4 13) 14 1 15) 14 2 16) 14 3 17) 14 4 18) 14 0 1) 0 5 14) 19 1 20) 19 0 1) 0 6 19) w1 := (by
      repeat (refine Fresh.up ?_ (by decide))
      exact hF1.mono (by decide))
  refine x_callI (q := 21) (st := [.ref 21, .ref 0]) M_E_init [.ref 1] d_A_init_100 ml_10_65 cv_E_init rfl (by decide) ⟨by decide, by decide⟩ ⟨by decide, by decide⟩ (c_E hc100 ?_)
  show Ex M_A_init 103 [(0, .ref 0), (1, .ref 1), (2, .ref 8)] [.ref 21, .ref 0] 24 (upR (upR (upR (upR (upR (upR (upR (upR (upR (upR (upR (upR (upR (upR (upR (upR (upR (upR (upR (upR (upR (upR (upR (upR (upR (upR (upR (upR R0 1 6 2) 1 7 3) 1 8 4) 1 9 5) 1 10 6) 1 11 7) 8 1 9) 8 0 1) 0 0 1) 0 1 10) 11 0 12) 0 2 11) 0 3 8) 13 0 1) 13 1 8) 0 4 13) 14 1 15) 14 2 16) 14 3 17) 14 4 18) 14 0 1) 0 5 14) 19 1 20) 19 0 1) 0 6 19) 21 1 22) 21 2 23) 21 0 1) w1 _ _ Q
  refine x_putF 10 7 d_A_init_103 rfl pf_10_66 rfl rfl (by decide) (fun _ => ⟨rfl, rfl⟩) ?_
  refine x_aload_n 0 d_A_init_106 rfl ?_
  have hn107 : Fresh 24 (upR (upR (upR (upR (upR (upR (upR (upR (upR (upR (upR (upR (upR (upR (upR (upR (upR (upR (upR (upR (upR (upR (upR (upR (upR (upR (upR (upR (upR R0 1 6 2) 1 7 3) 1 8 4) 1 9 5) 1 10 6) 1 11 7) 8 1 9) 8 0 1) 0 0 1) 0 1 10) 11 0 12) 0 2 11) 0 3 8) 13 0 1) 13 1 8) 0 4 13) 14 1 15) 14 2 16) 14 3 17) 14 4 18) 14 0 1) 0 5 14) 19 1 20) 19 0 1) 0 6 19) 21 1 22) 21 2 23) 21 0 1) 0 7 21) w1 := (by
      repeat (refine Fresh.up ?_ (by decide))
      exact hF1.mono (by decide))
  refine x_new 4 d_A_init_107 nw_10_70 rfl (hn107 24 (Nat.le_refl _)) (by decide) (by decide) ?_
  refine x_dup d_A_init_110 rfl ?_
  refine x_aload_n 1 d_A_init_111 rfl ?_
  have hc112 : Fresh 25 (upR (upR (upR (upR (upR (upR (upR (upR (upR (upR (upR (upR (upR (upR (upR (upR (upR (upR (upR (upR (upR (upR (upR (upR (upR (upR (upR (upR (upR R0 1 6 2) 1 7 3) 1 8 4) 1 9 5) 1 10 6) 1 11 7) 8 1 9) 8 0 1) 0 0 1) 0 1 10) 11 0 12) 0 2 11) 0 3 8) 13 0 1) 13 1 8) 0 4 13) 14 1 15) 14 2 16) 14 3 17) 14 4 18) 14 0 1) 0 5 14) 19 1 20) 19 0 1) 0 6 19) 21 1 22) 21 2 23) 21 0 1) 0 7 21) w1 := (by
      repeat (refine Fresh.up ?_ (by decide))
      exact hF1.mono (by decide))
  refine x_callI (q := 24) (st := [.ref 24, .ref 0]) M_N_init [.ref 1] d_A_init_112 ml_10_72 cv_N_init rfl (by decide) ⟨by decide, by decide⟩ ⟨by decide, by decide⟩ (c_N hc112 ?_)
  show Ex M_A_init 115 [(0, .ref 0), (1, .ref 1), (2, .ref 8)] [.ref 24, .ref 0] 32 (upR (upR (upR (upR (upR (upR (upR (upR (upR (upR (upR (upR (upR (upR (upR (upR (upR (upR (upR (upR (upR (upR (upR (upR (upR (upR (upR (upR (upR (upR (upR (upR (upR (upR (upR (upR (upR R0 1 6 2) 1 7 3) 1 8 4) 1 9 5) 1 10 6) 1 11 7) 8 1 9) 8 0 1) 0 0 1) 0 1 10) 11 0 12) 0 2 11) 0 3 8) 13 0 1) 13 1 8) 0 4 13) 14 1 15) 14 2 16) 14 3 17) 14 4 18) 14 0 1) 0 5 14) 19 1 20) 19 0 1) 0 6 19) 21 1 22) 21 2 23) 21 0 1) 0 7 21) 24 1 25) 24 2 26) 24 3 27) 24 4 28) 24 5 29) 24 6 30) 24 7 31) 24 0 1) w1 _ _ Q
  refine x_putF 10 8 d_A_init_115 rfl pf_10_73 rfl rfl (by decide) (fun _ => ⟨rfl, rfl⟩) ?_
  refine x_aload_n 0 d_A_init_118 rfl ?_
  have hn119 : Fresh 32 (upR (upR (upR (upR (upR (upR (upR (upR (upR (upR (upR (upR (upR (upR (upR (upR (upR (upR (upR (upR (upR (upR (upR (upR (upR (upR (upR (upR (upR (upR (upR (upR (upR (upR (upR (upR (upR (upR R0 1 6 2) 1 7 3) 1 8 4) 1 9 5) 1 10 6) 1 11 7) 8 1 9) 8 0 1) 0 0 1) 0 1 10) 11 0 12) 0 2 11) 0 3 8) 13 0 1) 13 1 8) 0 4 13) 14 1 15) 14 2 16) 14 3 17) 14 4 18) 14 0 1) 0 5 14) 19 1 20) 19 0 1) 0 6 19) 21 1 22) 21 2 23) 21 0 1) 0 7 21) 24 1 25) 24 2 26) 24 3 27) 24 4 28) 24 5 29) 24 6 30) 24 7 31) 24 0 1) 0 8 24) w1 := (by
      repeat (refine Fresh.up ?_ (by decide))
      exact hF1.mono (by decide))
  refine x_new 9 d_A_init_119 nw_10_77 rfl (hn119 32 (Nat.le_refl _)) (by decide) (by decide) ?_
  refine x_dup d_A_init_122 rfl ?_
  refine x_aload_n 1 d_A_init_123 rfl ?_
  have hc124 : Fresh 33 (upR (upR (upR (upR (upR (upR (upR (upR (upR (upR (upR (upR (upR (upR (upR (upR (upR (upR (upR (upR (upR (upR (upR (upR (upR (upR (upR (upR (upR (upR (upR (upR (upR (upR (upR (upR (upR (upR R0 1 6 2) 1 7 3) 1 8 4) 1 9 5) 1 10 6) 1 11 7) 8 1 9) 8 0 1) 0 0 1) 0 1 10) 11 0 12) 0 2 11) 0 3 8) 13 0 1) 13 1 8) 0 4 13) 14 1 15) 14 2 16) 14 3 17) 14 4 18) 14 0 1) 0 5 14) 19 1 20) 19 0 1) 0 6 19) 21 1 22) 21 2 23) 21 0 1) 0 7 21) 24 1 25) 24 2 26) 24 3 27) 24 4 28) 24 5 29) 24 6 30) 24 7 31) 24 0 1) 0 8 24) w1 := (by
      repeat (refine Fresh.up ?_ (by decide))
      exact hF1.mono (by decide))
  refine x_callI (q := 32) (st := [.ref 32, .ref 0]) M_T_init [.ref 1] d_A_init_124 ml_10_79 cv_T_init rfl (by decide) ⟨by decide, by decide⟩ ⟨by decide, by decide⟩ (c_T hc124 ?_)
  show Ex M_A_init 127 [(0, .ref 0), (1, .ref 1), (2, .ref 8)] [.ref 32, .ref 0] 35 (upR (upR (upR (upR (upR (upR (upR (upR (upR (upR (upR (upR (upR (upR (upR (upR (upR (upR (upR (upR (upR (upR (upR (upR (upR (upR (upR (upR (upR (upR (upR (upR (upR (upR (upR (upR (upR (upR (upR (upR (upR R0 1 6 2) 1 7 3) 1 8 4) 1 9 5) 1 10 6) 1 11 7) 8 1 9) 8 0 1) 0 0 1) 0 1 10) 11 0 12) 0 2 11) 0 3 8) 13 0 1) 13 1 8) 0 4 13) 14 1 15) 14 2 16) 14 3 17) 14 4 18) 14 0 1) 0 5 14) 19 1 20) 19 0 1) 0 6 19) 21 1 22) 21 2 23) 21 0 1) 0 7 21) 24 1 25) 24 2 26) 24 3 27) 24 4 28) 24 5 29) 24 6 30) 24 7 31) 24 0 1) 0 8 24) 32 1 33) 32 2 34) 32 0 1) w1 _ _ Q
  refine x_putF 10 9 d_A_init_127 rfl pf_10_80 rfl rfl (by decide) (fun _ => ⟨rfl, rfl⟩) ?_
  refine x_aload_n 0 d_A_init_130 rfl ?_
  have hn131 : Fresh 35 (upR (upR (upR (upR (upR (upR (upR (upR (upR (upR (upR (upR (upR (upR (upR (upR (upR (upR (upR (upR (upR (upR (upR (upR (upR (upR (upR (upR (upR (upR (upR (upR (upR (upR (upR (upR (upR (upR (upR (upR (upR (upR R0 1 6 2) 1 7 3) 1 8 4) 1 9 5) 1 10 6) 1 11 7) 8 1 9) 8 0 1) 0 0 1) 0 1 10) 11 0 12) 0 2 11) 0 3 8) 13 0 1) 13 1 8) 0 4 13) 14 1 15) 14 2 16) 14 3 17) 14 4 18) 14 0 1) 0 5 14) 19 1 20) 19 0 1) 0 6 19) 21 1 22) 21 2 23) 21 0 1) 0 7 21) 24 1 25) 24 2 26) 24 3 27) 24 4 28) 24 5 29) 24 6 30) 24 7 31) 24 0 1) 0 8 24) 32 1 33) 32 2 34) 32 0 1) 0 9 32) w1 := (by
      repeat (refine Fresh.up ?_ (by decide))
      exact hF1.mono (by decide))
  refine x_new 8 d_A_init_131 nw_10_84 rfl (hn131 35 (Nat.le_refl _)) (by decide) (by decide) ?_
  refine x_dup d_A_init_134 rfl ?_
  have hc135 : Fresh 36 (upR (upR (upR (upR (upR (upR (upR (upR (upR (upR (upR (upR (upR (upR (upR (upR (upR (upR (upR (upR (upR (upR (upR (upR (upR (upR (upR (upR (upR (upR (upR (upR (upR (upR (upR (upR (upR (upR (upR (upR (upR (upR R0 1 6 2) 1 7 3) 1 8 4) 1 9 5) 1 10 6) 1 11 7) 8 1 9) 8 0 1) 0 0 1) 0 1 10) 11 0 12) 0 2 11) 0 3 8) 13 0 1) 13 1 8) 0 4 13) 14 1 15) 14 2 16) 14 3 17) 14 4 18) 14 0 1) 0 5 14) 19 1 20) 19 0 1) 0 6 19) 21 1 22) 21 2 23) 21 0 1) 0 7 21) 24 1 25) 24 2 26) 24 3 27) 24 4 28) 24 5 29) 24 6 30) 24 7 31) 24 0 1) 0 8 24) 32 1 33) 32 2 34) 32 0 1) 0 9 32) w1 := (by
      repeat (refine Fresh.up ?_ (by decide))
      exact hF1.mono (by decide))
  refine x_callI (q := 35) (st := [.ref 35, .ref 0]) M_S_init [] d_A_init_135 ml_10_86 cv_S_init rfl (by decide) ⟨by decide, by decide⟩ ⟨by decide, by decide⟩ (c_S1 hc135 ?_)
  show Ex M_A_init 138 [(0, .ref 0), (1, .ref 1), (2, .ref 8)] [.ref 35, .ref 0] 37 (upR (upR (upR (upR (upR (upR (upR (upR (upR (upR (upR (upR (upR (upR (upR (upR (upR (upR (upR (upR (upR (upR (upR (upR (upR (upR (upR (upR (upR (upR (upR (upR (upR (upR (upR (upR (upR (upR (upR (upR (upR (upR (upR R0 1 6 2) 1 7 3) 1 8 4) 1 9 5) 1 10 6) 1 11 7) 8 1 9) 8 0 1) 0 0 1) 0 1 10) 11 0 12) 0 2 11) 0 3 8) 13 0 1) 13 1 8) 0 4 13) 14 1 15) 14 2 16) 14 3 17) 14 4 18) 14 0 1) 0 5 14) 19 1 20) 19 0 1) 0 6 19) 21 1 22) 21 2 23) 21 0 1) 0 7 21) 24 1 25) 24 2 26) 24 3 27) 24 4 28) 24 5 29) 24 6 30) 24 7 31) 24 0 1) 0 8 24) 32 1 33) 32 2 34) 32 0 1) 0 9 32) 35 0 36) w1 _ _ Q
  refine x_putF 10 10 d_A_init_138 rfl pf_10_87 rfl rfl (by decide) (fun _ => ⟨rfl, rfl⟩) ?_
  refine x_aload_n 0 d_A_init_141 rfl ?_
  have hn142 : Fresh 37 (upR (upR (upR (upR (upR (upR (upR (upR (upR (upR (upR (upR (upR (upR (upR (upR (upR (upR (upR (upR (upR (upR (upR (upR (upR (upR (upR (upR (upR (upR (upR (upR (upR (upR (upR (upR (upR (upR (upR (upR (upR (upR (upR (upR R0 1 6 2) 1 7 3) 1 8 4) 1 9 5) 1 10 6) 1 11 7) 8 1 9) 8 0 1) 0 0 1) 0 1 10) 11 0 12) 0 2 11) 0 3 8) 13 0 1) 13 1 8) 0 4 13) 14 1 15) 14 2 16) 14 3 17) 14 4 18) 14 0 1) 0 5 14) 19 1 20) 19 0 1) 0 6 19) 21 1 22) 21 2 23) 21 0 1) 0 7 21) 24 1 25) 24 2 26) 24 3 27) 24 4 28) 24 5 29) 24 6 30) 24 7 31) 24 0 1) 0 8 24) 32 1 33) 32 2 34) 32 0 1) 0 9 32) 35 0 36) 0 10 35) w1 := (by
      repeat (refine Fresh.up ?_ (by decide))
      exact hF1.mono (by decide))
  refine x_new 8 d_A_init_142 nw_10_84 rfl (hn142 37 (Nat.le_refl _)) (by decide) (by decide) ?_
  refine x_dup d_A_init_145 rfl ?_
  have hc146 : Fresh 38 (upR (upR (upR (upR (upR (upR (upR (upR (upR (upR (upR (upR (upR (upR (upR (upR (upR (upR (upR (upR (upR (upR (upR (upR (upR (upR (upR (upR (upR (upR (upR (upR (upR (upR (upR (upR (upR (upR (upR (upR (upR (upR (upR (upR R0 1 6 2) 1 7 3) 1 8 4) 1 9 5) 1 10 6) 1 11 7) 8 1 9) 8 0 1) 0 0 1) 0 1 10) 11 0 12) 0 2 11) 0 3 8) 13 0 1) 13 1 8) 0 4 13) 14 1 15) 14 2 16) 14 3 17) 14 4 18) 14 0 1) 0 5 14) 19 1 20) 19 0 1) 0 6 19) 21 1 22) 21 2 23) 21 0 1) 0 7 21) 24 1 25) 24 2 26) 24 3 27) 24 4 28) 24 5 29) 24 6 30) 24 7 31) 24 0 1) 0 8 24) 32 1 33) 32 2 34) 32 0 1) 0 9 32) 35 0 36) 0 10 35) w1 := (by
      repeat (refine Fresh.up ?_ (by decide))
      exact hF1.mono (by decide))
  refine x_callI (q := 37) (st := [.ref 37, .ref 0]) M_S_init [] d_A_init_146 ml_10_86 cv_S_init rfl (by decide) ⟨by decide, by decide⟩ ⟨by decide, by decide⟩ (c_S2 hc146 ?_)
  show Ex M_A_init 149 [(0, .ref 0), (1, .ref 1), (2, .ref 8)] [.ref 37, .ref 0] 39 (upR (upR (upR (upR (upR (upR (upR (upR (upR (upR (upR (upR (upR (upR (upR (upR (upR (upR (upR (upR (upR (upR (upR (upR (upR (upR (upR (upR (upR (upR (upR (upR (upR (upR (upR (upR (upR (upR (upR (upR (upR (upR (upR (upR (upR R0 1 6 2) 1 7 3) 1 8 4) 1 9 5) 1 10 6) 1 11 7) 8 1 9) 8 0 1) 0 0 1) 0 1 10) 11 0 12) 0 2 11) 0 3 8) 13 0 1) 13 1 8) 0 4 13) 14 1 15) 14 2 16) 14 3 17) 14 4 18) 14 0 1) 0 5 14) 19 1 20) 19 0 1) 0 6 19) 21 1 22) 21 2 23) 21 0 1) 0 7 21) 24 1 25) 24 2 26) 24 3 27) 24 4 28) 24 5 29) 24 6 30) 24 7 31) 24 0 1) 0 8 24) 32 1 33) 32 2 34) 32 0 1) 0 9 32) 35 0 36) 0 10 35) 37 0 38) w1 _ _ Q
  refine x_putF 10 11 d_A_init_149 rfl pf_10_91 rfl rfl (by decide) (fun _ => ⟨rfl, rfl⟩) ?_
  refine x_aload_n 0 d_A_init_152 rfl ?_
  refine x_lconst (v := 1) d_A_init_153 (by decide) ?_
  refine x_putL 10 12 d_A_init_154 fp_10_94 rfl rfl (by decide) ?_
  exact x_vret d_A_init_157 rfl rfl (by decide) (h w1 a4.1 a4.2)
theorem c_B {w : Wd} {Q : QT} (hF : Fresh 40 RfA w) (h : ∀ w1, ChI PAb (upL (upI (upI (upI w 39 0 (nI 7)) 39 1 (nI 1)) 39 2 (nI 7)) 39 3 1) w1 → AuB (autL 7 1) w1 → Q none 58 (Rf 1) w1) : Runs M_B_init [.ref 39] 40 RfA w Q := by
  refine runs_of (L := [(0, .ref 39)]) rfl (Nat.le_of_ble_eq_true rfl) rfl ?_
  refine x_aload_n 0 d_B_init_0 rfl ?_
  refine x_obj d_B_init_1 ob_B_init (by decide) ⟨by decide, by decide⟩ ?_
  refine x_aload_n 0 d_B_init_4 rfl ?_
  refine x_bipush (v := nI 7) d_B_init_5 (by decide) ?_
  refine x_putI 11 0 d_B_init_7 fp_11_7 rfl rfl (by decide) ?_
  refine x_aload_n 0 d_B_init_10 rfl ?_
  refine x_iconst (v := nI 1) d_B_init_11 (by decide) ?_
  refine x_putI 11 1 d_B_init_12 fp_11_13 rfl rfl (by decide) ?_
  refine x_aload_n 0 d_B_init_15 rfl ?_
  refine x_bipush (v := nI 7) d_B_init_16 (by decide) ?_
  refine x_putI 11 2 d_B_init_18 fp_11_16 rfl rfl (by decide) ?_
  refine x_aload_n 0 d_B_init_21 rfl ?_
  refine x_lconst (v := 1) d_B_init_22 (by decide) ?_
  refine x_putL 11 3 d_B_init_23 fp_11_19 rfl rfl (by decide) ?_
  refine x_aload_n 0 d_B_init_26 rfl ?_
  refine x_bipush (v := nI 6) d_B_init_27 (by decide) ?_
  refine x_newa (t := 1) (len := 6) .long d_B_init_29 ac_long (by decide) rfl (by decide) (by decide) (by decide) rfl ⟨(hF 40 (by decide)).1, (hF 40 (by decide)).2.1⟩ (by decide) (by decide) ?_
  refine x_putF 11 4 d_B_init_31 rfl pf_11_23 rfl rfl (by decide) (fun _ => ⟨rfl, rfl⟩) ?_
  refine x_aload_n 0 d_B_init_34 rfl ?_
  refine x_bipush (v := nI 30) d_B_init_35 (by decide) ?_
  refine x_newa (t := 1) (len := 30) .long d_B_init_37 ac_long (by decide) rfl (by decide) (by decide) (by decide) rfl ⟨(hF 41 (by decide)).1, (hF 41 (by decide)).2.1⟩ (by decide) (by decide) ?_
  refine x_putF 11 5 d_B_init_39 rfl pf_11_27 rfl rfl (by decide) (fun _ => ⟨rfl, rfl⟩) ?_
  refine x_aload_n 0 d_B_init_42 rfl ?_
  refine x_bipush (v := nI 14) d_B_init_43 (by decide) ?_
  refine x_newa (t := 1) (len := 14) .long d_B_init_45 ac_long (by decide) rfl (by decide) (by decide) (by decide) rfl ⟨(hF 42 (by decide)).1, (hF 42 (by decide)).2.1⟩ (by decide) (by decide) ?_
  refine x_putF 11 7 d_B_init_47 rfl pf_11_30 rfl rfl (by decide) (fun _ => ⟨rfl, rfl⟩) ?_
  refine x_aload_n 0 d_B_init_50 rfl ?_
  refine x_iconst (v := nI 2) d_B_init_51 (by decide) ?_
  refine x_newa (t := 3) (len := 2) .boolean d_B_init_52 ac_boolean (by decide) rfl (by decide) (by decide) (by decide) rfl ⟨(hF 43 (by decide)).1, (hF 43 (by decide)).2.1⟩ (by decide) (by decide) ?_
  refine x_putF 11 8 d_B_init_54 rfl pf_11_33 rfl rfl (by decide) (fun _ => ⟨rfl, rfl⟩) ?_
  refine x_aload_n 0 d_B_init_57 rfl ?_
  refine x_sipush (v := nI 160) d_B_init_58 (by decide) ?_
  refine x_newa (t := 0) (len := 160) .int d_B_init_61 ac_int (by decide) rfl (by decide) (by decide) (by decide) rfl ⟨(hF 44 (by decide)).1, (hF 44 (by decide)).2.1⟩ (by decide) (by decide) ?_
  refine x_putF 11 9 d_B_init_63 rfl pf_11_37 rfl rfl (by decide) (fun _ => ⟨rfl, rfl⟩) ?_
  refine x_aload_n 0 d_B_init_66 rfl ?_
  refine x_sipush (v := nI 500) d_B_init_67 (by decide) ?_
  refine x_newa (t := 0) (len := 500) .int d_B_init_70 ac_int (by decide) rfl (by decide) (by decide) (by decide) rfl ⟨(hF 45 (by decide)).1, (hF 45 (by decide)).2.1⟩ (by decide) (by decide) ?_
  refine x_putF 11 12 d_B_init_72 rfl pf_11_41 rfl rfl (by decide) (fun _ => ⟨rfl, rfl⟩) ?_
  refine x_aload_n 0 d_B_init_75 rfl ?_
  refine x_sipush (v := nI 500) d_B_init_76 (by decide) ?_
  refine x_newa (t := 0) (len := 500) .int d_B_init_79 ac_int (by decide) rfl (by decide) (by decide) (by decide) rfl ⟨(hF 46 (by decide)).1, (hF 46 (by decide)).2.1⟩ (by decide) (by decide) ?_
  refine x_putF 11 13 d_B_init_81 rfl pf_11_44 rfl rfl (by decide) (fun _ => ⟨rfl, rfl⟩) ?_
  refine x_aload_n 0 d_B_init_84 rfl ?_
  refine x_iconst (v := nI 4) d_B_init_85 (by decide) ?_
  refine x_newa (t := 1) (len := 4) .long d_B_init_86 ac_long (by decide) rfl (by decide) (by decide) (by decide) rfl ⟨(hF 47 (by decide)).1, (hF 47 (by decide)).2.1⟩ (by decide) (by decide) ?_
  refine x_putF 11 17 d_B_init_88 rfl pf_11_47 rfl rfl (by decide) (fun _ => ⟨rfl, rfl⟩) ?_
  refine x_aload_n 0 d_B_init_91 rfl ?_
  refine x_bipush (v := nI 40) d_B_init_92 (by decide) ?_
  refine x_newa (t := 0) (len := 40) .int d_B_init_94 ac_int (by decide) rfl (by decide) (by decide) (by decide) rfl ⟨(hF 48 (by decide)).1, (hF 48 (by decide)).2.1⟩ (by decide) (by decide) ?_
  refine x_putF 11 18 d_B_init_96 rfl pf_11_50 rfl rfl (by decide) (fun _ => ⟨rfl, rfl⟩) ?_
  refine x_aload_n 0 d_B_init_99 rfl ?_
  refine x_bipush (v := nI 6) d_B_init_100 (by decide) ?_
  refine x_newa (t := 1) (len := 6) .long d_B_init_102 ac_long (by decide) rfl (by decide) (by decide) (by decide) rfl ⟨(hF 49 (by decide)).1, (hF 49 (by decide)).2.1⟩ (by decide) (by decide) ?_
  refine x_putF 11 20 d_B_init_104 rfl pf_11_53 rfl rfl (by decide) (fun _ => ⟨rfl, rfl⟩) ?_
  refine x_aload_n 0 d_B_init_107 rfl ?_
  refine x_bipush (v := nI 6) d_B_init_108 (by decide) ?_
  refine x_newa (t := 1) (len := 6) .long d_B_init_110 ac_long (by decide) rfl (by decide) (by decide) (by decide) rfl ⟨(hF 50 (by decide)).1, (hF 50 (by decide)).2.1⟩ (by decide) (by decide) ?_
  refine x_putF 11 21 d_B_init_112 rfl pf_11_56 rfl rfl (by decide) (fun _ => ⟨rfl, rfl⟩) ?_
  refine x_aload_n 0 d_B_init_115 rfl ?_
  refine x_bipush (v := nI 6) d_B_init_116 (by decide) ?_
  refine x_newa (t := 1) (len := 6) .long d_B_init_118 ac_long (by decide) rfl (by decide) (by decide) (by decide) rfl ⟨(hF 51 (by decide)).1, (hF 51 (by decide)).2.1⟩ (by decide) (by decide) ?_
  refine x_putF 11 22 d_B_init_120 rfl pf_11_59 rfl rfl (by decide) (fun _ => ⟨rfl, rfl⟩) ?_
  refine x_aload_n 0 d_B_init_123 rfl ?_
  refine x_sipush (v := nI 240) d_B_init_124 (by decide) ?_
  refine x_newa (t := 1) (len := 240) .long d_B_init_127 ac_long (by decide) rfl (by decide) (by decide) (by decide) rfl ⟨(hF 52 (by decide)).1, (hF 52 (by decide)).2.1⟩ (by decide) (by decide) ?_
  refine x_putF 11 24 d_B_init_129 rfl pf_11_62 rfl rfl (by decide) (fun _ => ⟨rfl, rfl⟩) ?_
  refine x_aload_n 0 d_B_init_132 rfl ?_
  refine x_sipush (v := nI 9600) d_B_init_133 (by decide) ?_
  refine x_newa (t := 0) (len := 9600) .int d_B_init_136 ac_int (by decide) rfl (by decide) (by decide) (by decide) rfl ⟨(hF 53 (by decide)).1, (hF 53 (by decide)).2.1⟩ (by decide) (by decide) ?_
  refine x_putF 11 25 d_B_init_138 rfl pf_11_65 rfl rfl (by decide) (fun _ => ⟨rfl, rfl⟩) ?_
  refine x_aload_n 0 d_B_init_141 rfl ?_
  refine x_sipush (v := nI 3000) d_B_init_142 (by decide) ?_
  refine x_newa (t := 1) (len := 3000) .long d_B_init_145 ac_long (by decide) rfl (by decide) (by decide) (by decide) rfl ⟨(hF 54 (by decide)).1, (hF 54 (by decide)).2.1⟩ (by decide) (by decide) ?_
  refine x_putF 11 26 d_B_init_147 rfl pf_11_68 rfl rfl (by decide) (fun _ => ⟨rfl, rfl⟩) ?_
  refine x_aload_n 0 d_B_init_150 rfl ?_
  refine x_iconst (v := nI 4) d_B_init_151 (by decide) ?_
  refine x_newa (t := 1) (len := 4) .long d_B_init_152 ac_long (by decide) rfl (by decide) (by decide) (by decide) rfl ⟨(hF 55 (by decide)).1, (hF 55 (by decide)).2.1⟩ (by decide) (by decide) ?_
  refine x_putF 11 27 d_B_init_154 rfl pf_11_71 rfl rfl (by decide) (fun _ => ⟨rfl, rfl⟩) ?_
  refine x_aload_n 0 d_B_init_157 rfl ?_
  refine x_iconst (v := nI 5) d_B_init_158 (by decide) ?_
  refine x_newa (t := 0) (len := 5) .int d_B_init_159 ac_int (by decide) rfl (by decide) (by decide) (by decide) rfl ⟨(hF 56 (by decide)).1, (hF 56 (by decide)).2.1⟩ (by decide) (by decide) ?_
  refine x_putF 11 28 d_B_init_161 rfl pf_11_74 rfl rfl (by decide) (fun _ => ⟨rfl, rfl⟩) ?_
  refine x_aload_n 0 d_B_init_164 rfl ?_
  refine x_bipush (v := nI 6) d_B_init_165 (by decide) ?_
  refine x_newa (t := 1) (len := 6) .long d_B_init_167 ac_long (by decide) rfl (by decide) (by decide) (by decide) rfl ⟨(hF 57 (by decide)).1, (hF 57 (by decide)).2.1⟩ (by decide) (by decide) ?_
  refine x_putF 11 30 d_B_init_169 rfl pf_11_77 rfl rfl (by decide) (fun _ => ⟨rfl, rfl⟩) ?_
  refine x_aload_n 0 d_B_init_172 rfl ?_
  refine x_callV (q := 39) (ci := 11) (st := []) M_B_findAutomorphisms [] d_B_init_173 ml_11_80 cv_B_findAutomorphisms rfl rfl (by decide) rfl (by decide) ⟨by decide, by decide⟩ ⟨by decide, by decide⟩ (Runs_R (R2 := Rf 1) (by unfold RA_; decide +kernel) (Runs.mono (u_find (n := 7) (m := 1) (w := (upL (upI (upI (upI w 39 0 (nI 7)) 39 1 (nI 1)) 39 2 (nI 7)) 39 3 (1))) ⟨gok71, by rfl, by rfl, by rfl⟩ (fun w1 hch hAu => (⟨hch, hAu⟩ : ChI PAb (upL (upI (upI (upI w 39 0 (nI 7)) 39 1 (nI 1)) 39 2 (nI 7)) 39 3 (1)) w1 ∧ AuB (autL 7 1) w1))) (fun r N2 R2 w1 ⟨a1, a2, a3, a4⟩ => ?_)))
  subst a1
  subst a2
  subst a3
  show Ex M_B_init 176 [(0, .ref 39)] [] 58 (Rf 1) w1 _ _ Q
  exact x_vret d_B_init_176 rfl rfl (by decide) (h w1 a4.1 a4.2)
