/-- places that nothing stands at yet -/
def Fresh (N : Nat) (R : RefT) (w : Wd) : Prop := ∀ q, N ≤ q → (∀ j, w.1 q j = 0) ∧ (∀ j, w.2 q j = 0) ∧ ∀ j, R q j = none
theorem Fresh.up {N : Nat} {R : RefT} {w : Wd} (h : Fresh N R w) {p k x : Nat} (hp : p < N) : Fresh N (upR R p k x) w := fun q hq => ⟨(h q hq).1, (h q hq).2.1, fun j => by
  show (if q = p ∧ j = k then some x else R q j) = none
  rw [if_neg (fun c => by omega)]
  exact (h q hq).2.2 j⟩
theorem Fresh.mono {N N2 : Nat} {R : RefT} {w : Wd} (h : Fresh N R w) (hN : N ≤ N2) : Fresh N2 R w := fun q hq => h q (Nat.le_trans hN hq)
theorem nfl_le (ci : Nat) : nfl ci ≤ 32 := by
  by_cases h : ci < 12
  · exact (by decide : ∀ ci < 12, nfl ci ≤ 32) ci h
  · have e : nfl ci = 0 := by
      unfold nfl
      rw [List.getD_eq_getElem?_getD, List.getElem?_eq_none (by show 12 ≤ ci; omega)]
      rfl
    omega
/-- only the references of cells that stand count -/
def RA_ (N : Nat) (R R2 : RefT) : Prop := ∀ p, p < N → ∀ k, k < 32 → R p k = R2 p k
theorem wsB_R {cA : Nat → ClassId} {b N : Nat} {R R2 : RefT} {w : Wd} (h : RA_ N R R2) : wsB cA b N R w = wsB cA b N R2 w := by
  unfold wsB
  refine List.map_congr_left (fun p hp => ?_)
  have hp2 := h p (List.mem_range.mp hp)
  have e : celB cA b R w p = celB cA b R2 w p := by
    unfold celB
    cases kd p with
    | inl q => rfl
    | inr ci =>
      show Sum.inr (ci, fsB b R w p ci) = Sum.inr (ci, fsB b R2 w p ci)
      have e2 : fsB b R w p ci = fsB b R2 w p ci := by
        unfold fsB
        refine List.map_congr_left (fun k hk => ?_)
        have hk2 := List.mem_range.mp hk
        unfold fvB
        rw [hp2 k (Nat.lt_of_lt_of_le hk2 (nfl_le ci))]
      rw [e2]
  rw [e]
theorem Ex_R {M : MI} {pc : Nat} {L : List (Nat × Value)} {st : List Value} {N : Nat} {R R2 : RefT} {w : Wd} {k n : Nat} {Q : QT} (hR : RA_ N R R2) (h : Ex M pc L st N R2 w k n Q) : Ex M pc L st N R w k n Q := by
  intro p l e s m args below meth c D cA b H locs ls F hP hS hl
  rw [wsB_R hR] at hP
  exact h p l e s m args below meth c D cA b H locs ls F hP hS hl
theorem Runs_R {M : MI} {as : List Value} {N : Nat} {R R2 : RefT} {w : Wd} {Q : QT} (hR : RA_ N R R2) (h : Runs M as N R2 w Q) : Runs M as N R w Q := by
  intro l D cA b
  have e : HL D cA b N R w = HL D cA b N R2 w := by
    funext U
    unfold HL
    rw [wsB_R hR]
  rw [e]
  exact h l D cA b
theorem c_G {R : RefT} {w : Wd} {Q : QT} (hF : Fresh 2 R w) (h : Q none 8 (upR (upR (upR (upR (upR (upR R 1 6 2) 1 7 3) 1 8 4) 1 9 5) 1 10 6) 1 11 7) w) : Runs M_G_init [.ref 1] 2 R w Q := by
  refine runs_of (L := [(0, .ref 1)]) rfl (Nat.le_of_ble_eq_true rfl) rfl ?_
  refine x_aload_n 0 d_G_init_0 rfl ?_
  refine x_obj d_G_init_1 ob_G_init (by decide) ⟨by decide, by decide⟩ ?_
  refine x_aload_n 0 d_G_init_4 rfl ?_
  refine x_bipush (v := 40) d_G_init_5 (by decide) ?_
  refine x_newa (t := 0) (len := 40) .int d_G_init_7 ac_int (by decide) rfl (by decide) (by decide) (by decide) rfl ⟨(hF 2 (by decide)).1, (hF 2 (by decide)).2.1⟩ (by decide) (by decide) ?_
  refine x_putF 5 6 d_G_init_9 rfl pf_5_9 rfl rfl (by decide) (fun _ => ⟨rfl, rfl⟩) ?_
  refine x_aload_n 0 d_G_init_12 rfl ?_
  refine x_bipush (v := 40) d_G_init_13 (by decide) ?_
  refine x_newa (t := 0) (len := 40) .int d_G_init_15 ac_int (by decide) rfl (by decide) (by decide) (by decide) rfl ⟨(hF 3 (by decide)).1, (hF 3 (by decide)).2.1⟩ (by decide) (by decide) ?_
  refine x_putF 5 7 d_G_init_17 rfl pf_5_15 rfl rfl (by decide) (fun _ => ⟨rfl, rfl⟩) ?_
  refine x_aload_n 0 d_G_init_20 rfl ?_
  refine x_bipush (v := 40) d_G_init_21 (by decide) ?_
  refine x_newa (t := 0) (len := 40) .int d_G_init_23 ac_int (by decide) rfl (by decide) (by decide) (by decide) rfl ⟨(hF 4 (by decide)).1, (hF 4 (by decide)).2.1⟩ (by decide) (by decide) ?_
  refine x_putF 5 8 d_G_init_25 rfl pf_5_18 rfl rfl (by decide) (fun _ => ⟨rfl, rfl⟩) ?_
  refine x_aload_n 0 d_G_init_28 rfl ?_
  refine x_bipush (v := 40) d_G_init_29 (by decide) ?_
  refine x_newa (t := 0) (len := 40) .int d_G_init_31 ac_int (by decide) rfl (by decide) (by decide) (by decide) rfl ⟨(hF 5 (by decide)).1, (hF 5 (by decide)).2.1⟩ (by decide) (by decide) ?_
  refine x_putF 5 9 d_G_init_33 rfl pf_5_21 rfl rfl (by decide) (fun _ => ⟨rfl, rfl⟩) ?_
  refine x_aload_n 0 d_G_init_36 rfl ?_
  refine x_sipush (v := 480) d_G_init_37 (by decide) ?_
  refine x_newa (t := 0) (len := 480) .int d_G_init_40 ac_int (by decide) rfl (by decide) (by decide) (by decide) rfl ⟨(hF 6 (by decide)).1, (hF 6 (by decide)).2.1⟩ (by decide) (by decide) ?_
  refine x_putF 5 10 d_G_init_42 rfl pf_5_24 rfl rfl (by decide) (fun _ => ⟨rfl, rfl⟩) ?_
  refine x_aload_n 0 d_G_init_45 rfl ?_
  refine x_sipush (v := 480) d_G_init_46 (by decide) ?_
  refine x_newa (t := 0) (len := 480) .int d_G_init_49 ac_int (by decide) rfl (by decide) (by decide) (by decide) rfl ⟨(hF 7 (by decide)).1, (hF 7 (by decide)).2.1⟩ (by decide) (by decide) ?_
  refine x_putF 5 11 d_G_init_51 rfl pf_5_27 rfl rfl (by decide) (fun _ => ⟨rfl, rfl⟩) ?_
  exact x_vret d_G_init_54 rfl rfl (by decide) h
theorem c_F {R : RefT} {w : Wd} {Q : QT} (hF : Fresh 9 R w) (h : Q none 10 (upR (upR R 8 1 9) 8 0 1) w) : Runs M_F_init [.ref 8, .ref 1] 9 R w Q := by
  refine runs_of (L := [(0, .ref 8), (1, .ref 1)]) rfl (Nat.le_of_ble_eq_true rfl) rfl ?_
  refine x_aload_n 0 d_F_init_0 rfl ?_
  refine x_obj d_F_init_1 ob_F_init (by decide) ⟨by decide, by decide⟩ ?_
  refine x_aload_n 0 d_F_init_4 rfl ?_
  refine x_bipush (v := 40) d_F_init_5 (by decide) ?_
  refine x_newa (t := 0) (len := 40) .int d_F_init_7 ac_int (by decide) rfl (by decide) (by decide) (by decide) rfl ⟨(hF 9 (by decide)).1, (hF 9 (by decide)).2.1⟩ (by decide) (by decide) ?_
  refine x_putF 1 1 d_F_init_9 rfl pf_1_9 rfl rfl (by decide) (fun _ => ⟨rfl, rfl⟩) ?_
  refine x_aload_n 0 d_F_init_12 rfl ?_
  refine x_aload_n 1 d_F_init_13 rfl ?_
  refine x_putF 1 0 d_F_init_14 rfl pf_1_15 rfl rfl (by decide) (fun _ => ⟨rfl, rfl⟩) ?_
  exact x_vret d_F_init_17 rfl rfl (by decide) h
theorem c_H {R : RefT} {w : Wd} {Q : QT} (hF : Fresh 12 R w) (h : Q none 13 (upR R 11 0 12) w) : Runs M_H_init [.ref 11] 12 R w Q := by
  refine runs_of (L := [(0, .ref 11)]) rfl (Nat.le_of_ble_eq_true rfl) rfl ?_
  refine x_aload_n 0 d_H_init_0 rfl ?_
  refine x_obj d_H_init_1 ob_H_init (by decide) ⟨by decide, by decide⟩ ?_
  refine x_aload_n 0 d_H_init_4 rfl ?_
  refine x_bipush (v := 30) d_H_init_5 (by decide) ?_
  refine x_newa (t := 1) (len := 30) .long d_H_init_7 ac_long (by decide) rfl (by decide) (by decide) (by decide) rfl ⟨(hF 12 (by decide)).1, (hF 12 (by decide)).2.1⟩ (by decide) (by decide) ?_
  refine x_putF 6 0 d_H_init_9 rfl pf_6_11 rfl rfl (by decide) (fun _ => ⟨rfl, rfl⟩) ?_
  exact x_vret d_H_init_12 rfl rfl (by decide) h
theorem c_X {R : RefT} {w : Wd} {Q : QT} (hF : Fresh 14 R w) (h : Q none 14 (upR (upR R 13 0 1) 13 1 8) w) : Runs M_X_init [.ref 13, .ref 1, .ref 8] 14 R w Q := by
  refine runs_of (L := [(0, .ref 13), (1, .ref 1), (2, .ref 8)]) rfl (Nat.le_of_ble_eq_true rfl) rfl ?_
  refine x_aload_n 0 d_X_init_0 rfl ?_
  refine x_obj d_X_init_1 ob_X_init (by decide) ⟨by decide, by decide⟩ ?_
  refine x_aload_n 0 d_X_init_4 rfl ?_
  refine x_aload_n 1 d_X_init_5 rfl ?_
  refine x_putF 3 0 d_X_init_6 rfl pf_3_9 rfl rfl (by decide) (fun _ => ⟨rfl, rfl⟩) ?_
  refine x_aload_n 0 d_X_init_9 rfl ?_
  refine x_aload_n 2 d_X_init_10 rfl ?_
  refine x_putF 3 1 d_X_init_11 rfl pf_3_15 rfl rfl (by decide) (fun _ => ⟨rfl, rfl⟩) ?_
  exact x_vret d_X_init_14 rfl rfl (by decide) h
theorem c_K {R : RefT} {w : Wd} {Q : QT} (hF : Fresh 15 R w) (h : Q none 19 (upR (upR (upR (upR (upR R 14 1 15) 14 2 16) 14 3 17) 14 4 18) 14 0 1) w) : Runs M_K_init [.ref 14, .ref 1] 15 R w Q := by
  refine runs_of (L := [(0, .ref 14), (1, .ref 1)]) rfl (Nat.le_of_ble_eq_true rfl) rfl ?_
  refine x_aload_n 0 d_K_init_0 rfl ?_
  refine x_obj d_K_init_1 ob_K_init (by decide) ⟨by decide, by decide⟩ ?_
  refine x_aload_n 0 d_K_init_4 rfl ?_
  refine x_bipush (v := 40) d_K_init_5 (by decide) ?_
  refine x_newa (t := 0) (len := 40) .int d_K_init_7 ac_int (by decide) rfl (by decide) (by decide) (by decide) rfl ⟨(hF 15 (by decide)).1, (hF 15 (by decide)).2.1⟩ (by decide) (by decide) ?_
  refine x_putF 7 1 d_K_init_9 rfl pf_7_9 rfl rfl (by decide) (fun _ => ⟨rfl, rfl⟩) ?_
  refine x_aload_n 0 d_K_init_12 rfl ?_
  refine x_bipush (v := 6) d_K_init_13 (by decide) ?_
  refine x_newa (t := 1) (len := 6) .long d_K_init_15 ac_long (by decide) rfl (by decide) (by decide) (by decide) rfl ⟨(hF 16 (by decide)).1, (hF 16 (by decide)).2.1⟩ (by decide) (by decide) ?_
  refine x_putF 7 2 d_K_init_17 rfl pf_7_15 rfl rfl (by decide) (fun _ => ⟨rfl, rfl⟩) ?_
  refine x_aload_n 0 d_K_init_20 rfl ?_
  refine x_bipush (v := 6) d_K_init_21 (by decide) ?_
  refine x_newa (t := 1) (len := 6) .long d_K_init_23 ac_long (by decide) rfl (by decide) (by decide) (by decide) rfl ⟨(hF 17 (by decide)).1, (hF 17 (by decide)).2.1⟩ (by decide) (by decide) ?_
  refine x_putF 7 3 d_K_init_25 rfl pf_7_19 rfl rfl (by decide) (fun _ => ⟨rfl, rfl⟩) ?_
  refine x_aload_n 0 d_K_init_28 rfl ?_
  refine x_bipush (v := 6) d_K_init_29 (by decide) ?_
  refine x_newa (t := 1) (len := 6) .long d_K_init_31 ac_long (by decide) rfl (by decide) (by decide) (by decide) rfl ⟨(hF 18 (by decide)).1, (hF 18 (by decide)).2.1⟩ (by decide) (by decide) ?_
  refine x_putF 7 4 d_K_init_33 rfl pf_7_22 rfl rfl (by decide) (fun _ => ⟨rfl, rfl⟩) ?_
  refine x_aload_n 0 d_K_init_36 rfl ?_
  refine x_aload_n 1 d_K_init_37 rfl ?_
  refine x_putF 7 0 d_K_init_38 rfl pf_7_25 rfl rfl (by decide) (fun _ => ⟨rfl, rfl⟩) ?_
  exact x_vret d_K_init_41 rfl rfl (by decide) h
theorem c_D {R : RefT} {w : Wd} {Q : QT} (hF : Fresh 20 R w) (h : Q none 21 (upR (upR R 19 1 20) 19 0 1) w) : Runs M_D_init [.ref 19, .ref 1] 20 R w Q := by
  refine runs_of (L := [(0, .ref 19), (1, .ref 1)]) rfl (Nat.le_of_ble_eq_true rfl) rfl ?_
  refine x_aload_n 0 d_D_init_0 rfl ?_
  refine x_obj d_D_init_1 ob_D_init (by decide) ⟨by decide, by decide⟩ ?_
  refine x_aload_n 0 d_D_init_4 rfl ?_
  refine x_sipush (v := 240) d_D_init_5 (by decide) ?_
  refine x_newa (t := 1) (len := 240) .long d_D_init_8 ac_long (by decide) rfl (by decide) (by decide) (by decide) rfl ⟨(hF 20 (by decide)).1, (hF 20 (by decide)).2.1⟩ (by decide) (by decide) ?_
  refine x_putF 0 1 d_D_init_10 rfl pf_0_9 rfl rfl (by decide) (fun _ => ⟨rfl, rfl⟩) ?_
  refine x_aload_n 0 d_D_init_13 rfl ?_
  refine x_aload_n 1 d_D_init_14 rfl ?_
  refine x_putF 0 0 d_D_init_15 rfl pf_0_15 rfl rfl (by decide) (fun _ => ⟨rfl, rfl⟩) ?_
  exact x_vret d_D_init_18 rfl rfl (by decide) h
theorem c_E {R : RefT} {w : Wd} {Q : QT} (hF : Fresh 22 R w) (h : Q none 24 (upR (upR (upR R 21 1 22) 21 2 23) 21 0 1) w) : Runs M_E_init [.ref 21, .ref 1] 22 R w Q := by
  refine runs_of (L := [(0, .ref 21), (1, .ref 1)]) rfl (Nat.le_of_ble_eq_true rfl) rfl ?_
  refine x_aload_n 0 d_E_init_0 rfl ?_
  refine x_obj d_E_init_1 ob_E_init (by decide) ⟨by decide, by decide⟩ ?_
  refine x_aload_n 0 d_E_init_4 rfl ?_
  refine x_bipush (v := 40) d_E_init_5 (by decide) ?_
  refine x_newa (t := 0) (len := 40) .int d_E_init_7 ac_int (by decide) rfl (by decide) (by decide) (by decide) rfl ⟨(hF 22 (by decide)).1, (hF 22 (by decide)).2.1⟩ (by decide) (by decide) ?_
  refine x_putF 2 1 d_E_init_9 rfl pf_2_9 rfl rfl (by decide) (fun _ => ⟨rfl, rfl⟩) ?_
  refine x_aload_n 0 d_E_init_12 rfl ?_
  refine x_sipush (v := 1600) d_E_init_13 (by decide) ?_
  refine x_newa (t := 0) (len := 1600) .int d_E_init_16 ac_int (by decide) rfl (by decide) (by decide) (by decide) rfl ⟨(hF 23 (by decide)).1, (hF 23 (by decide)).2.1⟩ (by decide) (by decide) ?_
  refine x_putF 2 2 d_E_init_18 rfl pf_2_15 rfl rfl (by decide) (fun _ => ⟨rfl, rfl⟩) ?_
  refine x_aload_n 0 d_E_init_21 rfl ?_
  refine x_aload_n 1 d_E_init_22 rfl ?_
  refine x_putF 2 0 d_E_init_23 rfl pf_2_18 rfl rfl (by decide) (fun _ => ⟨rfl, rfl⟩) ?_
  exact x_vret d_E_init_26 rfl rfl (by decide) h
theorem c_N {R : RefT} {w : Wd} {Q : QT} (hF : Fresh 25 R w) (h : Q none 32 (upR (upR (upR (upR (upR (upR (upR (upR R 24 1 25) 24 2 26) 24 3 27) 24 4 28) 24 5 29) 24 6 30) 24 7 31) 24 0 1) w) : Runs M_N_init [.ref 24, .ref 1] 25 R w Q := by
  refine runs_of (L := [(0, .ref 24), (1, .ref 1)]) rfl (Nat.le_of_ble_eq_true rfl) rfl ?_
  refine x_aload_n 0 d_N_init_0 rfl ?_
  refine x_obj d_N_init_1 ob_N_init (by decide) ⟨by decide, by decide⟩ ?_
  refine x_aload_n 0 d_N_init_4 rfl ?_
  refine x_sipush (v := 2130) d_N_init_5 (by decide) ?_
  refine x_newa (t := 1) (len := 2130) .long d_N_init_8 ac_long (by decide) rfl (by decide) (by decide) (by decide) rfl ⟨(hF 25 (by decide)).1, (hF 25 (by decide)).2.1⟩ (by decide) (by decide) ?_
  refine x_putF 4 1 d_N_init_10 rfl pf_4_11 rfl rfl (by decide) (fun _ => ⟨rfl, rfl⟩) ?_
  refine x_aload_n 0 d_N_init_13 rfl ?_
  refine x_bipush (v := 40) d_N_init_14 (by decide) ?_
  refine x_newa (t := 0) (len := 40) .int d_N_init_16 ac_int (by decide) rfl (by decide) (by decide) (by decide) rfl ⟨(hF 26 (by decide)).1, (hF 26 (by decide)).2.1⟩ (by decide) (by decide) ?_
  refine x_putF 4 2 d_N_init_18 rfl pf_4_15 rfl rfl (by decide) (fun _ => ⟨rfl, rfl⟩) ?_
  refine x_aload_n 0 d_N_init_21 rfl ?_
  refine x_bipush (v := 40) d_N_init_22 (by decide) ?_
  refine x_newa (t := 0) (len := 40) .int d_N_init_24 ac_int (by decide) rfl (by decide) (by decide) (by decide) rfl ⟨(hF 27 (by decide)).1, (hF 27 (by decide)).2.1⟩ (by decide) (by decide) ?_
  refine x_putF 4 3 d_N_init_26 rfl pf_4_19 rfl rfl (by decide) (fun _ => ⟨rfl, rfl⟩) ?_
  refine x_aload_n 0 d_N_init_29 rfl ?_
  refine x_sipush (v := 200) d_N_init_30 (by decide) ?_
  refine x_newa (t := 0) (len := 200) .int d_N_init_33 ac_int (by decide) rfl (by decide) (by decide) (by decide) rfl ⟨(hF 28 (by decide)).1, (hF 28 (by decide)).2.1⟩ (by decide) (by decide) ?_
  refine x_putF 4 4 d_N_init_35 rfl pf_4_22 rfl rfl (by decide) (fun _ => ⟨rfl, rfl⟩) ?_
  refine x_aload_n 0 d_N_init_38 rfl ?_
  refine x_iconst (v := 4) d_N_init_39 (by decide) ?_
  refine x_newa (t := 0) (len := 4) .int d_N_init_40 ac_int (by decide) rfl (by decide) (by decide) (by decide) rfl ⟨(hF 29 (by decide)).1, (hF 29 (by decide)).2.1⟩ (by decide) (by decide) ?_
  refine x_putF 4 5 d_N_init_42 rfl pf_4_25 rfl rfl (by decide) (fun _ => ⟨rfl, rfl⟩) ?_
  refine x_aload_n 0 d_N_init_45 rfl ?_
  refine x_iconst (v := 4) d_N_init_46 (by decide) ?_
  refine x_newa (t := 1) (len := 4) .long d_N_init_47 ac_long (by decide) rfl (by decide) (by decide) (by decide) rfl ⟨(hF 30 (by decide)).1, (hF 30 (by decide)).2.1⟩ (by decide) (by decide) ?_
  refine x_putF 4 6 d_N_init_49 rfl pf_4_28 rfl rfl (by decide) (fun _ => ⟨rfl, rfl⟩) ?_
  refine x_aload_n 0 d_N_init_52 rfl ?_
  refine x_bipush (v := 6) d_N_init_53 (by decide) ?_
  refine x_newa (t := 1) (len := 6) .long d_N_init_55 ac_long (by decide) rfl (by decide) (by decide) (by decide) rfl ⟨(hF 31 (by decide)).1, (hF 31 (by decide)).2.1⟩ (by decide) (by decide) ?_
  refine x_putF 4 7 d_N_init_57 rfl pf_4_31 rfl rfl (by decide) (fun _ => ⟨rfl, rfl⟩) ?_
  refine x_aload_n 0 d_N_init_60 rfl ?_
  refine x_aload_n 1 d_N_init_61 rfl ?_
  refine x_putF 4 0 d_N_init_62 rfl pf_4_34 rfl rfl (by decide) (fun _ => ⟨rfl, rfl⟩) ?_
  exact x_vret d_N_init_65 rfl rfl (by decide) h
theorem c_T {R : RefT} {w : Wd} {Q : QT} (hF : Fresh 33 R w) (h : Q none 35 (upR (upR (upR R 32 1 33) 32 2 34) 32 0 1) w) : Runs M_T_init [.ref 32, .ref 1] 33 R w Q := by
  refine runs_of (L := [(0, .ref 32), (1, .ref 1)]) rfl (Nat.le_of_ble_eq_true rfl) rfl ?_
  refine x_aload_n 0 d_T_init_0 rfl ?_
  refine x_obj d_T_init_1 ob_T_init (by decide) ⟨by decide, by decide⟩ ?_
  refine x_aload_n 0 d_T_init_4 rfl ?_
  refine x_sipush (v := 160) d_T_init_5 (by decide) ?_
  refine x_newa (t := 2) (len := 160) .char d_T_init_8 ac_char (by decide) rfl (by decide) (by decide) (by decide) rfl ⟨(hF 33 (by decide)).1, (hF 33 (by decide)).2.1⟩ (by decide) (by decide) ?_
  refine x_putF 9 1 d_T_init_10 rfl pf_9_11 rfl rfl (by decide) (fun _ => ⟨rfl, rfl⟩) ?_
  refine x_aload_n 0 d_T_init_13 rfl ?_
  refine x_bipush (v := 6) d_T_init_14 (by decide) ?_
  refine x_newa (t := 1) (len := 6) .long d_T_init_16 ac_long (by decide) rfl (by decide) (by decide) (by decide) rfl ⟨(hF 34 (by decide)).1, (hF 34 (by decide)).2.1⟩ (by decide) (by decide) ?_
  refine x_putF 9 2 d_T_init_18 rfl pf_9_15 rfl rfl (by decide) (fun _ => ⟨rfl, rfl⟩) ?_
  refine x_aload_n 0 d_T_init_21 rfl ?_
  refine x_aload_n 1 d_T_init_22 rfl ?_
  refine x_putF 9 0 d_T_init_23 rfl pf_9_19 rfl rfl (by decide) (fun _ => ⟨rfl, rfl⟩) ?_
  exact x_vret d_T_init_26 rfl rfl (by decide) h
theorem c_S1 {R : RefT} {w : Wd} {Q : QT} (hF : Fresh 36 R w) (h : Q none 37 (upR R 35 0 36) w) : Runs M_S_init [.ref 35] 36 R w Q := by
  refine runs_of (L := [(0, .ref 35)]) rfl (Nat.le_of_ble_eq_true rfl) rfl ?_
  refine x_aload_n 0 d_S_init_0 rfl ?_
  refine x_obj d_S_init_1 ob_S_init (by decide) ⟨by decide, by decide⟩ ?_
  refine x_aload_n 0 d_S_init_4 rfl ?_
  refine x_bipush (v := 6) d_S_init_5 (by decide) ?_
  refine x_newa (t := 1) (len := 6) .long d_S_init_7 ac_long (by decide) rfl (by decide) (by decide) (by decide) rfl ⟨(hF 36 (by decide)).1, (hF 36 (by decide)).2.1⟩ (by decide) (by decide) ?_
  refine x_putF 8 0 d_S_init_9 rfl pf_8_9 rfl rfl (by decide) (fun _ => ⟨rfl, rfl⟩) ?_
  exact x_vret d_S_init_12 rfl rfl (by decide) h
theorem c_S2 {R : RefT} {w : Wd} {Q : QT} (hF : Fresh 38 R w) (h : Q none 39 (upR R 37 0 38) w) : Runs M_S_init [.ref 37] 38 R w Q := by
  refine runs_of (L := [(0, .ref 37)]) rfl (Nat.le_of_ble_eq_true rfl) rfl ?_
  refine x_aload_n 0 d_S_init_0 rfl ?_
  refine x_obj d_S_init_1 ob_S_init (by decide) ⟨by decide, by decide⟩ ?_
  refine x_aload_n 0 d_S_init_4 rfl ?_
  refine x_bipush (v := 6) d_S_init_5 (by decide) ?_
  refine x_newa (t := 1) (len := 6) .long d_S_init_7 ac_long (by decide) rfl (by decide) (by decide) (by decide) rfl ⟨(hF 38 (by decide)).1, (hF 38 (by decide)).2.1⟩ (by decide) (by decide) ?_
  refine x_putF 8 0 d_S_init_9 rfl pf_8_9 rfl rfl (by decide) (fun _ => ⟨rfl, rfl⟩) ?_
  exact x_vret d_S_init_12 rfl rfl (by decide) h
