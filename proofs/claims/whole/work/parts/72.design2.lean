theorem dv240 {s : Sg} (h : WF s) : (dv s 6).1 ≤ 240 := by
  have h1 := dv_len s 6
  have := h.1.2.2
  omega
theorem ds_or {n : Nat} (hn : n ≤ 240) (a : Int32) : decide (¬ a < 0 ∧ ¬ (nI n - 1) < a) = false ∨ ∃ j, j < n ∧ a = nI j := by
  cases h : decide (¬ a < 0 ∧ ¬ (nI n - 1) < a) with
  | false => exact Or.inl rfl
  | true =>
    refine Or.inr ?_
    by_cases h0 : n = 0
    · obtain ⟨p, q⟩ := of_decide_eq_true h
      exfalso
      rw [Int32.lt_iff_toInt_lt] at p q
      subst h0
      have e : (nI 0 - 1).toInt = -1 := by decide
      have e0 : (0 : Int32).toInt = 0 := by decide
      omega
    · rw [i1, pk_sub (by omega)] at h
      obtain ⟨j, _, hj, e⟩ := rng_of (lo := 0) (hi := n - 1) (by decide) (by omega) h
      exact ⟨j, by omega, e⟩
theorem ds_t {n j : Nat} (hn : n ≤ 240) (hj : j < n) : decide (¬ nI j < 0 ∧ ¬ (nI n - 1) < nI j) = true := by
  rw [i1, pk_sub (by omega)]
  exact rng_t (lo := 0) (Nat.zero_le j) (by omega) (by omega)
theorem dA {w0 w : Wd} (m : Mo [19, 20] [] w0 w) : Mo allA [] w0 w := m.mono (by decide) (fun _ c => absurd c List.not_mem_nil)
theorem dB {w0 w : Wd} (m : Mo [52] [23] w0 w) : Mo allB [] w0 w := m.mono (by decide) (fun _ _ => Or.inr (by decide))
theorem op_designBlock : Op_designBlock INV := by
  rintro a1 w ⟨s, hs⟩
  have hC := hs.2.1
  have h240 := dv240 hs.1
  rcases ds_or h240 a1 with h1 | ⟨j, hj, rfl⟩
  · refine glueL (val := -1) (nx := s) hs (r_A_designBlock (t_develop hs.1 hC (fun w2 h2 m2 d2 => ?_))) (fun w1 hM => r_B_designBlock (u_develop hs.1 hM (fun w2 h2 m2 d2 => ?_))) hs.1
    · rw [d2.1]
      refine t_within ?_
      rw [h1]
      exact zf' ⟨rfl, h2, dA m2⟩
    · rw [d2.1]
      refine u_in (lo := 0) rfl rfl rfl ?_
      rw [h1]
      exact zf ⟨rfl, h2, dB m2⟩
  · refine glueL (val := lN ((dv s 6).2 j)) (nx := s) hs (r_A_designBlock (t_develop hs.1 hC (fun w2 h2 m2 d2 => ?_))) (fun w1 hM => r_B_designBlock (u_develop hs.1 hM (fun w2 h2 m2 d2 => ?_))) hs.1
    · rw [d2.1]
      refine t_within ?_
      rw [ds_t h240 hj, nI_clamp (by omega)]
      exact zt' ⟨vp_in_nI (by omega) (by decide), d2.2 j hj, h2, dA m2⟩
    · rw [d2.1]
      refine u_in (lo := 0) rfl rfl rfl ?_
      rw [ds_t h240 hj, nI_clamp (by omega)]
      exact zt ⟨vp_in_nI (by omega) (by decide), d2.2 j hj, h2, dB m2⟩
theorem ct_s (P : Nat → Prop) [DecidablePred P] (k : Nat) : fb_ct (fun i => decide (P i)) (k + 1) = fb_ct (fun i => decide (P i)) k + (if P k then 1 else 0) := by
  rw [fb_ct_succ]
  congr 1
  by_cases h : P k
  · rw [if_pos h, if_pos (decide_eq_true h)]
  · rw [if_neg h, if_neg (by simpa using h)]
theorem t_blocksWith {L : Dl} {Y : Nat} {w : Wd} {K : Int32 → Wd → Prop} (hL : dW L w) (h240 : L.1 ≤ 240) (hlt : ∀ i, L.2 i < 2 ^ 40) (hY : Y < 2 ^ 40) (h : K (nI (fb_ct (fun i => decide (L.2 i &&& Y = Y)) L.1)) w) : RunI 1 M_D_blocksWith [.ref 19, .long (lN Y)] w K := by
  have key : ∀ j i, i + j = L.1 → E 1 M_D_blocksWith 5 [(0, .ref 19), (1, .long (lN Y)), (3, .int (nI (fb_ct (fun i => decide (L.2 i &&& Y = Y)) i))), (4, .int (nI i))] [] w (qI 1 K) := by
    intro j
    induction j with
    | zero =>
      intro i hi
      refine w_D_blocksWith_5 ?_
      rw [hL.1]
      refine pk_le L.1 i (fun _ => ?_) (fun c => by omega)
      rw [show i = L.1 by omega]
      exact h
    | succ j ih =>
      intro i hi
      have ih1 := ih (i + 1) (by omega)
      rw [ct_s (fun i => L.2 i &&& Y = Y)] at ih1
      have hl := hlt i
      have : L.2 i &&& Y ≤ L.2 i := Nat.and_le_left
      refine w_D_blocksWith_5 ?_
      rw [hL.1, nI_clamp (by omega), hL.2 i (by omega), fb_andL, fb_lN_inj (by omega) (by omega)]
      refine pk_le L.1 i (fun c => by omega) (fun _ => ⟨vp_in_nI (by omega) (by decide), fun c a1 e1 => ?_, fun c a2 e2 a3 e3 => ?_⟩)
      · rw [i1, nI_add] at e1
        subst e1
        rw [if_neg c, Nat.add_zero] at ih1
        exact ih1
      · rw [i1, nI_add] at e2 e3
        subst e2
        subst e3
        rw [if_pos c] at ih1
        exact ih1
  exact r_D_blocksWith (key L.1 0 (by omega))
theorem has_and {A x : Nat} : A &&& 2 ^ x = 2 ^ x ↔ A.testBit x = true := by
  constructor
  · intro h
    have := congrArg (fun t => t.testBit x) h
    simp only [Nat.testBit_and, Nat.testBit_two_pow, decide_true, Bool.and_true] at this
    exact this
  · intro h
    apply Nat.eq_of_testBit_eq
    intro i
    rw [Nat.testBit_and, Nat.testBit_two_pow]
    by_cases e : x = i
    · subst e
      rw [h, decide_eq_true rfl]
      rfl
    · rw [decide_eq_false e, Bool.and_false]
theorem has_and2 {A x y : Nat} : A &&& (2 ^ x ||| 2 ^ y) = (2 ^ x ||| 2 ^ y) ↔ (A.testBit x = true ∧ A.testBit y = true) := by
  constructor
  · intro h
    refine ⟨?_, ?_⟩
    · have := congrArg (fun t => t.testBit x) h
      simp only [Nat.testBit_and, Nat.testBit_or, Nat.testBit_two_pow, decide_true, Bool.true_or, Bool.and_true] at this
      exact this
    · have := congrArg (fun t => t.testBit y) h
      simp only [Nat.testBit_and, Nat.testBit_or, Nat.testBit_two_pow, decide_true, Bool.or_true, Bool.and_true] at this
      exact this
  · rintro ⟨h1, h2⟩
    apply Nat.eq_of_testBit_eq
    intro i
    rw [Nat.testBit_and, Nat.testBit_or, Nat.testBit_two_pow, Nat.testBit_two_pow]
    by_cases e : x = i
    · subst e
      rw [h1, decide_eq_true rfl]
      rfl
    · by_cases e2 : y = i
      · subst e2
        rw [h2, decide_eq_true rfl, Bool.or_true]
        rfl
      · rw [decide_eq_false e, decide_eq_false e2, Bool.or_false, Bool.and_false]
theorem dv40 {s : Sg} (h : WF s) (i : Nat) : (dv s 6).2 i < 2 ^ 40 := Nat.lt_of_lt_of_le (dv_lt h.1 6 i) (pow40 h.1.2.2)
theorem op_replication : Op_replication INV := by
  rintro a1 w ⟨s, hs⟩
  have hC := hs.2.1
  have ok := hs.1.1
  have hv := ok.2.2
  have h240 := dv240 hs.1
  rcases el_or ok a1 with h1 | ⟨x, hx, rfl⟩
  · exact glueI (val := -1) (nx := s) hs (r_A_replication (t_elF hC.1.1 h1 (zf' (sameA hC)))) (fun w1 hM => r_B_replication (u_elF hM.1.1 h1 (zf' (sameB hM)))) hs.1
  refine glueI (val := nI (fb_ct (fun i => decide ((dv s 6).2 i &&& 2 ^ x = 2 ^ x)) (dv s 6).1)) (nx := s) hs (r_A_replication (t_elT hC.1.1 hx (zt' (t_develop hs.1 hC (fun w2 h2 m2 d2 => ?_))))) (fun w1 hM => r_B_replication (u_elT hM.1.1 hx (zt' (u_develop hs.1 hM (fun w2 h2 m2 d2 => ?_))))) hs.1
  · rw [l_pow (by omega)]
    exact t_blocksWith d2 h240 (dv40 hs.1) (Nat.pow_lt_pow_right (by decide) (by omega)) ⟨rfl, h2, dA m2⟩
  · have key : ∀ j i, i + j = (dv s 6).1 → E 1 M_B_replication 18 [(0, .ref 39), (1, .int (nI x)), (2, .int (nI (fb_ct (fun i => decide ((dv s 6).2 i &&& 2 ^ x = 2 ^ x)) i))), (3, .int (nI i))] [] w2 (qI 1 (fun r w3 => r = nI (fb_ct (fun i => decide ((dv s 6).2 i &&& 2 ^ x = 2 ^ x)) (dv s 6).1) ∧ MW s w3 ∧ Mo allB [] w1 w3)) := by
      intro j
      induction j with
      | zero =>
        intro i hi
        refine w_B_replication_18 ?_
        rw [d2.1]
        refine pk_le (dv s 6).1 i (fun _ => ?_) (fun c => by omega)
        rw [show i = (dv s 6).1 by omega]
        exact ⟨rfl, h2, dB m2⟩
      | succ j ih =>
        intro i hi
        have ih1 := ih (i + 1) (by omega)
        rw [ct_s (fun i => (dv s 6).2 i &&& 2 ^ x = 2 ^ x)] at ih1
        have hl := dv40 hs.1 i
        refine w_B_replication_18 ?_
        rw [d2.1, nI_clamp (by omega), d2.2 i (by omega)]
        refine pk_le (dv s 6).1 i (fun c => by omega) (fun _ => ⟨vp_in_nI (by omega) (by decide), u_has (by omega) (by omega) ⟨fun c a3 e3 a4 e4 => ?_, fun c a3 e3 a4 e4 => ?_⟩⟩)
        · rw [i0, nI_add, Nat.add_zero] at e3
          rw [i1, nI_add] at e4
          subst e3
          subst e4
          rw [if_neg (fun c2 => by rw [has_and.mp c2] at c; cases c), Nat.add_zero] at ih1
          exact ih1
        · rw [i1, nI_add] at e3 e4
          subst e3
          subst e4
          rw [if_pos (has_and.mpr c)] at ih1
          exact ih1
    exact key (dv s 6).1 0 (by omega)
theorem op_pairs : Op_pairs INV := by
  rintro a1 a2 w ⟨s, hs⟩
  have hC := hs.2.1
  have ok := hs.1.1
  have hv := ok.2.2
  have h240 := dv240 hs.1
  rcases el_or ok a1 with h1 | ⟨x, hx, rfl⟩
  · exact glueI (val := -1) (nx := s) hs (r_A_pairs (t_elF hC.1.1 h1 (zf (sameA hC)))) (fun w1 hM => r_B_pairs (u_elF hM.1.1 h1 (zf (sameB hM)))) hs.1
  rcases el_or ok a2 with h1 | ⟨y, hy, rfl⟩
  · exact glueI (val := -1) (nx := s) hs (r_A_pairs (t_elT hC.1.1 hx (zt (t_elF hC.1.1 h1 (zf (sameA hC)))))) (fun w1 hM => r_B_pairs (u_elT hM.1.1 hx (zt (u_elF hM.1.1 h1 (zf (sameB hM)))))) hs.1
  by_cases hxy : x = y
  · subst hxy
    exact glueI (val := -1) (nx := s) hs (r_A_pairs (t_elT hC.1.1 hx (zt (t_elT hC.1.1 hx (zt ⟨fun c => absurd rfl c, fun _ => sameA hC⟩))))) (fun w1 hM => r_B_pairs (u_elT hM.1.1 hx (zt (u_elT hM.1.1 hx (zt ⟨fun c => absurd rfl c, fun _ => sameB hM⟩))))) hs.1
  have hne : ¬ nI x = nI y := fun c => hxy (nI_inj (by omega) (by omega) c)
  refine glueI (val := nI (fb_ct (fun i => decide ((dv s 6).2 i &&& (2 ^ x ||| 2 ^ y) = (2 ^ x ||| 2 ^ y))) (dv s 6).1)) (nx := s) hs (r_A_pairs (t_elT hC.1.1 hx (zt (t_elT hC.1.1 hy (zt ⟨fun _ => t_develop hs.1 hC (fun w2 h2 m2 d2 => ?_), fun c => absurd c hne⟩))))) (fun w1 hM => r_B_pairs (u_elT hM.1.1 hx (zt (u_elT hM.1.1 hy (zt ⟨fun _ => u_develop hs.1 hM (fun w2 h2 m2 d2 => ?_), fun c => absurd c hne⟩))))) hs.1
  · rw [l_pow (by omega), l_pow (by omega), fb_orL]
    exact t_blocksWith d2 h240 (dv40 hs.1) (Nat.or_lt_two_pow (Nat.pow_lt_pow_right (by decide) (by omega)) (Nat.pow_lt_pow_right (by decide) (by omega))) ⟨rfl, h2, dA m2⟩
  · have key : ∀ j i, i + j = (dv s 6).1 → E 1 M_B_pairs 32 [(0, .ref 39), (1, .int (nI x)), (2, .int (nI y)), (3, .int (nI (fb_ct (fun i => decide ((dv s 6).2 i &&& (2 ^ x ||| 2 ^ y) = (2 ^ x ||| 2 ^ y))) i))), (4, .int (nI i))] [] w2 (qI 1 (fun r w3 => r = nI (fb_ct (fun i => decide ((dv s 6).2 i &&& (2 ^ x ||| 2 ^ y) = (2 ^ x ||| 2 ^ y))) (dv s 6).1) ∧ MW s w3 ∧ Mo allB [] w1 w3)) := by
      intro j
      induction j with
      | zero =>
        intro i hi
        refine w_B_pairs_32 ?_
        rw [d2.1]
        refine pk_le (dv s 6).1 i (fun _ => ?_) (fun c => by omega)
        rw [show i = (dv s 6).1 by omega]
        exact ⟨rfl, h2, dB m2⟩
      | succ j ih =>
        intro i hi
        have ih1 := ih (i + 1) (by omega)
        rw [ct_s (fun i => (dv s 6).2 i &&& (2 ^ x ||| 2 ^ y) = (2 ^ x ||| 2 ^ y))] at ih1
        have hl := dv40 hs.1 i
        refine w_B_pairs_32 ?_
        rw [d2.1, nI_clamp (by omega), d2.2 i (by omega)]
        refine pk_le (dv s 6).1 i (fun c => by omega) (fun _ => ⟨vp_in_nI (by omega) (by decide), u_has (by omega) (by omega) ⟨fun c a3 e3 a4 e4 => ?_, fun c => ⟨vp_in_nI (by omega) (by decide), ?_⟩⟩⟩)
        · rw [i0, nI_add, Nat.add_zero] at e3
          rw [i1, nI_add] at e4
          subst e3
          subst e4
          rw [if_neg (fun c2 => by rw [(has_and2.mp c2).1] at c; cases c), Nat.add_zero] at ih1
          exact ih1
        · rw [d2.2 i (by omega)]
          refine u_has (by omega) (by omega) ⟨fun c2 a3 e3 a4 e4 => ?_, fun c2 a3 e3 a4 e4 => ?_⟩
          · rw [i0, nI_add, Nat.add_zero] at e3
            rw [i1, nI_add] at e4
            subst e3
            subst e4
            rw [if_neg (fun c3 => by rw [(has_and2.mp c3).2] at c2; cases c2), Nat.add_zero] at ih1
            exact ih1
          · rw [i1, nI_add] at e3 e4
            subst e3
            subst e4
            rw [if_pos (has_and2.mpr ⟨c, c2⟩)] at ih1
            exact ih1
    exact key (dv s 6).1 0 (by omega)
