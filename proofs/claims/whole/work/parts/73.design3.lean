def itJ (L : Dl) (t i : Nat) : Nat → Nat := fb_ct (fun j => decide (pop (L.2 i &&& L.2 j) = t))
def itI (L : Dl) (t : Nat) : Nat → Nat
  | 0 => 0
  | i + 1 => itI L t i + itJ L t i i
theorem itJ_s (L : Dl) (t i j : Nat) : itJ L t i (j + 1) = itJ L t i j + (if pop (L.2 i &&& L.2 j) = t then 1 else 0) := ct_s (fun j => pop (L.2 i &&& L.2 j) = t) j
theorem op_intersections : Op_intersections INV := by
  rintro a1 w ⟨s, hs⟩
  have hC := hs.2.1
  have h240 := dv240 hs.1
  rcases rg_or 0 40 (by decide) (by decide) a1 with h1 | ⟨t, -, ht, rfl⟩
  · exact glueI (val := -1) (nx := s) hs (r_A_intersections (t_wiF rfl rfl h1 (zf' (sameA hC)))) (fun w1 hM => r_B_intersections (u_inF rfl rfl rfl h1 (zf' (sameB hM)))) hs.1
  have hlen : ∃ B, B = max 1 (dv s 6).1 ∧ 1 ≤ B ∧ (dv s 6).1 ≤ B ∧ B ≤ 240 ∧ (B = 1 ∨ B = (dv s 6).1) := ⟨_, rfl, by omega, by omega, by omega, by omega⟩
  obtain ⟨B, -, hB1, hB2, hB3, hB4⟩ := hlen
  refine glueI (val := nI (itI (dv s 6) t B)) (nx := s) hs (r_A_intersections (t_wiT rfl rfl (Nat.zero_le t) ht (by decide) (zt' (t_develop hs.1 hC (fun w2 h2 m2 d2 => r_D_meetingsIn ?_))))) (fun w1 hM => r_B_intersections (u_inT rfl rfl rfl (Nat.zero_le t) ht (by decide) (zt' (u_develop hs.1 hM (fun w2 h2 m2 d2 => ?_))))) hs.1
  · have key : ∀ j i, i + j = B → 1 ≤ i → E 1 M_D_meetingsIn 4 [(0, .ref 19), (1, .int (nI t)), (2, .int (nI (itI (dv s 6) t i))), (3, .int (nI i))] [] w2 (qI 1 (fun r w1 => r = nI (itI (dv s 6) t B) ∧ CW s w1 ∧ Mo allA [] w w1)) := by
      intro j
      induction j with
      | zero =>
        intro i hi h1
        refine w_D_meetingsIn_4 ?_
        rw [d2.1]
        refine pk_le (dv s 6).1 i (fun _ => ?_) (fun c => by omega)
        rw [show i = B by omega]
        exact ⟨rfl, h2, dA m2⟩
      | succ j ih =>
        intro i hi h1
        have hil : i < (dv s 6).1 := by omega
        refine w_D_meetingsIn_4 ?_
        rw [d2.1]
        refine pk_le (dv s 6).1 i (fun c => by omega) (fun _ => ?_)
        have inner : ∀ q p, p + q = i → E 1 M_D_meetingsIn 15 [(0, .ref 19), (1, .int (nI t)), (2, .int (nI (itI (dv s 6) t i + itJ (dv s 6) t i p))), (3, .int (nI i)), (4, .int (nI p))] [] w2 (qI 1 (fun r w1 => r = nI (itI (dv s 6) t B) ∧ CW s w1 ∧ Mo allA [] w w1)) := by
          intro q
          induction q with
          | zero =>
            intro p hp
            refine w_D_meetingsIn_15 (pk_le i p (fun _ a1 e1 => ?_) (fun c => by omega))
            rw [i1, nI_add] at e1
            subst e1
            rw [show p = i by omega]
            exact ih (i + 1) (by omega) (by omega)
          | succ q ihq =>
            intro p hp
            have ihq1 := ihq (p + 1) (by omega)
            rw [itJ_s, ← Nat.add_assoc] at ihq1
            have hl := dv40 hs.1 i
            have hand : (dv s 6).2 i &&& (dv s 6).2 p ≤ (dv s 6).2 i := Nat.and_le_left
            have hpl := pop_le ((dv s 6).2 i &&& (dv s 6).2 p)
            refine w_D_meetingsIn_15 (pk_le i p (fun c => by omega) (fun _ => ⟨vp_in_nI (by omega) (by decide), vp_in_nI (by omega) (by decide), ?_⟩))
            rw [nI_clamp (by omega), nI_clamp (by omega), d2.2 i hil, d2.2 p (by omega), fb_andL]
            refine t_bitCount (by omega) (and_comm.mp (pk_eq (pop ((dv s 6).2 i &&& (dv s 6).2 p)) t (fun c a2 e2 a3 e3 => ?_) (fun c a2 e2 => ?_)))
            · rw [i1, nI_add] at e2 e3
              subst e2
              subst e3
              rw [if_pos c] at ihq1
              exact ihq1
            · rw [i1, nI_add] at e2
              subst e2
              rw [if_neg c, Nat.add_zero] at ihq1
              exact ihq1
        exact inner i 0 (by omega)
    exact key (B - 1) 1 (by omega) (Nat.le_refl 1)
  · have key : ∀ j i, i + j = B → 1 ≤ i → E 1 M_B_intersections 22 [(0, .ref 39), (1, .int (nI t)), (2, .int (nI (itI (dv s 6) t i))), (3, .int (nI i))] [] w2 (qI 1 (fun r w3 => r = nI (itI (dv s 6) t B) ∧ MW s w3 ∧ Mo allB [] w1 w3)) := by
      intro j
      induction j with
      | zero =>
        intro i hi h1
        refine w_B_intersections_22 ?_
        rw [d2.1]
        refine pk_le (dv s 6).1 i (fun _ => ?_) (fun c => by omega)
        rw [show i = B by omega]
        exact ⟨rfl, h2, dB m2⟩
      | succ j ih =>
        intro i hi h1
        have hil : i < (dv s 6).1 := by omega
        refine w_B_intersections_22 ?_
        rw [d2.1]
        refine pk_le (dv s 6).1 i (fun c => by omega) (fun _ => ?_)
        have inner : ∀ q p, p + q = i → E 1 M_B_intersections 33 [(0, .ref 39), (1, .int (nI t)), (2, .int (nI (itI (dv s 6) t i + itJ (dv s 6) t i p))), (3, .int (nI i)), (4, .int (nI p))] [] w2 (qI 1 (fun r w3 => r = nI (itI (dv s 6) t B) ∧ MW s w3 ∧ Mo allB [] w1 w3)) := by
          intro q
          induction q with
          | zero =>
            intro p hp
            refine w_B_intersections_33 (pk_le i p (fun _ a1 e1 => ?_) (fun c => by omega))
            rw [i1, nI_add] at e1
            subst e1
            rw [show p = i by omega]
            exact ih (i + 1) (by omega) (by omega)
          | succ q ihq =>
            intro p hp
            have ihq1 := ihq (p + 1) (by omega)
            rw [itJ_s, ← Nat.add_assoc] at ihq1
            have hl := dv40 hs.1 i
            have hand : (dv s 6).2 i &&& (dv s 6).2 p ≤ (dv s 6).2 i := Nat.and_le_left
            have hpl := pop_le ((dv s 6).2 i &&& (dv s 6).2 p)
            refine w_B_intersections_33 (pk_le i p (fun c => by omega) (fun _ => ⟨vp_in_nI (by omega) (by decide), vp_in_nI (by omega) (by decide), ?_⟩))
            rw [nI_clamp (by omega), nI_clamp (by omega), d2.2 i hil, d2.2 p (by omega), fb_andL]
            refine u_size (by omega) (and_comm.mp (pk_eq (pop ((dv s 6).2 i &&& (dv s 6).2 p)) t (fun c a2 e2 a3 e3 => ?_) (fun c a2 e2 a3 e3 => ?_)))
            · rw [i1, nI_add] at e2 e3
              subst e2
              subst e3
              rw [if_pos c] at ihq1
              exact ihq1
            · rw [i0, nI_add, Nat.add_zero] at e2
              rw [i1, nI_add] at e3
              subst e2
              subst e3
              rw [if_neg c, Nat.add_zero] at ihq1
              exact ihq1
        exact inner i 0 (by omega)
    exact key (B - 1) 1 (by omega) (Nat.le_refl 1)
def djF (L : Dl) : Nat → Nat × Nat
  | 0 => (0, 0)
  | i + 1 => if L.2 i &&& (djF L i).2 = 0 then ((djF L i).1 + 1, (djF L i).2 ||| L.2 i) else djF L i
theorem djF_lt {L : Dl} (h : ∀ i, L.2 i < 2 ^ 40) : ∀ i, (djF L i).2 < 2 ^ 40
  | 0 => Nat.two_pow_pos 40
  | i + 1 => by
    rw [djF]
    split
    · exact Nat.or_lt_two_pow (djF_lt h i) (h i)
    · exact djF_lt h i
theorem op_disjointBlocks : Op_disjointBlocks INV := by
  rintro w ⟨s, hs⟩
  have hC := hs.2.1
  have h240 := dv240 hs.1
  refine glueI (val := nI (djF (dv s 6) (dv s 6).1).1) (nx := s) hs (r_A_disjointBlocks (t_develop hs.1 hC (fun w2 h2 m2 d2 => r_D_disjointFromFirst ?_))) (fun w1 hM => r_B_disjointBlocks (u_develop hs.1 hM (fun w2 h2 m2 d2 => ?_))) hs.1
  · have key : ∀ j i, i + j = (dv s 6).1 → E 1 M_D_disjointFromFirst 7 [(0, .ref 19), (1, .int (nI (djF (dv s 6) i).1)), (2, .long (lN (djF (dv s 6) i).2)), (4, .int (nI i))] [] w2 (qI 1 (fun r w1 => r = nI (djF (dv s 6) (dv s 6).1).1 ∧ CW s w1 ∧ Mo allA [] w w1)) := by
      intro j
      induction j with
      | zero =>
        intro i hi
        refine w_D_disjointFromFirst_7 ?_
        rw [d2.1]
        refine pk_le (dv s 6).1 i (fun _ => ?_) (fun c => by omega)
        rw [show i = (dv s 6).1 by omega]
        exact ⟨rfl, h2, dA m2⟩
      | succ j ih =>
        intro i hi
        have ih1 := ih (i + 1) (by omega)
        rw [djF] at ih1
        have hl := dv40 hs.1 i
        have hand : (dv s 6).2 i &&& (djF (dv s 6) i).2 ≤ (dv s 6).2 i := Nat.and_le_left
        refine w_D_disjointFromFirst_7 ?_
        rw [d2.1, nI_clamp (by omega), d2.2 i (by omega), fb_andL, fb_orL, lN_0 (by omega)]
        refine pk_le (dv s 6).1 i (fun c => by omega) (fun _ => ⟨vp_in_nI (by omega) (by decide), fun c a1 e1 => ?_, fun c => ⟨vp_in_nI (by omega) (by decide), fun b2 e2 a3 e3 a4 e4 => ?_⟩⟩)
        · rw [i1, nI_add] at e1
          subst e1
          rw [if_neg c] at ih1
          exact ih1
        · rw [i1, nI_add] at e3 e4
          subst e2
          subst e3
          subst e4
          rw [if_pos c] at ih1
          exact ih1
    exact key (dv s 6).1 0 (by omega)
  · have key : ∀ j i, i + j = (dv s 6).1 → E 1 M_B_disjointBlocks 11 [(0, .ref 39), (1, .long (lN (djF (dv s 6) i).2)), (3, .int (nI (djF (dv s 6) i).1)), (4, .int (nI i))] [] w2 (qI 1 (fun r w3 => r = nI (djF (dv s 6) (dv s 6).1).1 ∧ MW s w3 ∧ Mo allB [] w1 w3)) := by
      intro j
      induction j with
      | zero =>
        intro i hi
        refine w_B_disjointBlocks_11 ?_
        rw [d2.1]
        refine pk_le (dv s 6).1 i (fun _ => ?_) (fun c => by omega)
        rw [show i = (dv s 6).1 by omega]
        exact ⟨rfl, h2, dB m2⟩
      | succ j ih =>
        intro i hi
        have ih1 := ih (i + 1) (by omega)
        rw [djF] at ih1
        have hl := dv40 hs.1 i
        have hand : (dv s 6).2 i &&& (djF (dv s 6) i).2 ≤ (dv s 6).2 i := Nat.and_le_left
        refine w_B_disjointBlocks_11 ?_
        rw [d2.1, nI_clamp (by omega), d2.2 i (by omega), fb_andL, fb_orL, Nat.and_comm, lN_0 (by omega)]
        refine pk_le (dv s 6).1 i (fun c => by omega) (fun _ => ⟨vp_in_nI (by omega) (by decide), fun c a1 e1 => ?_, fun c => ⟨vp_in_nI (by omega) (by decide), fun b2 e2 a3 e3 a4 e4 => ?_⟩⟩)
        · rw [i1, nI_add] at e1
          subst e1
          rw [if_neg c] at ih1
          exact ih1
        · rw [i1, nI_add] at e3 e4
          subst e2
          subst e3
          subst e4
          rw [if_pos c] at ih1
          exact ih1
    exact key (dv s 6).1 0 (by omega)
