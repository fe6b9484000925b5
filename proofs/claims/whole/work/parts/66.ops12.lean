/-- the common size of the blocks -/
def bsF (f : Nat → Nat) : Nat → Option Nat
  | 0 => some 0
  | k + 1 => (bsF f k).bind (fun x => if pop (f k) = 0 then some x else if x = 0 ∨ pop (f k) = x then some (pop (f k)) else none)
theorem bsF_none {f : Nat → Nat} {k : Nat} (h : bsF f k = none) : ∀ j, bsF f (k + j) = none
  | 0 => h
  | j + 1 => by
    show (bsF f (k + j)).bind _ = none
    rw [bsF_none h j]
    rfl
theorem bsF_s {f : Nat → Nat} {k x : Nat} (h : bsF f k = some x) : bsF f (k + 1) = (if pop (f k) = 0 then some x else if x = 0 ∨ pop (f k) = x then some (pop (f k)) else none) := by
  show (bsF f k).bind _ = _
  rw [h]
  rfl
theorem bsF_le {f : Nat → Nat} : ∀ k x, bsF f k = some x → x ≤ 64
  | 0, x, e => by
    have : (some 0 : Option Nat) = some x := e
    injection this with e2
    omega
  | k + 1, x, e => by
    cases hk : bsF f k with
    | none =>
      rw [show bsF f (k + 1) = none from bsF_none hk 1] at e
      cases e
    | some y =>
      have hy := bsF_le k y hk
      have hp := pop_le (f k)
      rw [bsF_s hk] at e
      split at e
      · injection e with e3
        omega
      · split at e
        · injection e with e3
          omega
        · cases e
theorem cmV_4 {x : Nat} (hx : x ≤ 64) : cmV (some x) = -4 ↔ x = 0 := by
  show (if x = 0 then (-4 : Int32) else nI x) = -4 ↔ _
  by_cases h : x = 0
  · rw [if_pos h]
    exact ⟨fun _ => h, fun _ => rfl⟩
  · rw [if_neg h]
    refine ⟨fun c => ?_, fun c => absurd c h⟩
    have : (nI x).toInt = (-4 : Int32).toInt := by rw [c]
    rw [nI_toInt (by omega)] at this
    have e : (-4 : Int32).toInt = -4 := by decide
    omega
theorem op_blockSize : Op_blockSize INV := by
  rintro w ⟨s, hs⟩
  have hC := hs.2.1
  have h40 := pow40 hs.1.1.2.2
  refine glueI (val := cmV (bsF (sBl s) 6)) (nx := s) hs (r_A_blockSize (fun a1 e1 => ?_)) (fun w1 hM => r_B_blockSize ?_) hs.1
  · have key : ∀ j k x, k + j = 6 → bsF (sBl s) k = some x → E 1 M_A_blockSize 5 [(0, .ref 0), (1, .int (cmV (some x))), (2, .int (nI k))] [] w (qI 1 (fun r w1 => r = cmV (bsF (sBl s) 6) ∧ CW s w1 ∧ Mo allA [] w w1)) := by
      intro j
      induction j with
      | zero =>
        intro k x hk hx
        refine w_A_blockSize_5 (pk_le 6 k (fun _ => ?_) (fun c => by omega))
        rw [show k = 6 by omega] at hx
        rw [hx]
        exact sameA hC
      | succ j ih =>
        intro k x hk hx
        have hb := hs.1.bl (k := k) (by omega)
        have hp := pop_le (sBl s k)
        have hxl := bsF_le k x hx
        have hs1 := bsF_s hx
        have hno : bsF (sBl s) (k + 1) = none → (-4 : Int32) = cmV (bsF (sBl s) 6) ∧ CW s w ∧ Mo allA [] w w := by
          intro e
          have e2 := bsF_none e j
          rw [show k + 1 + j = 6 by omega] at e2
          rw [e2]
          exact sameA hC
        have hgo : ∀ a : Int32, a = nI k + 1 → ¬ nI (pop (sBl s k)) = 0 → bsF (sBl s) (k + 1) = some (pop (sBl s k)) → E 1 M_A_blockSize 5 [(0, .ref 0), (1, .int (nI (pop (sBl s k)))), (2, .int a)] [] w (qI 1 (fun r w1 => r = cmV (bsF (sBl s) 6) ∧ CW s w1 ∧ Mo allA [] w w1)) := by
          intro a ea hne e
          rw [i1, nI_add] at ea
          subst ea
          have := ih (k + 1) _ (by omega) e
          rw [show cmV (some (pop (sBl s k))) = nI (pop (sBl s k)) from if_neg (fun c => hne (by rw [c]; rfl))] at this
          exact this
        refine w_A_blockSize_5 (pk_le 6 k (fun c => by omega) (fun c => ⟨vp_in_nI (by omega) (by decide), ?_⟩))
        rw [nI_clamp (by omega), hC.2.2.1 k (by omega)]
        refine t_bitCount (by omega) ⟨fun e => ⟨fun _ a3 e3 => ?_, fun c => absurd e c⟩, fun e => ⟨fun e2 => ⟨fun c => absurd c e, fun _ a3 e3 => ?_⟩, fun e2 => ⟨fun e5 => ⟨fun c => absurd c e, fun _ a3 e3 => ?_⟩, fun e5 => ?_⟩⟩⟩
        · rw [i1, nI_add] at e3
          subst e3
          rw [if_pos (nI_z (by omega) e)] at hs1
          exact ih (k + 1) x (by omega) hs1
        · rw [if_neg (fun c => e (by rw [c]; rfl)), if_pos (Or.inl ((cmV_4 hxl).mp e2))] at hs1
          exact hgo a3 e3 e hs1
        · have hx0 : x ≠ 0 := fun c => e2 ((cmV_4 hxl).mpr c)
          rw [show cmV (some x) = nI x from if_neg hx0] at e5
          rw [if_neg (fun c => e (by rw [c]; rfl)), if_pos (Or.inr (nI_inj (by omega) (by omega) e5))] at hs1
          exact hgo a3 e3 e hs1
        · have hx0 : x ≠ 0 := fun c => e2 ((cmV_4 hxl).mpr c)
          rw [show cmV (some x) = nI x from if_neg hx0] at e5
          rw [if_neg (fun c => e (by rw [c]; rfl)), if_neg (fun c => c.elim hx0 (fun c => e5 (by rw [c])))] at hs1
          exact hno hs1
    subst e1
    exact key 6 0 0 (by decide) rfl
  · have key : ∀ j k x, k + j = 6 → bsF (sBl s) k = some x → E 1 M_B_blockSize 4 [(0, .ref 39), (1, .int (nI x)), (2, .int (nI k))] [] w1 (qI 1 (fun r w2 => r = cmV (bsF (sBl s) 6) ∧ MW s w2 ∧ Mo allB [] w1 w2)) := by
      intro j
      induction j with
      | zero =>
        intro k x hk hx
        have hxl := bsF_le k x hx
        refine w_B_blockSize_4 (pk_le 6 k (fun _ => ?_) (fun c => by omega))
        rw [show k = 6 by omega] at hx
        rw [hx, and_comm]
        refine pk_eq x 0 (fun e => ?_) (fun e => ?_)
        · rw [show cmV (some x) = -4 from if_pos e]
          exact sameB hM
        · rw [show cmV (some x) = nI x from if_neg e]
          exact sameB hM
      | succ j ih =>
        intro k x hk hx
        have hb := hs.1.bl (k := k) (by omega)
        have hp := pop_le (sBl s k)
        have hxl := bsF_le k x hx
        have hs1 := bsF_s hx
        have hno : bsF (sBl s) (k + 1) = none → (-4 : Int32) = cmV (bsF (sBl s) 6) ∧ MW s w1 ∧ Mo allB [] w1 w1 := by
          intro e
          have e2 := bsF_none e j
          rw [show k + 1 + j = 6 by omega] at e2
          rw [e2]
          exact sameB hM
        refine w_B_blockSize_4 (pk_le 6 k (fun c => by omega) (fun c => ⟨vp_in_nI (by omega) (by decide), ?_⟩))
        rw [nI_clamp (by omega), hM.2.2.1 k (by omega)]
        refine u_size (by omega) (pk_le (pop (sBl s k)) 0 (fun e => ⟨fun _ a3 e3 => ?_, fun c => ?_⟩) (fun e => pk_le x 0 (fun e2 => pk_le (pop (sBl s k)) 0 (fun c => by omega) (fun _ a3 e3 => ?_)) (fun e2 => pk_eq (pop (sBl s k)) x (fun e5 => pk_le (pop (sBl s k)) 0 (fun c => by omega) (fun _ a3 e3 => ?_)) (fun e5 => ?_))))
        · rw [i1, nI_add] at e3
          subst e3
          rw [if_pos (by omega)] at hs1
          exact ih (k + 1) x (by omega) hs1
        · rw [show pop (sBl s k) = 0 by omega] at c
          exact absurd (by decide) c
        · rw [i1, nI_add] at e3
          subst e3
          rw [if_neg (by omega), if_pos (Or.inl (by omega))] at hs1
          exact ih (k + 1) _ (by omega) hs1
        · rw [i1, nI_add] at e3
          subst e3
          rw [if_neg (by omega), if_pos (Or.inr e5)] at hs1
          exact ih (k + 1) _ (by omega) hs1
        · rw [if_neg (by omega), if_neg (by omega)] at hs1
          exact hno hs1
    exact key 6 0 0 (by decide) rfl
