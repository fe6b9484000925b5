/-- the common index of the counts: none where there is none, 0 where none was seen -/
def cmF (ho : Nat) (c : Nat → Nat) : Nat → Option Nat
  | 0 => some 0
  | k + 1 => (cmF ho c k).bind (fun x => if k = 0 then some 0 else if ho.testBit k then (if c k = 0 then some x else none) else if c k = 0 then none else if x = 0 ∨ c k = x then some (c k) else none)
theorem cmF_none {ho : Nat} {c : Nat → Nat} {k : Nat} (h : cmF ho c k = none) : ∀ j, cmF ho c (k + j) = none
  | 0 => h
  | j + 1 => by
    show (cmF ho c (k + j)).bind _ = none
    rw [cmF_none h j]
    rfl
theorem cmF_s {ho : Nat} {c : Nat → Nat} {k x : Nat} (h : cmF ho c k = some x) (h0 : k ≠ 0) : cmF ho c (k + 1) = (if ho.testBit k then (if c k = 0 then some x else none) else if c k = 0 then none else if x = 0 ∨ c k = x then some (c k) else none) := by
  show (cmF ho c k).bind _ = _
  rw [h]
  show (if k = 0 then _ else _) = _
  rw [if_neg h0]
def cmV : Option Nat → Int32
  | none => -4
  | some x => if x = 0 then -4 else nI x
def cmW : Option Nat → Int32
  | none => 0
  | some x => nI x
theorem cmF_le {ho : Nat} {c : Nat → Nat} {B : Nat} (h : ∀ k, c k ≤ B) : ∀ k x, cmF ho c k = some x → x ≤ B
  | 0, x, e => by
    have : (some 0 : Option Nat) = some x := e
    injection this with e2
    omega
  | k + 1, x, e => by
    cases hk : cmF ho c k with
    | none =>
      rw [show cmF ho c (k + 1) = none from cmF_none hk 1] at e
      cases e
    | some y =>
      have hy := cmF_le h k y hk
      by_cases h0 : k = 0
      · subst h0
        have e2 : (some 0 : Option Nat) = some x := e
        injection e2 with e3
        omega
      · rw [cmF_s hk h0] at e
        have := h k
        split at e
        · split at e
          · injection e with e3
            omega
          · cases e
        · split at e
          · cases e
          · split at e
            · injection e with e3
              omega
            · cases e
theorem t_index {s : Sg} {c : Nat → Nat} {w : Wd} {K : Int32 → Wd → Prop} (hs : WF s) (hG : Gd (sN s) (sM s) w) (hc : ∀ d, d < 40 → w.1 9 d = nI (c d)) (hc2 : ∀ d, c d ≤ 1000) (h : K (cmV (cmF (sHo s) c (sN s * sM s))) w) : RunI 1 M_F_commonIndex [.ref 8, .long (lN (sHo s))] w K := by
  have ok := hs.1
  have hv := ok.2.2
  have h40 := pow40 hv
  have hv2 := ok.mv
  have hm0 := ok.m0
  have hho := hs.ho
  have key : ∀ j d x, d + j = sN s * sM s → d ≠ 0 → cmF (sHo s) c d = some x → E 1 M_F_commonIndex 5 [(0, .ref 8), (1, .long (lN (sHo s))), (3, .int (nI x)), (4, .int (nI d))] [] w (qI 1 K) := by
    intro j
    induction j with
    | zero =>
      intro d x hd h0 hx
      have hxl := cmF_le hc2 d x hx
      rw [show d = sN s * sM s by omega] at hx
      rw [hx] at h
      refine w_F_commonIndex_5 ?_
      rw [hG.1.2.2.2.1]
      refine pk_le (sN s * sM s) d (fun _ => ?_) (fun c => by omega)
      rw [and_comm]
      have h2 : K (if x = 0 then -4 else nI x) w := h
      refine pk_eq x 0 (fun e => ?_) (fun e => ?_)
      · rw [if_pos e] at h2
        exact h2
      · rw [if_neg e] at h2
        exact h2
    | succ j ih =>
      intro d x hd h0 hx
      have hxl := cmF_le hc2 d x hx
      have hcd := hc2 d
      have hs1 := cmF_s hx h0
      have hno : cmF (sHo s) c (d + 1) = none → K (-4) w := by
        intro e
        have e2 := cmF_none e j
        rw [show d + 1 + j = sN s * sM s by omega] at e2
        rw [e2] at h
        exact h
      refine w_F_commonIndex_5 ?_
      rw [hG.1.2.2.2.1]
      refine pk_le (sN s * sM s) d (fun c => by omega) (fun _ => t_holds (by omega) (by omega) ?_)
      rw [nI_clamp (by omega), hc d (by omega)]
      cases hb : (sHo s).testBit d with
      | false =>
        rw [hb, if_neg (by decide)] at hs1
        refine zf ⟨vp_in_nI (by omega) (by decide), pk_eq (c d) 0 (fun e => ?_) (fun e => pk_eq x 0 (fun e2 => ⟨vp_in_nI (by omega) (by decide), fun a3 e3 a4 e4 => ?_⟩) (fun e2 => ⟨vp_in_nI (by omega) (by decide), pk_eq (c d) x (fun e5 => ⟨vp_in_nI (by omega) (by decide), fun a3 e3 a4 e4 => ?_⟩) (fun e5 => ?_)⟩))⟩
        · rw [if_pos e] at hs1
          exact hno hs1
        · rw [i1, nI_add] at e4
          subst e3
          subst e4
          rw [if_neg e, if_pos (Or.inl e2)] at hs1
          exact ih (d + 1) (c d) (by omega) (by omega) hs1
        · rw [i1, nI_add] at e4
          subst e3
          subst e4
          rw [if_neg e, if_pos (Or.inr e5)] at hs1
          exact ih (d + 1) (c d) (by omega) (by omega) hs1
        · rw [if_neg e, if_neg (fun c => c.elim e2 e5)] at hs1
          exact hno hs1
      | true =>
        rw [hb, if_pos rfl] at hs1
        refine zt ⟨vp_in_nI (by omega) (by decide), pk_eq (c d) 0 (fun e a7 e7 => ?_) (fun e => ?_)⟩
        · rw [i1, nI_add] at e7
          subst e7
          rw [if_pos e] at hs1
          exact ih (d + 1) x (by omega) (by omega) hs1
        · rw [if_neg e] at hs1
          exact hno hs1
  exact r_F_commonIndex (key (sN s * sM s - 1) 1 0 (by omega) (by decide) rfl)
theorem u_indexC {s : Sg} {c : Nat → Nat} {w : Wd} {K : Int32 → Wd → Prop} (hs : WF s) (hB : Bg (sN s) (sM s) w) (hH : w.2 39 3 = lN (sHo s)) (hc : ∀ d, d < 40 → w.1 48 d = nI (c d)) (hc2 : ∀ d, c d ≤ 1000) (h : K (cmW (cmF (sHo s) c (sN s * sM s))) w) : RunI 1 M_B_indexOfCounts [.ref 39] w K := by
  have ok := hs.1
  have hv := ok.2.2
  have h40 := pow40 hv
  have hv2 := ok.mv
  have hm0 := ok.m0
  have hho := hs.ho
  have key : ∀ j d, d + j = sN s * sM s → d ≠ 0 → (∀ x, cmF (sHo s) c d = some x → E 1 M_B_indexOfCounts 6 [(0, .ref 39), (1, .int (nI x)), (2, .int 1), (3, .int (nI d))] [] w (qI 1 K)) ∧ (cmF (sHo s) c d = none → ∀ y : Int32, E 1 M_B_indexOfCounts 6 [(0, .ref 39), (1, .int y), (2, .int 0), (3, .int (nI d))] [] w (qI 1 K)) := by
    intro j
    induction j with
    | zero =>
      intro d hd h0
      rw [show d = sN s * sM s by omega]
      refine ⟨fun x hx => ?_, fun hx y => ?_⟩
      · rw [hx] at h
        refine w_B_indexOfCounts_6 ?_
        rw [hB.2.2.2]
        exact pk_le (sN s * sM s) (sN s * sM s) (fun _ => ⟨fun c => absurd c (by decide), fun _ => h⟩) (fun c => by omega)
      · rw [hx] at h
        refine w_B_indexOfCounts_6 ?_
        rw [hB.2.2.2]
        exact pk_le (sN s * sM s) (sN s * sM s) (fun _ => ⟨fun _ => h, fun c => absurd rfl c⟩) (fun c => by omega)
    | succ j ih =>
      intro d hd h0
      have ih1 := ih (d + 1) (by omega) (by omega)
      have hcd := hc2 d
      refine ⟨fun x hx => ?_, fun hx y => ?_⟩
      · have hxl := cmF_le hc2 d x hx
        have hs1 := cmF_s hx h0
        refine w_B_indexOfCounts_6 ?_
        rw [hB.2.2.2, hH]
        refine pk_le (sN s * sM s) d (fun c => by omega) (fun _ => u_has (by omega) (by omega) ?_)
        rw [nI_clamp (by omega), hc d (by omega)]
        cases hb : (sHo s).testBit d with
        | false =>
          rw [hb, if_neg (by decide)] at hs1
          refine zf ⟨fun c => absurd c (by decide), fun _ => ⟨vp_in_nI (by omega) (by decide), pk_le (c d) 0 (fun e => ⟨vp_in_nI (by omega) (by decide), fun a3 e3 a4 e4 => ?_⟩) (fun e => pk_eq x 0 (fun e2 => ⟨vp_in_nI (by omega) (by decide), fun a3 e3 a4 e4 => ?_⟩) (fun e2 => ⟨vp_in_nI (by omega) (by decide), and_comm.mp (pk_eq (c d) x (fun e5 => ⟨vp_in_nI (by omega) (by decide), fun a3 e3 a4 e4 => ?_⟩) (fun e5 => ⟨vp_in_nI (by omega) (by decide), fun a3 e3 a4 e4 => ?_⟩))⟩))⟩⟩
          · rw [i1, nI_add] at e4
            subst e4
            rw [if_pos (by omega)] at hs1
            exact ih1.2 hs1 _
          · rw [i1, nI_add] at e4
            subst e3
            subst e4
            rw [if_neg (by omega), if_pos (Or.inl e2)] at hs1
            exact ih1.1 _ hs1
          · rw [i1, nI_add] at e4
            subst e3
            subst e4
            rw [if_neg (by omega), if_pos (Or.inr e5)] at hs1
            exact ih1.1 _ hs1
          · rw [i1, nI_add] at e4
            subst e4
            rw [if_neg (by omega), if_neg (fun c => c.elim e2 e5)] at hs1
            exact ih1.2 hs1 _
        | true =>
          rw [hb, if_pos rfl] at hs1
          refine zt ⟨fun c => absurd c (by decide), fun _ => ⟨vp_in_nI (by omega) (by decide), and_comm.mp (pk_eq (c d) 0 (fun e a7 e7 => ?_) (fun e a7 e7 => ?_))⟩⟩
          · rw [i1, nI_add] at e7
            subst e7
            rw [if_pos e] at hs1
            exact ih1.1 _ hs1
          · rw [i1, nI_add] at e7
            subst e7
            rw [if_neg e] at hs1
            exact ih1.2 hs1 _
      · refine w_B_indexOfCounts_6 ?_
        rw [hB.2.2.2, hH]
        refine pk_le (sN s * sM s) d (fun c => by omega) (fun _ => u_has (by omega) (by omega) ?_)
        rw [nI_clamp (by omega), hc d (by omega)]
        have hn := cmF_none hx 1
        cases hb : (sHo s).testBit d with
        | false =>
          refine zf ⟨fun _ => ⟨vp_in_nI (by omega) (by decide), fun a3 e3 a4 e4 => ?_⟩, fun c => absurd rfl c⟩
          rw [i1, nI_add] at e4
          subst e4
          exact ih1.2 hn _
        | true =>
          refine zt ⟨fun _ a4 e4 => ?_, fun c => absurd rfl c⟩
          rw [i1, nI_add] at e4
          subst e4
          exact ih1.2 hn _
  exact r_B_indexOfCounts ((key (sN s * sM s - 1) 1 (by omega) (by decide)).1 0 rfl)
theorem op_index : Op_index INV := by
  rintro w ⟨s, hs⟩
  have hC := hs.2.1
  have hb : ∀ d, cn s d ≤ 1000 := fun d => Nat.le_trans (cn_le hs.1 d) (by decide)
  refine glueI (val := cmV (cmF (sHo s) (cn s) (sN s * sM s))) (nx := s) hs (r_A_index (t_tal hs.1 hC (fun w2 h2 m2 c2 => ?_))) (fun w1 hM => r_B_index (u_tal hs.1 hM (fun w2 h2 m2 c2 => u_indexC hs.1 h2.1.1 h2.2.1 c2 hb ?_))) hs.1
  · rw [h2.2.1]
    exact t_index hs.1 h2.1 c2 hb ⟨rfl, h2, m2⟩
  · cases hx : cmF (sHo s) (cn s) (sN s * sM s) with
    | none => exact ⟨fun c => absurd rfl c, fun _ => ⟨rfl, h2, m2⟩⟩
    | some x =>
      have hxl := cmF_le hb _ x hx
      show (¬ nI x = 0 → _ = (if x = 0 then -4 else nI x) ∧ _) ∧ (nI x = 0 → _ = (if x = 0 then -4 else nI x) ∧ _)
      rw [and_comm]
      refine pk_eq x 0 (fun e => ?_) (fun e => ?_)
      · rw [if_pos e]
        exact ⟨rfl, h2, m2⟩
      · rw [if_neg e]
        exact ⟨rfl, h2, m2⟩
