/-- the history with the blocks noted -/
def hsN (s : Sg) : Nat := if sHs s = 5 then 5 else sHs s + 1
def hhN (s : Sg) (i : Nat) : Nat := if sHs s = 5 then (if i < 24 then sHh s (i + 6) else sBl s (i - 24)) else (if i < 6 * sHs s then sHh s i else sBl s (i - 6 * sHs s))
def stH (s : Sg) : Sg := st2 (st1 s 3 (hsN s)) 1 (hhN s)
theorem i5 : (5 : Int32) = nI 5 := rfl
theorem i6 : (6 : Int32) = nI 6 := rfl
theorem i24 : (24 : Int32) = nI 24 := rfl
theorem i30 : (30 : Int32) = nI 30 := rfl
theorem cl0 : (0 : Int32).toNatClampNeg = 0 := by decide
theorem cl6 : (6 : Int32).toNatClampNeg = 6 := by decide
theorem cl24 : (24 : Int32).toNatClampNeg = 24 := by decide
theorem cpL_in {w : Wd} {q0 q1 sp dp c j : Nat} (h1 : dp ≤ j) (h2 : j < dp + c) : (cpL w q0 q1 sp dp c).2 q1 j = w.2 q0 (sp + (j - dp)) := by
  show (if q1 = q1 then va_cpy (w.2 q0) (w.2 q1) sp dp c else w.2 q1) j = _
  rw [if_pos rfl, pk_cpy_in h1 h2]
theorem cpL_out {w : Wd} {q0 q1 sp dp c j : Nat} (h : j < dp ∨ dp + c ≤ j) : (cpL w q0 q1 sp dp c).2 q1 j = w.2 q1 j := by
  show (if q1 = q1 then va_cpy (w.2 q0) (w.2 q1) sp dp c else w.2 q1) j = _
  rw [if_pos rfl, pk_cpy_out h]
theorem cpL_ne {w : Wd} {q0 q1 sp dp c p : Nat} (h : p ≠ q1) : (cpL w q0 q1 sp dp c).2 p = w.2 p := by
  show (if p = q1 then _ else w.2 p) = _
  rw [if_neg h]
theorem cpL_1 (w : Wd) (q0 q1 sp dp c : Nat) : (cpL w q0 q1 sp dp c).1 = w.1 := rfl
theorem t_note {s : Sg} {w : Wd} {K : Wd → Prop} (hs : sHs s ≤ 5) (hY : cY s w) (hB : cB s w) (h : ∀ w', Mo [11, 12] [] w w' → cY (stH s) w' → K w') : RunV 1 M_H_note [.ref 11, .ref 10] w K := by
  refine r_H_note ?_
  rw [hY.1, cl0, cl6, cl24, and_comm]
  refine pk_eq (sHs s) 5 (fun c => ?_) (fun c => ?_)
  · refine ⟨by decide, fun w3 e3 w4 e4 => ?_⟩
    have q3 : w3.1 11 1 = nI 5 := by rw [e3, cpL_1, hY.1, c]
    rw [q3, i1, pk_sub (by decide)] at e4
    have q4 : w4.1 11 1 = nI 4 := by rw [e4, upI_eq]
    rw [q4, i6, pk_mul, nI_clamp (by decide)]
    refine ⟨⟨by decide, nI_pos (by decide), nI_pos (by decide), by decide, by decide⟩, fun w5 e5 w6 e6 => ?_⟩
    have q5 : w5.1 11 1 = nI 4 := by rw [e5, cpL_1]; exact q4
    rw [q5, i1, nI_add] at e6
    refine h w6 ?_ ⟨?_, fun i hi => ?_⟩
    · rw [e6, e5, e4, e3]
      exact ((((Mo.rf _ _ w).cp _ _ _ (by decide)).upI _ (Or.inl (by decide))).cp _ _ _ (by decide)).upI _ (Or.inl (by decide))
    · rw [e6, upI_eq]
      show nI 5 = nI (hsN s)
      unfold hsN
      rw [if_pos c]
    · have hi2 : i < 30 := by
        have : sHs (stH s) = 5 := by show hsN s = 5; unfold hsN; rw [if_pos c]
        omega
      show w6.2 12 i = lN (hhN s i)
      unfold hhN
      rw [if_pos c, e6, upI_2, e5]
      by_cases h24 : i < 24
      · rw [if_pos h24, cpL_out (Or.inl (by omega)), e4, upI_2, e3, cpL_in (Nat.zero_le i) (by omega), Nat.sub_zero, Nat.add_comm]
        exact hY.2 (i + 6) (by omega)
      · rw [if_neg h24, cpL_in (by omega) (by omega), e4, upI_2, e3, cpL_ne (by decide), Nat.zero_add]
        exact hB (i - 24) (by omega)
  · rw [i6, pk_mul, nI_clamp (by omega)]
    refine ⟨⟨by decide, nI_pos (by omega), nI_pos (by decide), by decide, by omega⟩, fun w1 e1 w2 e2 => ?_⟩
    have q1 : w1.1 11 1 = nI (sHs s) := by rw [e1, cpL_1]; exact hY.1
    rw [q1, i1, nI_add] at e2
    refine h w2 ?_ ⟨?_, fun i hi => ?_⟩
    · rw [e2, e1]
      exact ((Mo.rf _ _ w).cp _ _ _ (by decide)).upI _ (Or.inl (by decide))
    · rw [e2, upI_eq]
      show nI (sHs s + 1) = nI (hsN s)
      unfold hsN
      rw [if_neg c]
    · have hi2 : i < 6 * (sHs s + 1) := by
        have : sHs (stH s) = sHs s + 1 := by show hsN s = _; unfold hsN; rw [if_neg c]
        omega
      show w2.2 12 i = lN (hhN s i)
      unfold hhN
      rw [if_neg c, e2, upI_2, e1]
      by_cases hlt : i < 6 * sHs s
      · rw [if_pos hlt, cpL_out (Or.inl (by omega))]
        exact hY.2 i hlt
      · rw [if_neg hlt, cpL_in (by omega) (by omega), Nat.zero_add, Nat.mul_comm (sHs s) 6]
        exact hB (i - 6 * sHs s) (by omega)
/-- the reference notes -/
theorem u_note_c {s : Sg} {w0 : Wd} {K : Wd → Prop} {b : Nat} (hb : b ≤ 4) (hB : mB s w0) (h : ∀ w', Mo [41] [6] w0 w' → w'.1 39 6 = nI (b + 1) → (∀ i, i < 6 * b → w'.2 41 i = w0.2 41 i) → (∀ k, k < 6 → w'.2 41 (6 * b + k) = lN (sBl s k)) → K w') (h6 : w0.1 39 6 = nI b) :
    ∀ j k w, k + j = 6 → Mo [41] [] w0 w → (∀ i, i < 6 * b → w.2 41 i = w0.2 41 i) → (∀ q, q < k → w.2 41 (6 * b + q) = lN (sBl s q)) → E 1 M_B_notes 44 [(0, .ref 39), (1, .int (nI k))] [] w (qV 1 K) := by
  intro j
  induction j with
  | zero =>
    intro k w hk hm hlo hd
    refine w_B_notes_44 (pk_le 6 k (fun _ w1 e1 => ?_) (fun c => by omega))
    rw [(hm.sl 6 (by decide) (by decide)).1, h6, i1, nI_add] at e1
    refine h w1 ?_ ?_ (fun i hi => ?_) (fun q hq => ?_)
    · rw [e1]
      exact (hm.mono (fun _ h => h) (fun _ h => absurd h List.not_mem_nil)).upI _ (Or.inr ⟨rfl, by decide⟩)
    · rw [e1, upI_eq]
    · rw [e1, upI_2]; exact hlo i hi
    · rw [e1, upI_2]; exact hd q (by omega)
  | succ j ih =>
    intro k w hk hm hlo hd
    refine w_B_notes_44 (pk_le 6 k (fun c => by omega) (fun c => ?_))
    rw [(hm.sl 6 (by decide) (by decide)).1, h6, i6, pk_mul, nI_add, nI_clamp (by omega), nI_clamp (by omega), (hm.pl 40 (by decide) (by decide)).2, hB k (by omega)]
    refine ⟨vp_in_nI (by omega) (by decide), vp_in_nI (by omega) (by decide), fun w2 e2 a3 e3 => ?_⟩
    rw [i1, nI_add] at e3
    subst e3
    refine ih (k + 1) w2 (by omega) (by rw [e2]; exact hm.upL _ (Or.inl (by decide))) (fun i hi => ?_) (fun q hq => ?_)
    · rw [e2, upL_ne (by omega)]; exact hlo i hi
    · rcases Nat.lt_or_ge q k with h1 | h1
      · rw [e2, upL_ne (by omega)]; exact hd q h1
      · have : q = k := by omega
        subst this
        rw [e2, upL_eq]
theorem u_note_s {s : Sg} {w0 : Wd} {K : Wd → Prop} (h : ∀ w', Mo [41] [6] w0 w' → w'.1 39 6 = nI 4 → (∀ i, i < 24 → w'.2 41 i = w0.2 41 (i + 6)) → E 1 M_B_notes 44 [(0, .ref 39), (1, .int (nI 0))] [] w' (qV 1 K)) :
    ∀ j k w, k + j = 24 → Mo [41] [] w0 w → (∀ i, i < k → w.2 41 i = w0.2 41 (i + 6)) → (∀ i, k ≤ i → w.2 41 i = w0.2 41 i) → E 1 M_B_notes 10 [(0, .ref 39), (1, .int (nI k))] [] w (qV 1 K) := by
  intro j
  induction j with
  | zero =>
    intro k w hk hm hlo hhi
    refine w_B_notes_10 (pk_le 24 k (fun _ w1 e1 => ?_) (fun c => by omega))
    refine h w1 ?_ ?_ (fun i hi => ?_)
    · rw [e1]
      exact (hm.mono (fun _ h => h) (fun _ h => absurd h List.not_mem_nil)).upI _ (Or.inr ⟨rfl, by decide⟩)
    · rw [e1, upI_eq]
      rfl
    · rw [e1, upI_2]; exact hlo i (by omega)
  | succ j ih =>
    intro k w hk hm hlo hhi
    refine w_B_notes_10 (pk_le 24 k (fun c => by omega) (fun c => ?_))
    rw [i6, nI_add, nI_clamp (by omega), nI_clamp (by omega), hhi (k + 6) (by omega)]
    refine ⟨vp_in_nI (by omega) (by decide), vp_in_nI (by omega) (by decide), fun w2 e2 a3 e3 => ?_⟩
    rw [i1, nI_add] at e3
    subst e3
    refine ih (k + 1) w2 (by omega) (by rw [e2]; exact hm.upL _ (Or.inl (by decide))) (fun i hi => ?_) (fun i hi => ?_)
    · rcases Nat.lt_or_ge i k with h1 | h1
      · rw [e2, upL_ne (by omega)]; exact hlo i h1
      · have : i = k := by omega
        subst this
        rw [e2, upL_eq]
    · rw [e2, upL_ne (by omega)]; exact hhi i (by omega)
theorem u_note {s : Sg} {w : Wd} {K : Wd → Prop} (hs : sHs s ≤ 5) (hY : mY s w) (hB : mB s w) (h : ∀ w', Mo [41] [6] w w' → mY (stH s) w' → K w') : RunV 1 M_B_notes [.ref 39] w K := by
  refine r_B_notes ?_
  rw [hY.1, and_comm]
  refine pk_eq (sHs s) 5 (fun c => ?_) (fun c => ?_)
  · refine u_note_s (s := s) (fun w2 hm2 h6 hlo => ?_) 24 0 w (by decide) (Mo.rf _ _ _) (fun i hi => absurd hi (Nat.not_lt_zero i)) (fun i _ => rfl)
    refine u_note_c (s := s) (w0 := w2) (b := 4) (by decide) (hB.mo hm2 (by decide)) (fun w3 hm3 h63 hlo3 hd3 => h w3 (hm2.tr hm3) ⟨?_, fun i hi => ?_⟩) h6 6 0 w2 (by decide) (Mo.rf _ _ _) (fun i _ => rfl) (fun q hq => absurd hq (Nat.not_lt_zero q))
    · rw [h63]
      show nI 5 = nI (hsN s)
      unfold hsN
      rw [if_pos c]
    · have hi2 : i < 30 := by
        have : sHs (stH s) = 5 := by show hsN s = 5; unfold hsN; rw [if_pos c]
        omega
      show w3.2 41 i = lN (hhN s i)
      unfold hhN
      rw [if_pos c]
      by_cases h24 : i < 24
      · rw [if_pos h24, hlo3 i (by omega), hlo i h24]
        exact hY.2 (i + 6) (by omega)
      · rw [if_neg h24]
        have := hd3 (i - 24) (by omega)
        rw [show 6 * 4 + (i - 24) = i by omega] at this
        exact this
  · refine u_note_c (s := s) (w0 := w) (b := sHs s) (by omega) hB (fun w3 hm3 h63 hlo3 hd3 => h w3 hm3 ⟨?_, fun i hi => ?_⟩) hY.1 6 0 w (by decide) (Mo.rf _ _ _) (fun i _ => rfl) (fun q hq => absurd hq (Nat.not_lt_zero q))
    · rw [h63]
      show nI (sHs s + 1) = nI (hsN s)
      unfold hsN
      rw [if_neg c]
    · have hi2 : i < 6 * (sHs s + 1) := by
        have : sHs (stH s) = sHs s + 1 := by show hsN s = _; unfold hsN; rw [if_neg c]
        omega
      show w3.2 41 i = lN (hhN s i)
      unfold hhN
      rw [if_neg c]
      by_cases hlt : i < 6 * sHs s
      · rw [if_pos hlt, hlo3 i hlt]
        exact hY.2 i hlt
      · rw [if_neg hlt]
        have := hd3 (i - 6 * sHs s) (by omega)
        rw [show 6 * sHs s + (i - 6 * sHs s) = i by omega] at this
        exact this
