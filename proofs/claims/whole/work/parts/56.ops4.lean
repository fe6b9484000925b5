theorem nI_inj {a b : Nat} (ha : a < 2 ^ 31) (hb : b < 2 ^ 31) (c : nI a = nI b) : a = b := (pk_eq (A := a = b) (B := True) a b (fun e => e) (fun _ => trivial)).1 c
theorem nI_z {a : Nat} (ha : a < 2 ^ 31) (c : nI a = 0) : a = 0 := nI_inj ha (by decide) c
/-- the state behind a change of the blocks that goes back in the history -/
def stB (s : Sg) (ho hs : Nat) (f : Nat → Nat) : Sg := st2 (st1 (st1 s 2 ho) 3 hs) 0 f
theorem stB_1 {s : Sg} {ho hs : Nat} {f : Nat → Nat} {j : Nat} (h : j ≠ 3) (h2 : j ≠ 2) : (stB s ho hs f).1 j = s.1 j := by
  show (if j = 3 then hs else (if j = 2 then ho else s.1 j)) = _
  rw [if_neg h, if_neg h2]
theorem stB_2 {s : Sg} {ho hs : Nat} {f : Nat → Nat} {j : Nat} (h0 : j ≠ 0) : (stB s ho hs f).2 j = s.2 j := if_neg h0
theorem eqS_B (s : Sg) (ho hs : Nat) (f : Nat → Nat) : eqS s (stB s ho hs f) := fun q _ => ⟨stB_1 (by omega) (by omega), stB_1 (by omega) (by omega), stB_2 (by omega)⟩
theorem WF.b {s : Sg} (h : WF s) {ho hs : Nat} {f : Nat → Nat} (h1 : ho < 2 ^ (sN s * sM s)) (h2 : hs ≤ sHs s) (hf : ∀ k, k < 6 → f k < 2 ^ (sN s * sM s)) : WF (stB s ho hs f) := by
  obtain ⟨a, b, c, d, e, f1, g, i, j, k, l, m, n, o⟩ := h
  refine ⟨a, h1, Nat.le_trans h2 c, d, e, f1, g, i, j, hf, fun q hq => ?_, m, n, wS.eq (s := s) o (eqS_B s ho hs f) rfl rfl⟩
  have hq2 : q < 6 * hs := hq
  exact l q (by omega)
theorem CW.b {s : Sg} {ho hs : Nat} {f : Nat → Nat} {w w2 : Wd} (h : CW s w) (hm : Mo [0, 10, 11] [] w w2) (h1 : w2.2 0 12 = lN ho) (hB : ∀ k, k < 6 → w2.2 10 k = lN (f k)) (h2 : w2.1 11 1 = nI hs) (h3 : hs ≤ sHs s) : CW (stB s ho hs f) w2 ∧ Mo allA [] w w2 := by
  obtain ⟨a, b, c, d, e, g, i, j⟩ := h
  refine ⟨⟨a.mo hm (by decide), h1, hB, ⟨h2, fun q hq => ?_⟩, e.mo hm (by decide) (by decide) (by decide), g.mo hm (by decide) (by decide) (by decide), i.mo hm (by decide) (by decide) (by decide), j.mo hm (by decide) (by decide)⟩, hm.mono (by decide) (fun _ c => absurd c List.not_mem_nil)⟩
  have hq2 : q < 6 * hs := hq
  rw [(hm.pl 12 (by decide) (by decide)).2]
  exact d.2 q (by omega)
theorem MW.b {s : Sg} {ho hs : Nat} {f : Nat → Nat} {w w2 : Wd} (h : MW s w) (hm : Mo [40] [3, 6] w w2) (h1 : w2.2 39 3 = lN ho) (hB : ∀ k, k < 6 → w2.2 40 k = lN (f k)) (h2 : w2.1 39 6 = nI hs) (h3 : hs ≤ sHs s) : MW (stB s ho hs f) w2 ∧ Mo allB [] w w2 := by
  obtain ⟨a, b, c, d, e, g, i⟩ := h
  refine ⟨⟨a.mo hm (by decide) (by decide) (by decide) (by decide), h1, hB, ⟨h2, fun q hq => ?_⟩, (e.mo hm (by decide) (by decide)).eq (eqS_B s ho hs f), g.mo hm (by decide) (by decide) (by decide), i.mo hm (by decide) (by decide) (by decide)⟩, hm.mono (by decide) (fun _ _ => Or.inr (by decide))⟩
  have hq2 : q < 6 * hs := hq
  rw [(hm.pl 41 (by decide) (by decide)).2]
  exact d.2 q (by omega)
/-- undo -/
def unF (s : Sg) : Nat → Nat := fun k => sHh s (6 * (sHs s - 1) + k)
theorem u_undo_l {s : Sg} {b : Nat} {w0 : Wd} {K : Int32 → Wd → Prop} (hb : b ≤ 4) (hY : ∀ k, k < 6 → w0.2 41 (6 * b + k) = lN (sHh s (6 * b + k))) (h6 : w0.1 39 6 = nI b) (h : ∀ w, Mo [40] [] w0 w → (∀ k, k < 6 → w.2 40 k = lN (sHh s (6 * b + k))) → K (nI b) w) :
    ∀ j k w, k + j = 6 → Mo [40] [] w0 w → (∀ q, q < k → w.2 40 q = lN (sHh s (6 * b + q))) → E 1 M_B_undo 22 [(0, .ref 39), (1, .int (nI k))] [] w (qI 1 K) := by
  intro j
  induction j with
  | zero =>
    intro k w hk hm hd
    refine w_B_undo_22 (pk_le 6 k (fun _ => ?_) (fun c => by omega))
    rw [(hm.sl 6 (by decide) (by decide)).1, h6]
    exact h w hm (fun q hq => hd q (by omega))
  | succ j ih =>
    intro k w hk hm hd
    refine w_B_undo_22 (pk_le 6 k (fun c => by omega) (fun c => ?_))
    rw [(hm.sl 6 (by decide) (by decide)).1, h6, i6, pk_mul, nI_add, nI_clamp (by omega), nI_clamp (by omega), (hm.pl 41 (by decide) (by decide)).2, hY k (by omega)]
    refine ⟨vp_in_nI (by omega) (by decide), vp_in_nI (by omega) (by decide), fun w2 e2 a3 e3 => ?_⟩
    rw [i1, nI_add] at e3
    subst e3
    refine ih (k + 1) w2 (by omega) (by rw [e2]; exact hm.upL _ (Or.inl (by decide))) (fun q hq => ?_)
    rcases Nat.lt_or_ge q k with h1 | h1
    · rw [e2, upL_ne (by omega)]; exact hd q h1
    · have : q = k := by omega
      subst this
      rw [e2, upL_eq]
theorem op_undo : Op_undo INV := by
  rintro w ⟨s, hs⟩
  have hC := hs.2.1
  have h5 := hs.1.hs
  have eC := hC.2.2.2.1.1
  by_cases h0 : sHs s = 0
  · refine glueI (val := -3) (nx := s) hs (r_A_undo ?_) (fun w1 hM => r_B_undo ?_) hs.1
    · rw [eC, h0]
      exact ⟨fun c => absurd rfl c, fun _ => sameA hC⟩
    · rw [hM.2.2.2.1.1, h0]
      exact ⟨fun c => absurd rfl c, fun _ => sameB hM⟩
  · have hne : ¬ nI (sHs s) = 0 := by
      intro c
      exact h0 (nI_z (by omega) c)
    refine glueI (val := nI (sHs s - 1)) (nx := stB s (sHo s) (sHs s - 1) (unF s)) hs (r_A_undo ?_) (fun w1 hM => r_B_undo ?_) (hs.1.b hs.1.ho (by omega) (fun k hk => hs.1.2.2.2.2.2.2.2.2.2.2.1 _ (by omega)))
    · refine ⟨fun _ => r_H_bringBack ?_, fun c => absurd (eC.symm.trans c) hne⟩
      rw [eC, i0]
      refine pk_le (sHs s) 0 (fun c => by omega) (fun _ w1 e1 => ?_)
      rw [i1, pk_sub (by omega)] at e1
      have q1 : w1.1 11 1 = nI (sHs s - 1) := by rw [e1, upI_eq]
      rw [q1, i6, pk_mul, nI_clamp (by omega), nI_clamp (by decide), nI_clamp (by decide)]
      refine ⟨⟨nI_pos (by omega), by decide, nI_pos (by decide), by omega, by omega⟩, fun w2 e2 => ?_⟩
      have q2 : w2.1 11 1 = nI (sHs s - 1) := by rw [e2, cpL_1]; exact q1
      have hm : Mo [0, 10, 11] [] w w2 := by rw [e2, e1]; exact ((Mo.rf _ _ w).upI _ (Or.inl (by decide))).cp _ _ _ (by decide)
      refine ⟨q2, hC.b hm ?_ (fun k hk => ?_) q2 (by omega)⟩
      · rw [e2, cpL_ne (by decide), e1]
        exact hC.2.1
      · rw [e2, cpL_in (Nat.zero_le _) (by omega), e1, Nat.mul_comm (sHs s - 1) 6]
        exact hC.2.2.2.1.2 _ (by omega)
    · have eM := hM.2.2.2.1.1
      refine ⟨fun _ w2 e2 => ?_, fun c => absurd (eM.symm.trans c) hne⟩
      rw [eM, i1, pk_sub (by omega)] at e2
      have q2 : w2.1 39 6 = nI (sHs s - 1) := by rw [e2, upI_eq]
      refine u_undo_l (s := s) (b := sHs s - 1) (by omega) (fun k hk => ?_) q2 (fun w3 hm3 hd3 => ?_) 6 0 w2 (by decide) (Mo.rf _ _ _) (fun q hq => absurd hq (Nat.not_lt_zero q))
      · rw [e2]
        exact hM.2.2.2.1.2 _ (by omega)
      · have hm : Mo [40] [3, 6] w1 w3 := by
          refine Mo.tr (w1 := w2) ?_ (hm3.mono (fun _ h => h) (fun _ c => absurd c List.not_mem_nil))
          rw [e2]
          exact (Mo.rf _ _ w1).upI _ (Or.inr (by decide))
        refine ⟨rfl, hM.b hm ?_ hd3 ?_ (by omega)⟩
        · rw [(hm3.sl 3 (by decide) (by decide)).2, e2]
          exact hM.2.1
        · rw [(hm3.sl 6 (by decide) (by decide)).1, q2]
theorem op_setHole : Op_setHole INV := by
  rintro a1 a2 w ⟨s, hs⟩
  have hC := hs.2.1
  have ok := hs.1.1
  have h40 := pow40 ok.2.2
  rcases el_or ok a1 with h1 | ⟨x, hx, rfl⟩
  · exact glueI (val := -1) (nx := s) hs (r_A_setHole (t_elF hC.1.1 h1 (zf (sameA hC)))) (fun w1 hM => r_B_setHole (u_elF hM.1.1 h1 (zf (sameB hM)))) hs.1
  rcases el_or ok a2 with h2 | ⟨y, hy, rfl⟩
  · exact glueI (val := -1) (nx := s) hs (r_A_setHole (t_elT hC.1.1 hx (zt (t_elF hC.1.1 h2 (zf' (sameA hC)))))) (fun w1 hM => r_B_setHole (u_elT hM.1.1 hx (zt (u_elF hM.1.1 h2 (zf' (sameB hM)))))) hs.1
  have hlt := hoS_lt (x := x) (y := y) ok
  refine glueI (val := nI (pop (hoS (sN s) (sM s) x y))) (nx := stB s (hoS (sN s) (sM s) x y) 0 (sBl s)) hs (r_A_setHole (t_elT hC.1.1 hx (zt (t_elT hC.1.1 hy (zt' (t_subgroup hC.1 hx hy (fun w7 e7 => r_H_forget (fun w8 e8 => ?_)))))))) (fun w1 hM => r_B_setHole (u_elT hM.1.1 hx (zt (u_elT hM.1.1 hy (zt' (u_ho_l hM.1.1 hx hy ?_ (sN s * sM s) 0 (by omega))))))) (hs.1.b hlt (Nat.zero_le _) (fun k hk => hs.1.bl hk))
  · have q : w8.2 0 12 = lN (hoS (sN s) (sM s) x y) := by rw [e8, upI_2, e7, upL_eq]
    rw [q]
    refine t_bitCount (by omega) ⟨rfl, ?_⟩
    refine hC.b ?_ q (fun k hk => ?_) (by rw [e8, upI_eq]; rfl) (Nat.zero_le _)
    · rw [e8, e7]
      exact ((Mo.rf _ _ w).upL _ (Or.inl (by decide))).upI _ (Or.inl (by decide))
    · rw [e8, upI_2, e7, upL_ne (by omega)]
      exact hC.2.2.1 k hk
  · refine ⟨rfl, hM.b ?_ ?_ (fun k hk => ?_) (by rw [upI_eq]; rfl) (Nat.zero_le _)⟩
    · exact ((Mo.rf _ _ w1).upL _ (Or.inr (by decide))).upI _ (Or.inr (by decide))
    · rw [upI_2, upL_eq]
    · rw [upI_2, upL_ne (by omega)]
      exact hM.2.2.1 k hk
