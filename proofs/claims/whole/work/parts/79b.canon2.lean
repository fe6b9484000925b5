/-- the lists of the automorphisms -/
abbrev lsK (s : Sg) (k : Nat) : Nat → Nat := (liS s (fK s k)).2
abbrev cnA (s : Sg) : Nat → Nat := mnL (usN s 6) (liS s iD).2 (lsK s) (nAut (sN s) (sM s))
theorem fK_lt {s : Sg} (hs : WF s) (k : Nat) : ∀ x, x < sN s * sM s → fK s k x < sN s * sM s := fun x _ => gF_lt hs.1 _ _ x
theorem mnL_62 {s : Sg} (hs : WF s) {F0 : Nat → Nat} (h0 : ∀ i, F0 i < 2 ^ 62) : ∀ k i, mnL (usN s 6) F0 (lsK s) k i < 2 ^ 62
  | 0, i => h0 i
  | k + 1, i => by
    rw [mnL]
    split
    · exact liS_62 hs (fK_lt hs k) i
    · exact mnL_62 hs h0 k i
theorem cpv_n {x : Nat} (h : x = 0 ∨ x = 1 ∨ x = 2) : (0 ≤ cpv x ↔ x ≠ 2) := by
  rcases h with rfl | rfl | rfl
  · exact ⟨fun _ => by decide, fun _ => by decide⟩
  · exact ⟨fun _ => by decide, fun _ => by decide⟩
  · exact ⟨fun c => absurd c (by decide), fun c => absurd rfl c⟩
theorem t_findLeast {s : Sg} {w0 : Wd} {K : Int32 → Wd → Prop} (hs : WF s) (hC : CW s w0) (h : ∀ w, CW s w → Mo [15, 17, 18] [] w0 w → (∀ i, i < usN s 6 → w.2 18 i = lN (cnA s i)) → K (nI (usN s 6)) w) : RunI 1 M_K_findLeast [.ref 14, .ref 10] w0 K := by
  have ok := hs.1
  have n480 := nAut_480 ok
  have hu6 := usN_6 s
  have hi62 : ∀ i, (liS s iD).2 i < 2 ^ 62 := liS_62 hs (fun x hx => hx)
  have key : ∀ j k w, k + j = nAut (sN s) (sM s) → CW s w → Mo [15, 17, 18] [] w0 w → (∀ i, i < usN s 6 → w.2 18 i = lN (mnL (usN s 6) (liS s iD).2 (lsK s) k i)) → E 1 M_K_findLeast 12 [(0, .ref 14), (1, .ref 10), (2, .int (nI (usN s 6))), (3, .int (nI k))] [] w (qI 1 K) := by
    intro j
    induction j with
    | zero =>
      intro k w hk hCw hm hL
      refine w_K_findLeast_12 ?_
      rw [hCw.na]
      refine pk_le (nAut (sN s) (sM s)) k (fun _ => ?_) (fun c => by omega)
      rw [show k = nAut (sN s) (sM s) by omega] at hL
      exact h w hCw hm hL
    | succ j ih =>
      intro k w hk hCw hm hL
      have ih1 := ih (k + 1)
      rw [mnL] at ih1
      refine w_K_findLeast_12 ?_
      rw [hCw.na]
      refine pk_le (nAut (sN s) (sM s)) k (fun c => by omega) (fun _ => t_fillAut rfl (by decide) hCw.1 (by decide) (by omega) (fun w1 hm1 h15 => t_img hs (hCw.on15 hm1) (Or.inr (Or.inl rfl)) (fK_lt hs k) h15 (fun w2 hC2 hm2 hL2 => ?_)))
      have m2 : Mo [15, 17] [] w w2 := (hm1.mo.mono (by decide) (fun _ c => absurd c List.not_mem_nil)).tr (hm2.mo.mono (by decide) (fun _ c => absurd c List.not_mem_nil))
      have m02 : Mo [15, 17, 18] [] w0 w2 := hm.tr (m2.mono (by decide) (fun _ c => absurd c List.not_mem_nil))
      have hL18 : ∀ i, i < usN s 6 → w2.2 18 i = lN (mnL (usN s 6) (liS s iD).2 (lsK s) k i) := fun i hi => by
        rw [(m2.pl 18 (by decide) (by decide)).2]
        exact hL i hi
      refine t_compare (F := lsK s k) (G := mnL (usN s 6) (liS s iD).2 (lsK s) k) rfl (by decide) rfl (by decide) hu6 (fun i hi => ⟨hL2 i (by rw [liS_n]; exact hi), liS_62 hs (fK_lt hs k) i⟩) (fun i hi => ⟨hL18 i hi, mnL_62 hs hi62 k i⟩) ?_
      rw [cpv_n (cpr_3 _ _ _ _)]
      refine ⟨fun c a6 e6 => ?_, fun c => ⟨by decide, fun w7 e7 a8 e8 => ?_⟩⟩
      · rw [i1, nI_add] at e6
        subst e6
        rw [if_neg c] at ih1
        exact ih1 w2 (by omega) hC2 m02 hL18
      · rw [i1, nI_add] at e8
        subst e8
        rw [if_pos (Decidable.byContradiction (fun c2 => c c2))] at ih1
        have m7 : Mo [18] [] w2 w7 := by rw [e7]; exact (Mo.rf _ _ w2).cp _ _ _ (by decide)
        refine ih1 w7 (by omega) (hC2.mo (m7.mono (by decide) (fun _ c => absurd c List.not_mem_nil))) (m02.tr (m7.mono (by decide) (fun _ c => absurd c List.not_mem_nil))) (fun i hi => ?_)
        have e9 : (cpL w2 17 18 0 0 6).2 18 i = w2.2 17 (0 + (i - 0)) := cpL_in (Nat.zero_le _) (by omega)
        have e10 : w7.2 18 i = (cpL w2 17 18 0 0 6).2 18 i := by rw [e7]; rfl
        rw [e10, e9, Nat.zero_add, Nat.sub_zero]
        exact hL2 i (by rw [liS_n]; exact hi)
  refine r_K_findLeast (t_same hs hC (Or.inr (Or.inr rfl)) (fun w1 hC1 hm1 hL1 => ?_))
  exact key (nAut (sN s) (sM s)) 0 w1 (by omega) hC1 (hm1.mono (by decide) (fun _ c => absurd c List.not_mem_nil)) (fun i hi => hL1 i (by rw [liS_n]; exact hi))
