/-- the state behind a change of the blocks -/
def stF (s : Sg) (f : Nat → Nat) : Sg := st2 (stH s) 0 f
def bk (s : Sg) (k S : Nat) : Nat → Nat := fun j => if j = k then S else sBl s j
theorem stF_1 {s : Sg} {f : Nat → Nat} {j : Nat} (h : j ≠ 3) : (stF s f).1 j = s.1 j := if_neg h
theorem stF_2 {s : Sg} {f : Nat → Nat} {j : Nat} (h0 : j ≠ 0) (h1 : j ≠ 1) : (stF s f).2 j = s.2 j := by
  show (if j = 0 then f else (if j = 1 then _ else s.2 j)) = _
  rw [if_neg h0, if_neg h1]
/-- two states whose slots are the same -/
def eqS (s s' : Sg) : Prop := ∀ q, q < 2 → sFi s' q = sFi s q ∧ sKh s' q = sKh s q ∧ sKb s' q = sKb s q
theorem eqS_F (s : Sg) (f : Nat → Nat) : eqS s (stF s f) := fun q _ => ⟨stF_1 (by omega), stF_1 (by omega), stF_2 (by omega) (by omega)⟩
theorem mS.eq {s s' : Sg} {w : Wd} (h : mS s w) (e : eqS s s') : mS s' w := fun q hq => by
  obtain ⟨e1, e2, e3⟩ := e q hq
  have h1 := h q hq
  refine ⟨by rw [e1]; exact h1.1, fun hf => ?_⟩
  rw [e1] at hf
  rw [e2, e3]
  exact h1.2 hf
def wS (s : Sg) : Prop := ∀ q, q < 2 → sFi s q = 0 ∨ (sFi s q = 1 ∧ sKh s q < 2 ^ (sN s * sM s) ∧ ∀ k, k < 6 → sKb s q k < 2 ^ (sN s * sM s))
theorem wS.eq {s s' : Sg} (h : wS s) (e : eqS s s') (h0 : sN s' = sN s) (h1 : sM s' = sM s) : wS s' := fun q hq => by
  obtain ⟨e1, e2, e3⟩ := e q hq
  have h2 := h q hq
  rw [h0, h1, e1, e2, e3]
  exact h2
theorem WF.f {s : Sg} (h : WF s) {f : Nat → Nat} (hf : ∀ k, k < 6 → f k < 2 ^ (sN s * sM s)) : WF (stF s f) := by
  obtain ⟨a, b, c, d, e, f1, g, i, j, k, l, m, n, o⟩ := h
  refine ⟨a, b, ?_, d, e, f1, g, i, j, hf, ?_, m, n, wS.eq (s := s) o (eqS_F s f) rfl rfl⟩
  · show hsN s ≤ 5
    unfold hsN
    split <;> omega
  · intro q hq
    show hhN s q < _
    have hq2 : q < 6 * hsN s := hq
    unfold hsN at hq2
    unfold hhN
    by_cases h5 : sHs s = 5
    · rw [if_pos h5] at hq2
      rw [if_pos h5]
      split
      · exact l _ (by omega)
      · exact k _ (by omega)
    · rw [if_neg h5] at hq2
      rw [if_neg h5]
      split
      · exact l _ (by assumption)
      · exact k _ (by omega)
theorem CW.f {s : Sg} {w w1 w2 : Wd} {f : Nat → Nat} (h : CW s w) (h1 : Mo [11, 12] [] w w1) (hY : cY (stH s) w1) (h2 : Mo [10] [] w1 w2) (hB : ∀ k, k < 6 → w2.2 10 k = lN (f k)) : CW (stF s f) w2 ∧ Mo allA [] w w2 := by
  have hm : Mo [10, 11, 12] [] w w2 := (h1.mono (by decide) (fun _ c => absurd c List.not_mem_nil)).tr (h2.mono (by decide) (fun _ c => absurd c List.not_mem_nil))
  obtain ⟨a, b, c, d, e, g, i, j⟩ := h
  exact ⟨⟨a.mo hm (by decide), b.mo hm (by decide), hB, hY.mo h2 (by decide) (by decide), e.mo hm (by decide) (by decide) (by decide), g.mo hm (by decide) (by decide) (by decide), i.mo hm (by decide) (by decide) (by decide), j.mo hm (by decide) (by decide)⟩, hm.mono (by decide) (fun _ c => absurd c List.not_mem_nil)⟩
theorem MW.f {s : Sg} {w w1 w2 : Wd} {f : Nat → Nat} (h : MW s w) (h1 : Mo [41] [6] w w1) (hY : mY (stH s) w1) (h2 : Mo [40] [] w1 w2) (hB : ∀ k, k < 6 → w2.2 40 k = lN (f k)) : MW (stF s f) w2 ∧ Mo allB [] w w2 := by
  have hm : Mo [40, 41] [6] w w2 := (h1.mono (by decide) (fun _ c => Or.inl c)).tr (h2.mono (by decide) (fun _ c => absurd c List.not_mem_nil))
  obtain ⟨a, b, c, d, e, g, i⟩ := h
  exact ⟨⟨a.mo hm (by decide) (by decide) (by decide) (by decide), b.mo hm (by decide) (by decide), hB, hY.mo h2 (by decide) (by decide) (by decide), (e.mo hm (by decide) (by decide)).eq (eqS_F s f), g.mo hm (by decide) (by decide) (by decide), i.mo hm (by decide) (by decide) (by decide)⟩, hm.mono (by decide) (fun _ _ => Or.inr (by decide))⟩
theorem WF.bl {s : Sg} (h : WF s) {k : Nat} (hk : k < 6) : sBl s k < 2 ^ (sN s * sM s) := h.2.2.2.2.2.2.2.2.2.1 k hk
theorem WF.hs {s : Sg} (h : WF s) : sHs s ≤ 5 := h.2.2.1
theorem WF.ho {s : Sg} (h : WF s) : sHo s < 2 ^ (sN s * sM s) := h.2.1
theorem bk_lt {s : Sg} (h : WF s) {k S : Nat} (hS : S < 2 ^ (sN s * sM s)) : ∀ j, j < 6 → bk s k S j < 2 ^ (sN s * sM s) := fun j hj => by
  unfold bk
  split
  · exact hS
  · exact h.bl hj
theorem up_bk {s : Sg} {w : Wd} {p k S : Nat} (h : ∀ j, j < 6 → w.2 p j = lN (sBl s j)) : ∀ j, j < 6 → (upL w p k (lN S)).2 p j = lN (bk s k S j) := fun j hj => by
  unfold bk
  by_cases e : j = k
  · rw [if_pos e, e, upL_eq]
  · rw [if_neg e, upL_ne (by omega)]
    exact h j hj
theorem u_becomes {s : Sg} {k S : Nat} {w : Wd} {K : Int32 → Wd → Prop} (hs : WF s) (hM : MW s w) (hk : k < 6) (hS : S < 2 ^ 62) (h : ∀ w2, MW (stF s (bk s k S)) w2 → Mo allB [] w w2 → K (nI (pop S)) w2) : RunI 1 M_B_becomes [.ref 39, .int (nI k), .long (lN S)] w K := by
  refine r_B_becomes (u_note hs.hs hM.2.2.2.1 hM.2.2.1 (fun w1 hm1 hY1 => ⟨vp_in_nI hk (by decide), fun w2 e2 => u_size hS ?_⟩))
  rw [nI_clamp (by omega)] at e2
  have hB1 := hM.2.2.1.mo hm1 (by decide)
  have h3 := hM.f hm1 hY1 (w2 := w2) (f := bk s k S) (by rw [e2]; exact (Mo.rf _ _ w1).upL _ (Or.inl (by decide))) (by rw [e2]; exact up_bk hB1)
  exact h w2 h3.1 h3.2
theorem or_lt {v S x : Nat} (hS : S < 2 ^ v) (hx : x < v) : S ||| 2 ^ x < 2 ^ v := Nat.or_lt_two_pow hS (Nat.pow_lt_pow_right (by decide) hx)
theorem xor_lt {v S x : Nat} (hS : S < 2 ^ v) (hx : x < v) : S ^^^ 2 ^ x < 2 ^ v := Nat.xor_lt_two_pow hS (Nat.pow_lt_pow_right (by decide) hx)
theorem op_put : Op_put INV := by
  rintro a1 a2 w ⟨s, hs⟩
  have hC := hs.2.1
  have ok := hs.1.1
  have hv := ok.2.2
  have h40 := pow40 hv
  rcases rg_or 0 5 (by decide) (by decide) a1 with h1 | ⟨k, -, hk, rfl⟩
  · exact glueI (val := -1) (nx := s) hs (r_A_put (t_blF h1 (zf (sameA hC)))) (fun w1 hM => r_B_put (u_blF h1 (zf (sameB hM)))) hs.1
  rcases el_or ok a2 with h2 | ⟨x, hx, rfl⟩
  · exact glueI (val := -1) (nx := s) hs (r_A_put (t_blT (by omega) (zt (t_elF hC.1.1 h2 (zf' (sameA hC)))))) (fun w1 hM => r_B_put (u_blT (by omega) (zt (u_elF hM.1.1 h2 (zf' (sameB hM)))))) hs.1
  have hk6 : k < 6 := by omega
  have hb := hs.1.bl hk6
  have ekC : w.2 10 (nI k).toNatClampNeg = lN (sBl s k) := by rw [nI_clamp (by omega)]; exact hC.2.2.1 k hk6
  cases hbit : (sBl s k).testBit x with
  | true =>
    refine glueI (val := -3) (nx := s) hs (r_A_put (t_blT hk6 (zt (t_elT hC.1.1 hx (zt' ⟨vp_in_nI hk6 (by decide), ?_⟩))))) (fun w1 hM => r_B_put (u_blT hk6 (zt (u_elT hM.1.1 hx (zt' ⟨vp_in_nI hk6 (by decide), ?_⟩))))) hs.1
    · rw [ekC]
      refine t_holds (by omega) (by omega) ?_
      rw [hbit]
      exact zt (sameA hC)
    · rw [nI_clamp (by omega), hM.2.2.1 k hk6]
      refine u_has (by omega) (by omega) ?_
      rw [hbit]
      exact zt (sameB hM)
  | false =>
    have hlt := or_lt hb hx
    refine glueI (val := nI (pop (sBl s k ||| 2 ^ x))) (nx := stF s (bk s k (sBl s k ||| 2 ^ x))) hs (r_A_put (t_blT hk6 (zt (t_elT hC.1.1 hx (zt' ⟨vp_in_nI hk6 (by decide), ?_⟩))))) (fun w1 hM => r_B_put (u_blT hk6 (zt (u_elT hM.1.1 hx (zt' ⟨vp_in_nI hk6 (by decide), ?_⟩))))) (hs.1.f (bk_lt hs.1 hlt))
    · rw [ekC]
      refine t_holds (by omega) (by omega) ?_
      rw [hbit]
      refine zf (t_note hs.1.hs hC.2.2.2.1 hC.2.2.1 (fun w7 hm7 hY7 => ⟨vp_in_nI hk6 (by decide), vp_in_nI hk6 (by decide), fun w8 e8 => ⟨vp_in_nI hk6 (by decide), ?_⟩⟩))
      have hB7 := hC.2.2.1.mo hm7 (by decide)
      rw [nI_clamp (by omega), hB7 k hk6, l_pow (by omega), fb_orL] at e8
      rw [nI_clamp (by omega), e8, upL_eq]
      refine t_bitCount (by omega) ?_
      have h3 := hC.f hm7 hY7 (w2 := upL w7 10 k (lN (sBl s k ||| 2 ^ x))) (f := bk s k (sBl s k ||| 2 ^ x)) ((Mo.rf _ _ w7).upL _ (Or.inl (by decide))) (up_bk hB7)
      exact ⟨rfl, h3⟩
    · rw [nI_clamp (by omega), hM.2.2.1 k hk6]
      refine u_has (by omega) (by omega) ?_
      rw [hbit]
      refine zf ⟨vp_in_nI hk6 (by decide), ?_⟩
      rw [hM.2.2.1 k hk6, l_pow (by omega), fb_orL]
      exact u_becomes hs.1 hM hk6 (by omega) (fun w2 h3 h4 => ⟨rfl, h3, h4⟩)
theorem clr_bit {S x : Nat} (hS : S < 2 ^ 64) (hx : x < 64) (hb : S.testBit x = true) : S &&& (2 ^ x ^^^ (2 ^ 64 - 1)) = S ^^^ 2 ^ x := by
  apply Nat.eq_of_testBit_eq
  intro i
  rw [Nat.testBit_and, Nat.testBit_xor, Nat.testBit_xor, Nat.testBit_two_pow, full_bit]
  by_cases e : x = i
  · subst e
    rw [hb, decide_eq_true rfl, decide_eq_true hx]
    rfl
  · rw [decide_eq_false e]
    cases hi : S.testBit i with
    | false => rfl
    | true =>
      rw [decide_eq_true (bit_lt hS hi)]
      rfl
theorem op_take : Op_take INV := by
  rintro a1 a2 w ⟨s, hs⟩
  have hC := hs.2.1
  have ok := hs.1.1
  have hv := ok.2.2
  have h40 := pow40 hv
  rcases rg_or 0 5 (by decide) (by decide) a1 with h1 | ⟨k, -, hk, rfl⟩
  · exact glueI (val := -1) (nx := s) hs (r_A_take (t_blF h1 (zf (sameA hC)))) (fun w1 hM => r_B_take (u_blF h1 (zf (sameB hM)))) hs.1
  rcases el_or ok a2 with h2 | ⟨x, hx, rfl⟩
  · exact glueI (val := -1) (nx := s) hs (r_A_take (t_blT (by omega) (zt (t_elF hC.1.1 h2 (zf' (sameA hC)))))) (fun w1 hM => r_B_take (u_blT (by omega) (zt (u_elF hM.1.1 h2 (zf' (sameB hM)))))) hs.1
  have hk6 : k < 6 := by omega
  have hb := hs.1.bl hk6
  have ekC : w.2 10 (nI k).toNatClampNeg = lN (sBl s k) := by rw [nI_clamp (by omega)]; exact hC.2.2.1 k hk6
  cases hbit : (sBl s k).testBit x with
  | false =>
    refine glueI (val := -3) (nx := s) hs (r_A_take (t_blT hk6 (zt (t_elT hC.1.1 hx (zt' ⟨vp_in_nI hk6 (by decide), ?_⟩))))) (fun w1 hM => r_B_take (u_blT hk6 (zt (u_elT hM.1.1 hx (zt' ⟨vp_in_nI hk6 (by decide), ?_⟩))))) hs.1
    · rw [ekC]
      refine t_holds (by omega) (by omega) ?_
      rw [hbit]
      exact zf' (sameA hC)
    · rw [nI_clamp (by omega), hM.2.2.1 k hk6]
      refine u_has (by omega) (by omega) ?_
      rw [hbit]
      exact zf (sameB hM)
  | true =>
    have hlt := xor_lt hb hx
    refine glueI (val := nI (pop (sBl s k ^^^ 2 ^ x))) (nx := stF s (bk s k (sBl s k ^^^ 2 ^ x))) hs (r_A_take (t_blT hk6 (zt (t_elT hC.1.1 hx (zt' ⟨vp_in_nI hk6 (by decide), ?_⟩))))) (fun w1 hM => r_B_take (u_blT hk6 (zt (u_elT hM.1.1 hx (zt' ⟨vp_in_nI hk6 (by decide), ?_⟩))))) (hs.1.f (bk_lt hs.1 hlt))
    · rw [ekC]
      refine t_holds (by omega) (by omega) ?_
      rw [hbit]
      refine zt' (t_note hs.1.hs hC.2.2.2.1 hC.2.2.1 (fun w7 hm7 hY7 => ⟨vp_in_nI hk6 (by decide), vp_in_nI hk6 (by decide), fun w8 e8 => ⟨vp_in_nI hk6 (by decide), ?_⟩⟩))
      have hB7 := hC.2.2.1.mo hm7 (by decide)
      rw [nI_clamp (by omega), hB7 k hk6, l_pow (by omega), l_xor1, fb_andL, clr_bit (by omega) (by omega) hbit] at e8
      rw [nI_clamp (by omega), e8, upL_eq]
      refine t_bitCount (by omega) ?_
      have h3 := hC.f hm7 hY7 (w2 := upL w7 10 k (lN (sBl s k ^^^ 2 ^ x))) (f := bk s k (sBl s k ^^^ 2 ^ x)) ((Mo.rf _ _ w7).upL _ (Or.inl (by decide))) (up_bk hB7)
      exact ⟨rfl, h3⟩
    · rw [nI_clamp (by omega), hM.2.2.1 k hk6]
      refine u_has (by omega) (by omega) ?_
      rw [hbit]
      refine zt ⟨vp_in_nI hk6 (by decide), ?_⟩
      rw [hM.2.2.1 k hk6, l_pow (by omega), fb_xorL]
      exact u_becomes hs.1 hM hk6 (by omega) (fun w2 h3 h4 => ⟨rfl, h3, h4⟩)
theorem op_shift : Op_shift INV := by
  rintro a1 a2 w ⟨s, hs⟩
  have hC := hs.2.1
  have ok := hs.1.1
  have hv := ok.2.2
  have h40 := pow40 hv
  rcases rg_or 0 5 (by decide) (by decide) a1 with h1 | ⟨k, -, hk, rfl⟩
  · exact glueI (val := -1) (nx := s) hs (r_A_shift (t_blF h1 (zf (sameA hC)))) (fun w1 hM => r_B_shift (u_blF h1 (zf (sameB hM)))) hs.1
  rcases el_or ok a2 with h2 | ⟨x, hx, rfl⟩
  · exact glueI (val := -1) (nx := s) hs (r_A_shift (t_blT (by omega) (zt (t_elF hC.1.1 h2 (zf' (sameA hC)))))) (fun w1 hM => r_B_shift (u_blT (by omega) (zt (u_elF hM.1.1 h2 (zf (sameB hM)))))) hs.1
  have hk6 : k < 6 := by omega
  have hb := hs.1.bl hk6
  have hlt := trS_lt ok (sBl s k) x
  refine glueI (val := nI (pop (trS (sN s) (sM s) (sBl s k) x))) (nx := stF s (bk s k (trS (sN s) (sM s) (sBl s k) x))) hs (r_A_shift (t_blT hk6 (zt (t_elT hC.1.1 hx (zt' (t_note hs.1.hs hC.2.2.2.1 hC.2.2.1 (fun w7 hm7 hY7 => ⟨vp_in_nI hk6 (by decide), ?_⟩))))))) (fun w1 hM => r_B_shift (u_blT hk6 (zt (u_elT hM.1.1 hx (zt ⟨vp_in_nI hk6 (by decide), ?_⟩))))) (hs.1.f (bk_lt hs.1 hlt))
  · have hB7 := hC.2.2.1.mo hm7 (by decide)
    rw [nI_clamp (by omega), hB7 k hk6]
    refine t_translate (hC.1.mo hm7 (by decide)).1 (by omega) hx ⟨vp_in_nI hk6 (by decide), fun w8 e8 => ⟨vp_in_nI hk6 (by decide), ?_⟩⟩
    rw [e8, upL_eq]
    refine t_bitCount (by omega) ?_
    have h3 := hC.f hm7 hY7 (w2 := upL w7 10 k (lN (trS (sN s) (sM s) (sBl s k) x))) (f := bk s k (trS (sN s) (sM s) (sBl s k) x)) ((Mo.rf _ _ w7).upL _ (Or.inl (by decide))) (up_bk hB7)
    exact ⟨rfl, h3⟩
  · rw [nI_clamp (by omega), hM.2.2.1 k hk6]
    refine u_translate hM.1.1 (by omega) hx ?_
    exact u_becomes hs.1 hM hk6 (by have : imS (fun y => gA (sN s) (sM s) y x) (sBl s k) (sN s * sM s) < 2 ^ (sN s * sM s) := hlt; omega) (fun w2 h3 h4 => ⟨rfl, h3, h4⟩)
