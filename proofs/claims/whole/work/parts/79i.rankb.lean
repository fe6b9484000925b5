theorem u_inv {a p : Nat} {w : Wd} {K : Int32 → Wd → Prop} (hp : isP p) (h0 : a ≠ 0) (ha : a < p) (h : ∀ j, j < p → a * j % p = 1 → K (nI j) w) : RunI 1 M_B_inverse [.int (nI a), .int (nI p)] w K := by
  have hb := hp.b
  obtain ⟨j0, h1, h2, h3⟩ := hp.inv h0 ha
  have hnp : ¬ nI p = 0 := fun c => by
    have := nI_z (by omega) c
    omega
  have key : ∀ d j, j + d = j0 → E 1 M_B_inverse 2 [(0, .int (nI a)), (1, .int (nI p)), (2, .int (nI j))] [] w (qI 1 K) := by
    intro d
    induction d with
    | zero =>
      intro j hj
      have hm := mul49 (a := a) (b := j) (by omega) (by omega)
      refine w_B_inverse_2 ⟨hnp, ?_⟩
      rw [pk_mul, pk_rem (by omega) (by omega) (by omega), show j = j0 by omega, h3]
      exact ⟨fun _ => h j0 h2 h3, fun c => absurd rfl c⟩
    | succ d ih =>
      intro j hj
      have hm := mul49 (a := a) (b := j) (by omega) (by omega)
      refine w_B_inverse_2 ⟨hnp, ?_⟩
      rw [pk_mul, pk_rem (by omega) (by omega) (by omega)]
      refine ⟨fun c => ?_, fun c a3 e3 => ?_⟩
      · have := Nat.mod_lt (a * j) (show 0 < p by omega)
        exact h j (by omega) (nI_inj (by omega) (by decide) c)
      · rw [i1, nI_add] at e3
        subst e3
        exact ih (j + 1) (by omega)
  exact r_B_inverse (key (j0 - 1) 1 (by omega))
/-- the matrix -/
def MX (p v R : Nat) (M : Nat → Nat → Nat) (w : Wd) : Prop := ∀ i, i < R → ∀ j, j < v → w.1 53 (40 * i + j) = nI (M i j) ∧ M i j < p
theorem clr {p a b c f : Nat} (hp : 0 < p) (hf : f < p) (ha : a < p) (e1 : b * c % p = 1 % p) (e2 : a * c % p = f) : (a + (p - f) * b) % p = 0 := by
  have e3 : f * b % p = a := by
    rw [← e2, Nat.mod_mul_mod, Nat.mul_assoc, Nat.mul_comm c b, Nat.mul_mod, e1, ← Nat.mul_mod, Nat.mul_one, Nat.mod_eq_of_lt ha]
  have e4 : (f * b + (p - f) * b) % p = 0 := by
    rw [← Nat.add_mul, show f + (p - f) = p by omega, Nat.mul_mod_right]
  rw [← e3, Nat.mod_add_mod]
  exact e4
theorem u_clears {p v R r x : Nat} {M : Nat → Nat → Nat} {w0 : Wd} {K : Wd → Prop} (hp : isP p) (hv : w0.1 39 2 = nI v) (hR : w0.1 39 23 = nI R) (v40 : v ≤ 40) (R240 : R ≤ 240) (hr : r < R) (hx : x < v) (hM : MX p v R M w0) (h0 : M r x ≠ 0) (hz : ∀ i, r ≤ i → i < R → ∀ j, j < x → M i j = 0)
    (h : ∀ w M2, Mo [53] [] w0 w → MX p v R M2 w → (∀ i, r < i → i < R → (∀ j, j < x + 1 → M2 i j = 0) ∧ ∃ c d, (c + d) % p = 0 ∧ ∀ j, j < v → M2 i j % p = (M i j + c * M r j) % p) → K w) : RunV 1 M_B_clears [.ref 39, .int (nI r), .int (nI x), .int (nI p)] w0 K := by
  have hp2 := hp.b
  have hnp : ¬ nI p = 0 := fun c => by
    have := nI_z (by omega) c
    omega
  have e40 : (40 : Int32) = nI 40 := rfl
  refine r_B_clears ?_
  rw [e40, pk_mul, nI_add, nI_clamp (by omega), (hM r hr x hx).1]
  refine ⟨vp_in_nI (by omega) (by decide), u_inv hp h0 (hM r hr x hx).2 (fun c hc hc1 a3 e3 => ?_)⟩
  rw [i1, nI_add] at e3
  subst e3
  have hc1' : M r x * c % p = 1 % p := by rw [hc1, Nat.mod_eq_of_lt (by omega)]
  have key : ∀ d i w M2, i + d = R → r < i → Mo [53] [] w0 w → MX p v R M2 w → (∀ k, k ≤ r → k < R → M2 k = M k) → (∀ k, i ≤ k → k < R → M2 k = M k) → (∀ k, r < k → k < i → (∀ j, j < x + 1 → M2 k j = 0) ∧ ∃ c d, (c + d) % p = 0 ∧ ∀ j, j < v → M2 k j % p = (M k j + c * M r j) % p) → E 1 M_B_clears 22 [(0, .ref 39), (1, .int (nI r)), (2, .int (nI x)), (3, .int (nI p)), (4, .int (nI c)), (5, .int (nI i))] [] w (qV 1 K) := by
    intro d
    induction d with
    | zero =>
      intro i w M2 hi hri hm hM2 hlo hhi hdo
      refine w_B_clears_22 ?_
      rw [(hm.sl 23 (by decide) (by decide)).1, hR]
      exact pk_le R i (fun _ => h w M2 hm hM2 (fun k hk1 hk2 => hdo k hk1 (by omega))) (fun c => by omega)
    | succ d ih =>
      intro i w M2 hi hri hm hM2 hlo hhi hdo
      have hvw : w.1 39 2 = nI v := by rw [(hm.sl 2 (by decide) (by decide)).1]; exact hv
      have eMi := hhi i (Nat.le_refl i) (by omega)
      have eMr := hlo r (Nat.le_refl r) hr
      have hMi := hM2 i (by omega)
      have hMr := hM2 r hr
      rw [eMi] at hMi
      rw [eMr] at hMr
      have hmul := mul49 (a := M i x) (b := c) (by have := (hMi x hx).2; omega) (by omega)
      refine w_B_clears_22 ?_
      rw [(hm.sl 23 (by decide) (by decide)).1, hR, e40, pk_mul, nI_add, nI_clamp (by omega), (hMi x hx).1, pk_mul, pk_rem (by omega) (by omega) (by omega)]
      refine pk_le R i (fun c => by omega) (fun _ => ⟨vp_in_nI (by omega) (by decide), hnp, fun a1 e1 => ?_⟩)
      subst e1
      have hf := Nat.mod_lt (M i x * c) (show 0 < p by omega)
      generalize hfe : M i x * c % p = f at hf ⊢
      have hclr := clr (p := p) (by omega) hf (hMi x hx).2 hc1' hfe
      have hrow : ∀ (w3 : Wd) (M3 : Nat → Nat → Nat), Mo [53] [] w0 w3 → MX p v R M3 w3 → (∀ k, k ≠ i → M3 k = M2 k) → (∀ j, j < v → M3 i j % p = (M i j + (p - f) % p * M r j) % p) → (∀ j, j < x + 1 → M3 i j = 0) → E 1 M_B_clears 22 [(0, .ref 39), (1, .int (nI r)), (2, .int (nI x)), (3, .int (nI p)), (4, .int (nI c)), (5, .int (nI (i + 1)))] [] w3 (qV 1 K) := by
        intro w3 M3 hm3 hM3 hne hcong hz3
        refine ih (i + 1) w3 M3 (by omega) (by omega) hm3 hM3 (fun k h1 h2 => by rw [hne k (by omega)]; exact hlo k h1 h2) (fun k h1 h2 => by rw [hne k (by omega)]; exact hhi k (by omega) h2) (fun k h1 h2 => ?_)
        by_cases e : k = i
        · subst e
          refine ⟨hz3, (p - f) % p, f, ?_, hcong⟩
          rw [Nat.mod_add_mod, show p - f + f = p by omega, Nat.mod_self]
        · rw [hne k e]
          exact hdo k h1 (by omega)
      have inner : ∀ e j w3, j + e = v → x ≤ j → Mo [53] [] w0 w3 → MX p v R (upP M2 i (fun k => if x ≤ k ∧ k < j ∧ f ≠ 0 then (M i k + (p - f) * M r k) % p else M i k)) w3 → E 1 M_B_clears 53 [(0, .ref 39), (1, .int (nI r)), (2, .int (nI x)), (3, .int (nI p)), (4, .int (nI c)), (5, .int (nI i)), (6, .int (nI f)), (7, .int (nI j))] [] w3 (qV 1 K) := by
        intro e
        induction e with
        | zero =>
          intro j w3 hj hxj hm3 hM3
          have hv3 : w3.1 39 2 = nI v := by rw [(hm3.sl 2 (by decide) (by decide)).1]; exact hv
          refine w_B_clears_53 ?_
          rw [hv3]
          refine pk_le v j (fun _ a1 e1 => ?_) (fun c => by omega)
          rw [i1, nI_add] at e1
          subst e1
          refine hrow w3 _ hm3 hM3 (fun k hk => upP_ne hk) (fun k hk => ?_) (fun k hk => ?_)
          · rw [upP_eq]
            show (if x ≤ k ∧ k < j ∧ f ≠ 0 then (M i k + (p - f) * M r k) % p else M i k) % p = _
            rw [← Nat.add_mod_mod, Nat.mod_mul_mod, Nat.add_mod_mod]
            split
            · rw [Nat.mod_mod]
            · next hc2 =>
              by_cases hk2 : x ≤ k
              · have hf0 : f = 0 := Decidable.byContradiction (fun c => hc2 ⟨hk2, by omega, c⟩)
                rw [hf0, Nat.sub_zero, Nat.add_mul_mod_self_left]
              · rw [hz r (Nat.le_refl r) hr k (by omega), Nat.mul_zero, Nat.add_zero]
          · rw [upP_eq]
            show (if x ≤ k ∧ k < j ∧ f ≠ 0 then (M i k + (p - f) * M r k) % p else M i k) = 0
            by_cases e : k = x
            · subst e
              split
              · exact hclr
              · next hc2 =>
                have hf0 : f = 0 := Decidable.byContradiction (fun c => hc2 ⟨Nat.le_refl k, by omega, c⟩)
                rw [hf0, Nat.sub_zero, Nat.add_mul_mod_self_left, Nat.mod_eq_of_lt (hMi k hx).2] at hclr
                exact hclr
            · rw [if_neg (by omega)]
              exact hz i (by omega) (by omega) k (by omega)
        | succ e ih2 =>
          intro j w3 hj hxj hm3 hM3
          have hv3 : w3.1 39 2 = nI v := by rw [(hm3.sl 2 (by decide) (by decide)).1]; exact hv
          refine w_B_clears_53 ?_
          rw [hv3]
          refine pk_le v j (fun c => by omega) (fun _ => pk_le f 0 (fun cf a2 e2 => ?_) (fun cf => ?_))
          · rw [i1, nI_add] at e2
            subst e2
            have hf0 : f = 0 := by omega
            have hMx : MX p v R M2 w3 := by
              intro k hk l hl
              have := hM3 k hk l hl
              by_cases e : k = i
              · subst e
                rw [upP_eq] at this
                rw [eMi]
                have e2 : (if x ≤ l ∧ l < j ∧ f ≠ 0 then (M k l + (p - f) * M r l) % p else M k l) = M k l := if_neg (fun q => q.2.2 hf0)
                rw [← e2]
                exact this
              · rw [upP_ne e] at this
                exact this
            refine hrow w3 M2 hm3 hMx (fun _ _ => rfl) (fun k hk => ?_) (fun k hk => ?_)
            · rw [hf0, Nat.sub_zero, Nat.mod_self, Nat.zero_mul, Nat.add_zero, eMi]
            · rw [eMi]
              by_cases e : k = x
              · subst e
                rw [hf0, Nat.sub_zero, Nat.add_mul_mod_self_left, Nat.mod_eq_of_lt (hMi k hx).2] at hclr
                exact hclr
              · exact hz i (by omega) (by omega) k (by omega)
          · have h1 := hM3 i (by omega) j (by omega)
            have h2 := hM3 r hr j (by omega)
            rw [upP_eq] at h1
            rw [upP_ne (by omega), eMr] at h2
            have e1 : (if x ≤ j ∧ j < j ∧ f ≠ 0 then (M i j + (p - f) * M r j) % p else M i j) = M i j := if_neg (by omega)
            have h1' : w3.1 53 (40 * i + j) = nI (M i j) ∧ M i j < p := by
              rw [← e1]
              exact h1
            have hmul2 := mul49 (a := p - f) (b := M r j) (by omega) (by omega)
            rw [e40, pk_mul, pk_mul, nI_add, nI_add, nI_clamp (by omega), nI_clamp (by omega), h1'.1, h2.1, pk_sub (by omega), pk_mul, nI_add, pk_rem (by omega) (by omega) (by omega)]
            refine ⟨vp_in_nI (by omega) (by decide), vp_in_nI (by omega) (by decide), hnp, vp_in_nI (by omega) (by decide), fun w4 e4 a5 e5 => ?_⟩
            rw [i1, nI_add] at e5
            subst e5
            refine ih2 (j + 1) w4 (by omega) (by omega) (by rw [e4]; exact hm3.upI _ (Or.inl (by decide))) (fun k hk l hl => ?_)
            by_cases e : k = i
            · subst e
              rw [upP_eq]
              show w4.1 53 (40 * k + l) = nI (if x ≤ l ∧ l < j + 1 ∧ f ≠ 0 then (M k l + (p - f) * M r l) % p else M k l) ∧ (if x ≤ l ∧ l < j + 1 ∧ f ≠ 0 then (M k l + (p - f) * M r l) % p else M k l) < p
              by_cases e6 : l = j
              · subst e6
                rw [if_pos ⟨hxj, by omega, by omega⟩, e4, upI_eq]
                exact ⟨rfl, Nat.mod_lt _ (by omega)⟩
              · have h3 := hM3 k hk l hl
                rw [upP_eq] at h3
                have e7 : (if x ≤ l ∧ l < j + 1 ∧ f ≠ 0 then (M k l + (p - f) * M r l) % p else M k l) = (if x ≤ l ∧ l < j ∧ f ≠ 0 then (M k l + (p - f) * M r l) % p else M k l) := by
                  by_cases q : x ≤ l ∧ l < j ∧ f ≠ 0
                  · rw [if_pos q, if_pos ⟨q.1, by omega, q.2.2⟩]
                  · rw [if_neg q, if_neg (fun q2 => q ⟨q2.1, by omega, q2.2.2⟩)]
                rw [e7, e4, upI_ne (by omega)]
                exact h3
            · have h3 := hM3 k hk l hl
              rw [upP_ne e] at h3 ⊢
              rw [e4, upI_ne (by omega)]
              exact h3
      refine inner (v - x) x w (by omega) (Nat.le_refl x) hm (fun k hk l hl => ?_)
      have h3 := hM2 k hk l hl
      by_cases e : k = i
      · subst e
        rw [upP_eq]
        have e7 : (if x ≤ l ∧ l < x ∧ f ≠ 0 then (M k l + (p - f) * M r l) % p else M k l) = M k l := if_neg (by omega)
        show w.1 53 (40 * k + l) = nI (if x ≤ l ∧ l < x ∧ f ≠ 0 then (M k l + (p - f) * M r l) % p else M k l) ∧ (if x ≤ l ∧ l < x ∧ f ≠ 0 then (M k l + (p - f) * M r l) % p else M k l) < p
        rw [e7, ← eMi]
        exact h3
      · rw [upP_ne e]
        exact h3
  exact key (R - (r + 1)) (r + 1) w0 M (by omega) (by omega) (Mo.rf _ _ _) hM (fun _ _ _ => rfl) (fun _ _ _ => rfl) (fun k h1 h2 => absurd h1 (by omega))
