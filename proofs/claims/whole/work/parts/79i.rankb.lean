theorem u_inv {a p : Nat} {w : Wd} {K : Int32 → Wd → Prop} (hp : isP p) (h0 : a ≠ 0) (ha : a < p) (h : ∀ j, j < p → a * j % p = 1 → K (nI j) w) : RunI 1 M_B_inverse [.int (nI a), .int (nI p)] w K := by
  have hb := hp.b
  obtain ⟨j0, h1, h2, h3⟩ := hp.inv h0 ha
  have hnp : ¬ nI p = 0 := fun c => by
    have := nI_z (by omega) c
    omega
  have key : ∀ d j, j + d = j0 → E 1 M_B_inverse 2 [(0, .int (nI a)), (1, .int (nI p)), (2, .int (nI j))] [] w (qI 1 K) := by
    intro d
    induction d with
    | zero =>
      intro j hj
      have hm := mul49 (a := a) (b := j) (by omega) (by omega)
      refine w_B_inverse_2 ⟨hnp, ?_⟩
      rw [pk_mul, pk_rem (by omega) (by omega) (by omega), show j = j0 by omega, h3]
      exact ⟨fun _ => h j0 h2 h3, fun c => absurd rfl c⟩
    | succ d ih =>
      intro j hj
      have hm := mul49 (a := a) (b := j) (by omega) (by omega)
      refine w_B_inverse_2 ⟨hnp, ?_⟩
      rw [pk_mul, pk_rem (by omega) (by omega) (by omega)]
      refine ⟨fun c => ?_, fun c a3 e3 => ?_⟩
      · have := Nat.mod_lt (a * j) (show 0 < p by omega)
        exact h j (by omega) (nI_inj (by omega) (by decide) c)
      · rw [i1, nI_add] at e3
        subst e3
        exact ih (j + 1) (by omega)
  exact r_B_inverse (key (j0 - 1) 1 (by omega))
/-- the matrix -/
def MX (p v R : Nat) (M : Nat → Nat → Nat) (w : Wd) : Prop := ∀ i, i < R → ∀ j, j < v → w.1 53 (40 * i + j) = nI (M i j) ∧ M i j < p
theorem clr {p a b c f : Nat} (hp : 0 < p) (hf : f < p) (ha : a < p) (e1 : b * c % p = 1 % p) (e2 : a * c % p = f) : (a + (p - f) * b) % p = 0 := by
  have e3 : f * b % p = a := by
    rw [← e2, Nat.mod_mul_mod, Nat.mul_assoc, Nat.mul_comm c b, Nat.mul_mod, e1, ← Nat.mul_mod, Nat.mul_one, Nat.mod_eq_of_lt ha]
  have e4 : (f * b + (p - f) * b) % p = 0 := by
    rw [← Nat.add_mul, show f + (p - f) = p by omega, Nat.mul_mod_right]
  rw [← e3, Nat.mod_add_mod]
  exact e4
theorem u_clears {p v R r x : Nat} {M : Nat → Nat → Nat} {w0 : Wd} {K : Wd → Prop} (hp : isP p) (hv : w0.1 39 2 = nI v) (hR : w0.1 39 23 = nI R) (v40 : v ≤ 40) (R240 : R ≤ 240) (hr : r < R) (hx : x < v) (hM : MX p v R M w0) (h0 : M r x ≠ 0) (hz : ∀ i, r ≤ i → i < R → ∀ j, j < x → M i j = 0)
    (h : ∀ w M2, Mo [53] [] w0 w → MX p v R M2 w → (∀ i, r < i → i < R → (∀ j, j < x + 1 → M2 i j = 0) ∧ ∃ c d, (c + d) % p = 0 ∧ ∀ j, j < v → M2 i j % p = (M i j + c * M r j) % p) → K w) : RunV 1 M_B_clears [.ref 39, .int (nI r), .int (nI x), .int (nI p)] w0 K := by
  have hp2 := hp.b
  have hnp : ¬ nI p = 0 := fun c => by
    have := nI_z (by omega) c
    omega
  have e40 : (40 : Int32) = nI 40 := rfl
  refine r_B_clears ?_
  rw [e40, pk_mul, nI_add, nI_clamp (by omega), (hM r hr x hx).1]
  refine ⟨vp_in_nI (by omega) (by decide), u_inv hp h0 (hM r hr x hx).2 (fun c hc hc1 a3 e3 => ?_)⟩
  rw [i1, nI_add] at e3
  subst e3
  have hc1' : M r x * c % p = 1 % p := by rw [hc1, Nat.mod_eq_of_lt (by omega)]
  have key : ∀ d i w M2, i + d = R → r < i → Mo [53] [] w0 w → MX p v R M2 w → (∀ k, k ≤ r → k < R → M2 k = M k) → (∀ k, i ≤ k → k < R → M2 k = M k) → (∀ k, r < k → k < i → (∀ j, j < x + 1 → M2 k j = 0) ∧ ∃ c d, (c + d) % p = 0 ∧ ∀ j, j < v → M2 k j % p = (M k j + c * M r j) % p) → E 1 M_B_clears 22 [(0, .ref 39), (1, .int (nI r)), (2, .int (nI x)), (3, .int (nI p)), (4, .int (nI c)), (5, .int (nI i))] [] w (qV 1 K) := by
    intro d
    induction d with
    | zero =>
      intro i w M2 hi hri hm hM2 hlo hhi hdo
      refine w_B_clears_22 ?_
      rw [(hm.sl 23 (by decide) (by decide)).1, hR]
      exact pk_le R i (fun _ => h w M2 hm hM2 (fun k hk1 hk2 => hdo k hk1 (by omega))) (fun c => by omega)
    | succ d ih =>
      intro i w M2 hi hri hm hM2 hlo hhi hdo
      have hvw : w.1 39 2 = nI v := by rw [(hm.sl 2 (by decide) (by decide)).1]; exact hv
      have eMi := hhi i (Nat.le_refl i) (by omega)
      have eMr := hlo r (Nat.le_refl r) hr
      have hMi := hM2 i (by omega)
      have hMr := hM2 r hr
      rw [eMi] at hMi
      rw [eMr] at hMr
      have hmul := mul49 (a := M i x) (b := c) (by have := (hMi x hx).2; omega) (by omega)
      refine w_B_clears_22 ?_
      rw [(hm.sl 23 (by decide) (by decide)).1, hR, e40, pk_mul, nI_add, nI_clamp (by omega), (hMi x hx).1, pk_mul, pk_rem (by omega) (by omega) (by omega)]
      refine pk_le R i (fun c => by omega) (fun _ => ⟨vp_in_nI (by omega) (by decide), hnp, fun a1 e1 => ?_⟩)
      subst e1
      have hf := Nat.mod_lt (M i x * c) (show 0 < p by omega)
      generalize hfe : M i x * c % p = f at hf ⊢
      have hclr := clr (p := p) (by omega) hf (hMi x hx).2 hc1' hfe
      have hrow : ∀ (w3 : Wd) (M3 : Nat → Nat → Nat), Mo [53] [] w0 w3 → MX p v R M3 w3 → (∀ k, k ≠ i → M3 k = M2 k) → (∀ j, j < v → M3 i j % p = (M i j + (p - f) % p * M r j) % p) → (∀ j, j < x + 1 → M3 i j = 0) → E 1 M_B_clears 22 [(0, .ref 39), (1, .int (nI r)), (2, .int (nI x)), (3, .int (nI p)), (4, .int (nI c)), (5, .int (nI (i + 1)))] [] w3 (qV 1 K) := by
        intro w3 M3 hm3 hM3 hne hcong hz3
        refine ih (i + 1) w3 M3 (by omega) (by omega) hm3 hM3 (fun k h1 h2 => by rw [hne k (by omega)]; exact hlo k h1 h2) (fun k h1 h2 => by rw [hne k (by omega)]; exact hhi k (by omega) h2) (fun k h1 h2 => ?_)
        by_cases e : k = i
        · subst e
          refine ⟨hz3, (p - f) % p, f, ?_, hcong⟩
          rw [Nat.mod_add_mod, show p - f + f = p by omega, Nat.mod_self]
        · rw [hne k e]
          exact hdo k h1 (by omega)
      have inner : ∀ e j w3, j + e = v → x ≤ j → Mo [53] [] w0 w3 → MX p v R (upP M2 i (fun k => if x ≤ k ∧ k < j ∧ f ≠ 0 then (M i k + (p - f) * M r k) % p else M i k)) w3 → E 1 M_B_clears 53 [(0, .ref 39), (1, .int (nI r)), (2, .int (nI x)), (3, .int (nI p)), (4, .int (nI c)), (5, .int (nI i)), (6, .int (nI f)), (7, .int (nI j))] [] w3 (qV 1 K) := by
        intro e
        induction e with
        | zero =>
          intro j w3 hj hxj hm3 hM3
          have hv3 : w3.1 39 2 = nI v := by rw [(hm3.sl 2 (by decide) (by decide)).1]; exact hv
          refine w_B_clears_53 ?_
          rw [hv3]
          refine pk_le v j (fun _ a1 e1 => ?_) (fun c => by omega)
          rw [i1, nI_add] at e1
          subst e1
          refine hrow w3 _ hm3 hM3 (fun k hk => upP_ne hk) (fun k hk => ?_) (fun k hk => ?_)
          · rw [upP_eq]
            show (if x ≤ k ∧ k < j ∧ f ≠ 0 then (M i k + (p - f) * M r k) % p else M i k) % p = _
            have e9 : (M i k + (p - f) % p * M r k) % p = (M i k + (p - f) * M r k) % p := by rw [← Nat.add_mod_mod, Nat.mod_mul_mod, Nat.add_mod_mod]
            rw [e9]
            split
            · rw [Nat.mod_mod]
            · next hc2 =>
              by_cases hk2 : x ≤ k
              · have hf0 : f = 0 := Decidable.byContradiction (fun c => hc2 ⟨hk2, by omega, c⟩)
                rw [hf0, Nat.sub_zero, Nat.add_mul_mod_self_left]
              · rw [hz r (Nat.le_refl r) hr k (by omega), Nat.mul_zero, Nat.add_zero]
          · rw [upP_eq]
            show (if x ≤ k ∧ k < j ∧ f ≠ 0 then (M i k + (p - f) * M r k) % p else M i k) = 0
            by_cases e : k = x
            · subst e
              split
              · exact hclr
              · next hc2 =>
                have hf0 : f = 0 := Decidable.byContradiction (fun c => hc2 ⟨Nat.le_refl k, by omega, c⟩)
                rw [hf0, Nat.sub_zero, Nat.add_mul_mod_self_left, Nat.mod_eq_of_lt (hMi k hx).2] at hclr
                exact hclr
            · rw [if_neg (by omega)]
              exact hz i (by omega) (by omega) k (by omega)
        | succ e ih2 =>
          intro j w3 hj hxj hm3 hM3
          have hv3 : w3.1 39 2 = nI v := by rw [(hm3.sl 2 (by decide) (by decide)).1]; exact hv
          refine w_B_clears_53 ?_
          rw [hv3]
          refine pk_le v j (fun c => by omega) (fun _ => pk_le f 0 (fun cf a2 e2 => ?_) (fun cf => ?_))
          · rw [i1, nI_add] at e2
            subst e2
            have hf0 : f = 0 := by omega
            have hMx : MX p v R M2 w3 := by
              intro k hk l hl
              have := hM3 k hk l hl
              by_cases e : k = i
              · subst e
                rw [upP_eq] at this
                rw [eMi]
                have e2 : (if x ≤ l ∧ l < j ∧ f ≠ 0 then (M k l + (p - f) * M r l) % p else M k l) = M k l := if_neg (fun q => q.2.2 hf0)
                rw [← e2]
                exact this
              · rw [upP_ne e] at this
                exact this
            refine hrow w3 M2 hm3 hMx (fun _ _ => rfl) (fun k hk => ?_) (fun k hk => ?_)
            · rw [hf0, Nat.sub_zero, Nat.mod_self, Nat.zero_mul, Nat.add_zero, eMi]
            · rw [eMi]
              by_cases e : k = x
              · subst e
                rw [hf0, Nat.sub_zero, Nat.add_mul_mod_self_left, Nat.mod_eq_of_lt (hMi k hx).2] at hclr
                exact hclr
              · exact hz i (by omega) (by omega) k (by omega)
          · have h1 := hM3 i (by omega) j (by omega)
            have h2 := hM3 r hr j (by omega)
            rw [upP_eq] at h1
            rw [upP_ne (by omega), eMr] at h2
            have e1 : (if x ≤ j ∧ j < j ∧ f ≠ 0 then (M i j + (p - f) * M r j) % p else M i j) = M i j := if_neg (by omega)
            have h1' : w3.1 53 (40 * i + j) = nI (M i j) ∧ M i j < p := by
              rw [← e1]
              exact h1
            have hmul2 := mul49 (a := p - f) (b := M r j) (by omega) (by omega)
            rw [e40, pk_mul, pk_mul, nI_add, nI_add, nI_clamp (by omega), nI_clamp (by omega), h1'.1, h2.1, pk_sub (by omega), pk_mul, nI_add, pk_rem (by omega) (by omega) (by omega)]
            refine ⟨vp_in_nI (by omega) (by decide), vp_in_nI (by omega) (by decide), hnp, vp_in_nI (by omega) (by decide), fun w4 e4 a5 e5 => ?_⟩
            rw [i1, nI_add] at e5
            subst e5
            refine ih2 (j + 1) w4 (by omega) (by omega) (by rw [e4]; exact hm3.upI _ (Or.inl (by decide))) (fun k hk l hl => ?_)
            by_cases e : k = i
            · subst e
              rw [upP_eq]
              show w4.1 53 (40 * k + l) = nI (if x ≤ l ∧ l < j + 1 ∧ f ≠ 0 then (M k l + (p - f) * M r l) % p else M k l) ∧ (if x ≤ l ∧ l < j + 1 ∧ f ≠ 0 then (M k l + (p - f) * M r l) % p else M k l) < p
              by_cases e6 : l = j
              · subst e6
                rw [if_pos ⟨hxj, by omega, by omega⟩, e4, upI_eq]
                exact ⟨rfl, Nat.mod_lt _ (by omega)⟩
              · have h3 := hM3 k hk l hl
                rw [upP_eq] at h3
                have e7 : (if x ≤ l ∧ l < j + 1 ∧ f ≠ 0 then (M k l + (p - f) * M r l) % p else M k l) = (if x ≤ l ∧ l < j ∧ f ≠ 0 then (M k l + (p - f) * M r l) % p else M k l) := by
                  by_cases q : x ≤ l ∧ l < j ∧ f ≠ 0
                  · rw [if_pos q, if_pos ⟨q.1, by omega, q.2.2⟩]
                  · rw [if_neg q, if_neg (fun q2 => q ⟨q2.1, by omega, q2.2.2⟩)]
                rw [e7, e4, upI_ne (by omega)]
                exact h3
            · have h3 := hM3 k hk l hl
              rw [upP_ne e] at h3 ⊢
              rw [e4, upI_ne (by omega)]
              exact h3
      refine inner (v - x) x w (by omega) (Nat.le_refl x) hm (fun k hk l hl => ?_)
      have h3 := hM2 k hk l hl
      by_cases e : k = i
      · subst e
        rw [upP_eq]
        have e7 : (if x ≤ l ∧ l < x ∧ f ≠ 0 then (M k l + (p - f) * M r l) % p else M k l) = M k l := if_neg (by omega)
        show w.1 53 (40 * k + l) = nI (if x ≤ l ∧ l < x ∧ f ≠ 0 then (M k l + (p - f) * M r l) % p else M k l) ∧ (if x ≤ l ∧ l < x ∧ f ≠ 0 then (M k l + (p - f) * M r l) % p else M k l) < p
        rw [e7, ← eMi]
        exact h3
      · rw [upP_ne e]
        exact h3
  exact key (R - (r + 1)) (r + 1) w0 M (by omega) (by omega) (Mo.rf _ _ _) hM (fun _ _ _ => rfl) (fun _ _ _ => rfl) (fun k h1 h2 => absurd h1 (by omega))
/-- two rows in each other's place -/
def swR (M : Nat → Nat → Nat) (r q : Nat) : Nat → Nat → Nat := fun i => if i = r then M q else if i = q then M r else M i
theorem swR_p {M : Nat → Nat → Nat} {r q j p : Nat} {i : Nat} (h : M r j < p) (h2 : M q j < p) (h3 : M i j < p) : swR M r q i j < p := by
  unfold swR
  split
  · exact h2
  · split
    · exact h
    · exact h3
theorem u_swap {p v R r q x : Nat} {M : Nat → Nat → Nat} {w0 : Wd} {K : Int32 → Wd → Prop} (hv : w0.1 39 2 = nI v) (v40 : v ≤ 40) (R240 : R ≤ 240) (hr : r < R) (hq : q < R) (hM : MX p v R M w0)
    (h : ∀ w, Mo [53] [] w0 w → MX p v R (swR M r q) w → RunV 1 M_B_clears [.ref 39, .int (nI r), .int (nI x), .int (nI p)] w (fun w1 => ∀ a2 : Int32, a2 = nI r + 1 → ∀ a3 : Int32, a3 = nI x + 1 → E 1 M_B_rankOf 69 [(0, .ref 39), (1, .int (nI p)), (2, .int a2), (3, .int a3)] [] w1 (qI 1 K))) : E 1 M_B_rankOf 122 [(0, .ref 39), (1, .int (nI p)), (2, .int (nI r)), (3, .int (nI x)), (4, .int (nI q)), (5, .int 0)] [] w0 (qI 1 K) := by
  have e40 : (40 : Int32) = nI 40 := rfl
  have key : ∀ e j w, j + e = v → Mo [53] [] w0 w → (∀ i, i < R → ∀ l, l < v → w.1 53 (40 * i + l) = nI (if l < j then swR M r q i l else M i l)) → E 1 M_B_rankOf 122 [(0, .ref 39), (1, .int (nI p)), (2, .int (nI r)), (3, .int (nI x)), (4, .int (nI q)), (5, .int (nI j))] [] w (qI 1 K) := by
    intro e
    induction e with
    | zero =>
      intro j w hj hm hd
      refine w_B_rankOf_122 ?_
      rw [(hm.sl 2 (by decide) (by decide)).1, hv]
      refine pk_le v j (fun _ => h w hm (fun i hi l hl => ⟨?_, swR_p (hM r hr l hl).2 (hM q hq l hl).2 (hM i hi l hl).2⟩)) (fun c => by omega)
      rw [hd i hi l hl, if_pos (by omega)]
    | succ e ih =>
      intro j w hj hm hd
      have h1 := hd q hq j (by omega)
      have h2 := hd r hr j (by omega)
      rw [if_neg (by omega)] at h1 h2
      refine w_B_rankOf_122 ?_
      rw [(hm.sl 2 (by decide) (by decide)).1, hv, e40, pk_mul, pk_mul, nI_add, nI_add, nI_clamp (by omega), nI_clamp (by omega), h1, h2]
      refine pk_le v j (fun c => by omega) (fun _ => ⟨vp_in_nI (by omega) (by decide), fun a4 e4 => ⟨vp_in_nI (by omega) (by decide), vp_in_nI (by omega) (by decide), fun w5 e5 => ⟨vp_in_nI (by omega) (by decide), fun w6 e6 a7 e7 => ?_⟩⟩⟩)
      rw [i1, nI_add] at e7
      subst e7
      refine ih (j + 1) w6 (by omega) (by rw [e6, e5]; exact (hm.upI _ (Or.inl (by decide))).upI _ (Or.inl (by decide))) (fun i hi l hl => ?_)
      by_cases ej : l = j
      · subst ej
        rw [if_pos (Nat.lt_succ_self l)]
        by_cases er : i = r
        · subst er
          rw [e6, upI_eq, e4]
          show nI (M q l) = nI (swR M i q i l)
          unfold swR
          rw [if_pos rfl]
        · rw [e6, upI_ne (by omega)]
          by_cases eq : i = q
          · subst eq
            rw [e5, upI_eq]
            unfold swR
            rw [if_neg er, if_pos rfl]
          · rw [e5, upI_ne (by omega), hd i hi l hl, if_neg (Nat.lt_irrefl l)]
            unfold swR
            rw [if_neg er, if_neg eq]
      · rw [e6, upI_ne (by omega), e5, upI_ne (by omega), hd i hi l hl]
        by_cases c : l < j
        · rw [if_pos c, if_pos (by omega)]
        · rw [if_neg c, if_neg (by omega)]
  exact key v 0 w0 (by omega) (Mo.rf _ _ _) (fun i hi l hl => by rw [if_neg (Nat.not_lt_zero l)]; exact (hM i hi l hl).1)
theorem u_elim {p v R : Nat} {rows : Nat → Nat → Nat} {w0 : Wd} {K : Int32 → Wd → Prop} (hp : isP p) (hv : w0.1 39 2 = nI v) (hR : w0.1 39 23 = nI R) (v40 : v ≤ 40) (R240 : R ≤ 240) (hM0 : MX p v R rows w0) (h : ∀ w, Mo [53] [] w0 w → K (nI (rkN p v R rows)) w) : E 1 M_B_rankOf 69 [(0, .ref 39), (1, .int (nI p)), (2, .int 0), (3, .int 0)] [] w0 (qI 1 K) := by
  have hp2 := hp.b
  have e40 : (40 : Int32) = nI 40 := rfl
  have key : ∀ (d x : Nat) (w : Wd) (M : Nat → Nat → Nat) (Λ : Nat → Bool) (P : Nat → Nat → Nat), x + d = v → Mo [53] [] w0 w → MX p v R M w → fb_ct Λ x ≤ R → (∀ i, fb_ct Λ x ≤ i → i < R → ∀ j, j < x → M i j = 0) → (∀ y, y < x → Λ y = true → (∀ j, j < y → P y j = 0) ∧ P y y % p ≠ 0) → (∀ C, Clo p v C → ((∀ i, i < R → C (rows i)) ↔ ((∀ y, y < x → Λ y = true → C (P y)) ∧ ∀ i, fb_ct Λ x ≤ i → i < R → C (M i)))) → E 1 M_B_rankOf 69 [(0, .ref 39), (1, .int (nI p)), (2, .int (nI (fb_ct Λ x))), (3, .int (nI x))] [] w (qI 1 K) := by
    intro d
    induction d with
    | zero =>
      intro x w M Λ P hx hm hM hrR hz hE hC
      refine w_B_rankOf_69 ?_
      rw [(hm.sl 2 (by decide) (by decide)).1, hv]
      refine pk_le v x (fun _ => ?_) (fun c => by omega)
      have hxv : x = v := by omega
      subst hxv
      rw [rkN_eq (R := R) (rows := rows) (P := P) hp ⟨hE, fun C hc => ⟨fun hr => ((hC C hc).mp hr).1, fun hg => (hC C hc).mpr ⟨hg, fun i h1 h2 => hc.1 _ (fun y hy => by rw [hz i h1 h2 y hy]; exact Nat.zero_mod p)⟩⟩⟩]
      exact h w hm
    | succ d ih =>
      intro x w M Λ P hx hm hM hrR hz hE hC
      have hvw : w.1 39 2 = nI v := by rw [(hm.sl 2 (by decide) (by decide)).1]; exact hv
      have hRw : w.1 39 23 = nI R := by rw [(hm.sl 23 (by decide) (by decide)).1]; exact hR
      generalize hre : fb_ct Λ x = r at hrR hz hC ⊢
      have ctn : ∀ b : Bool, fb_ct (fun y => if y = x then b else Λ y) (x + 1) = r + (if b then 1 else 0) := fun b => by
        rw [fb_ct_succ, fb_ct_out Λ b (Nat.le_refl x), hre, if_pos rfl]
      have lam : ∀ (b : Bool) y, y < x → (if y = x then b else Λ y) = Λ y := fun b y hy => if_neg (by omega)
      refine w_B_rankOf_69 ?_
      rw [hvw]
      refine pk_le v x (fun c => by omega) (fun _ => ?_)
      have find : ∀ e q, q + e = R → r ≤ q → (∀ i, r ≤ i → i < q → M i x = 0) → E 1 M_B_rankOf 80 [(0, .ref 39), (1, .int (nI p)), (2, .int (nI r)), (3, .int (nI x)), (4, .int (nI q))] [] w (qI 1 K) := by
        intro e
        induction e with
        | zero =>
          intro q hq hrq hn
          refine w_B_rankOf_80 ?_
          rw [hRw]
          refine pk_le R q (fun _ => pk_le R q (fun _ a1 e1 => ?_) (fun c => by omega)) (fun c => by omega)
          rw [i1, nI_add] at e1
          subst e1
          have h2 := ih (x + 1) w M (fun y => if y = x then false else Λ y) P (by omega) hm hM
          rw [ctn false, if_neg (by decide), Nat.add_zero] at h2
          refine h2 hrR (fun i h1 h3 j hj => ?_) (fun y hy hl => ?_) (fun C hc => ?_)
          · by_cases e : j = x
            · rw [e]
              exact hn i h1 (by omega)
            · exact hz i h1 h3 j (by omega)
          · by_cases e : y = x
            · have hl2 : (if y = x then false else Λ y) = true := hl
              rw [if_pos e] at hl2
              cases hl2
            · have hl2 : (if y = x then false else Λ y) = true := hl
              rw [if_neg e] at hl2
              exact hE y (by omega) hl2
          · rw [hC C hc]
            refine and_congr ⟨fun hg y hy hl => ?_, fun hg y hy hl => hg y (by omega) ?_⟩ Iff.rfl
            · by_cases e : y = x
              · have hl2 : (if y = x then false else Λ y) = true := hl
                rw [if_pos e] at hl2
                cases hl2
              · have hl2 : (if y = x then false else Λ y) = true := hl
                rw [if_neg e] at hl2
                exact hg y (by omega) hl2
            · show (if y = x then false else Λ y) = true
              rw [if_neg (by omega)]
              exact hl
        | succ e ih2 =>
          intro q hq hrq hn
          have hMq := hM q (by omega) x (by omega)
          refine w_B_rankOf_80 ?_
          rw [hRw, e40, pk_mul, nI_add, nI_clamp (by omega), hMq.1]
          refine pk_le R q (fun c => by omega) (fun _ => ⟨vp_in_nI (by omega) (by decide), fun c => pk_le R q (fun c => by omega) (fun _ => ?_), fun c a3 e3 => ?_⟩)
          · have h0 : M q x ≠ 0 := fun e => c (by rw [e]; rfl)
            refine u_swap hvw v40 R240 (by omega) (by omega) hM (fun w2 hm2 hM2 => ?_)
            have e1 : swR M r q r = M q := if_pos rfl
            have e2 : ∀ i, r ≤ i → i < R → ∃ k, r ≤ k ∧ k < R ∧ swR M r q i = M k := fun i h1 h2 => by
              by_cases ei : i = r
              · exact ⟨q, hrq, by omega, by rw [ei]; exact e1⟩
              · by_cases ei2 : i = q
                · exact ⟨r, Nat.le_refl r, by omega, by unfold swR; rw [if_neg ei, if_pos ei2]⟩
                · exact ⟨i, h1, h2, by unfold swR; rw [if_neg ei, if_neg ei2]⟩
            have e3 : ∀ i, r ≤ i → i < R → ∃ k, r ≤ k ∧ k < R ∧ swR M r q k = M i := fun i h1 h2 => by
              by_cases ei : i = q
              · exact ⟨r, Nat.le_refl r, by omega, by rw [ei]; exact e1⟩
              · by_cases ei2 : i = r
                · exact ⟨q, hrq, by omega, by
                    unfold swR
                    rw [if_neg (by omega), if_pos rfl, ei2]⟩
                · exact ⟨i, h1, h2, by unfold swR; rw [if_neg ei2, if_neg ei]⟩
            refine u_clears hp (by rw [(hm2.sl 2 (by decide) (by decide)).1]; exact hvw) (by rw [(hm2.sl 23 (by decide) (by decide)).1]; exact hRw) v40 R240 (by omega) (by omega) hM2 (by rw [e1]; exact h0) (fun i h1 h2 j hj => ?_) (fun w3 M3 hm3 hM3 hd3 a4 e4 a5 e5 => ?_)
            · obtain ⟨k, hk1, hk2, ek⟩ := e2 i h1 h2
              rw [ek]
              exact hz k hk1 hk2 j hj
            · rw [i1, nI_add] at e4 e5
              subst e4
              subst e5
              have h2 := ih (x + 1) w3 M3 (fun y => if y = x then true else Λ y) (upP P x (M q)) (by omega) ((hm.tr hm2).tr hm3) hM3
              rw [ctn true, if_pos rfl] at h2
              refine h2 (by omega) (fun i h1 h3 j hj => (hd3 i (by omega) h3).1 j hj) (fun y hy hl => ?_) (fun C hc => ?_)
              · by_cases e : y = x
                · rw [e, upP_eq]
                  refine ⟨fun j hj => hz q hrq (by omega) j hj, ?_⟩
                  rw [Nat.mod_eq_of_lt hMq.2]
                  exact h0
                · have hl2 : (if y = x then true else Λ y) = true := hl
                  rw [if_neg e] at hl2
                  rw [upP_ne e]
                  exact hE y (by omega) hl2
              · rw [hC C hc]
                have st : ∀ i, r < i → i < R → C (M q) → (C (swR M r q i) ↔ C (M3 i)) := fun i h1 h2 hcq => by
                  obtain ⟨c2, d2, hcd, hcong⟩ := (hd3 i h1 h2).2
                  rw [e1] at hcong
                  exact clo_step hc hcd hcq hcong
                constructor
                · rintro ⟨hg, hrest⟩
                  have hcq := hrest q hrq (by omega)
                  refine ⟨fun y hy hl => ?_, fun i h1 h2 => ?_⟩
                  · by_cases e : y = x
                    · rw [e, upP_eq]
                      exact hcq
                    · have hl2 : (if y = x then true else Λ y) = true := hl
                      rw [if_neg e] at hl2
                      rw [upP_ne e]
                      exact hg y (by omega) hl2
                  · obtain ⟨k, hk1, hk2, ek⟩ := e2 i (by omega) h2
                    refine (st i (by omega) h2 hcq).mp ?_
                    rw [ek]
                    exact hrest k hk1 hk2
                · rintro ⟨hg, hrest⟩
                  have hcq : C (M q) := by
                    have := hg x (by omega) (if_pos rfl)
                    rw [upP_eq] at this
                    exact this
                  refine ⟨fun y hy hl => ?_, fun i h1 h2 => ?_⟩
                  · have := hg y (by omega) (by show (if y = x then true else Λ y) = true; rw [if_neg (by omega)]; exact hl)
                    rw [upP_ne (by omega)] at this
                    exact this
                  · obtain ⟨k, hk1, hk2, ek⟩ := e3 i h1 h2
                    rw [← ek]
                    by_cases ekr : k = r
                    · rw [ekr, e1]
                      exact hcq
                    · exact (st k (by omega) hk2 hcq).mpr (hrest k (by omega) hk2)
          · rw [i1, nI_add] at e3
            subst e3
            have h0 := nI_z (by have := hMq.2; omega) c
            refine ih2 (q + 1) (by omega) (by omega) (fun i h1 h2 => ?_)
            by_cases e : i = q
            · rw [e]; exact h0
            · exact hn i h1 (by omega)
      exact find (R - r) r (by omega) (Nat.le_refl r) (fun i h1 h2 => absurd h1 (by omega))
  exact key v 0 w0 rows (fun _ => false) (fun _ _ => 0) (by omega) (Mo.rf _ _ _) hM0 (Nat.zero_le R) (fun i _ _ j hj => absurd hj (Nat.not_lt_zero j)) (fun y hy => absurd hy (Nat.not_lt_zero y)) (fun C _ => ⟨fun hr => ⟨fun y hy => absurd hy (Nat.not_lt_zero y), fun i _ hi => hr i hi⟩, fun hr i hi => hr.2 i (Nat.zero_le i) hi⟩)
noncomputable def rkS (s : Sg) (p : Nat) : Nat := rkN p (sN s * sM s) (dv s 6).1 (rwS (dv s 6).2)
theorem t_rank {s : Sg} {p : Nat} {w0 : Wd} {K : Int32 → Wd → Prop} (hs : WF s) (hC : CW s w0) (hp : isP p) (h : ∀ w, CW s w → Mo [19, 20, 21, 22, 23] [] w0 w → K (nI (rkS s p)) w) : RunV 1 M_D_develop [.ref 19, .ref 10] w0 (fun w1 => RunI 1 M_E_independentRows [.ref 21, .ref 19, .int (nI p)] w1 (fun r3 w2 => K r3 w2)) := by
  refine t_develop hs hC (fun w1 hC1 hm1 hD1 => t_indep hp hC1.1.1.2.2.2.1 hs.1.2.2 hD1 (dv240 hs) (dv40 hs) (fun w2 hm2 => h w2 (hC1.mo (hm2.mono (by decide) (fun _ c => absurd c List.not_mem_nil))) ?_))
  exact (hm1.mono (by decide) (fun _ c => absurd c List.not_mem_nil)).tr (hm2.mono (by decide) (fun _ c => absurd c List.not_mem_nil))
theorem u_rank {s : Sg} {p : Nat} {w0 : Wd} {K : Int32 → Wd → Prop} (hs : WF s) (hM : MW s w0) (hp : isP p) (h : ∀ w, MW s w → Mo [52, 53] [23] w0 w → K (nI (rkS s p)) w) : RunI 1 M_B_rankOf [.ref 39, .int (nI p)] w0 K := by
  have hp2 := hp.b
  have hv40 := hs.1.2.2
  have h240 := dv240 hs
  have h40 := dv40 hs
  have e40 : (40 : Int32) = nI 40 := rfl
  refine r_B_rankOf (u_develop hs hM (fun w1 hM1 hm1 hD1 => ?_))
  have hv1 : w1.1 39 2 = nI (sN s * sM s) := hM1.1.1.2.2.2
  have key : ∀ d i w, i + d = (dv s 6).1 → Mo [53] [] w1 w → (∀ k, k < i → ∀ j, j < sN s * sM s → w.1 53 (40 * k + j) = nI (rwS (dv s 6).2 k j)) → E 1 M_B_rankOf 6 [(0, .ref 39), (1, .int (nI p)), (2, .int (nI i))] [] w (qI 1 K) := by
    intro d
    induction d with
    | zero =>
      intro i w hi hm hd
      have hRw : w.1 39 23 = nI (dv s 6).1 := by rw [(hm.sl 23 (by decide) (by decide)).1]; exact hD1.1
      refine w_B_rankOf_6 ?_
      rw [hRw]
      refine pk_le (dv s 6).1 i (fun _ => u_elim hp (by rw [(hm.sl 2 (by decide) (by decide)).1]; exact hv1) hRw hv40 h240 (fun k hk j hj => ⟨hd k (by omega) j hj, ?_⟩) (fun w2 hm2 => h w2 ?_ ?_)) (fun c => by omega)
      · unfold rwS
        split <;> omega
      · exact hM1.mo ((hm.tr hm2).mono (by decide) (fun _ c => absurd c List.not_mem_nil))
      · exact (hm1.mono (by decide) (fun _ hk => Or.inl hk)).tr ((hm.tr hm2).mono (by decide) (fun _ c => absurd c List.not_mem_nil))
    | succ d ih =>
      intro i w hi hm hd
      have hRw : w.1 39 23 = nI (dv s 6).1 := by rw [(hm.sl 23 (by decide) (by decide)).1]; exact hD1.1
      have inner : ∀ e x w2, x + e = sN s * sM s → Mo [53] [] w1 w2 → (∀ k, k < i → ∀ j, j < sN s * sM s → w2.1 53 (40 * k + j) = nI (rwS (dv s 6).2 k j)) → (∀ j, j < x → w2.1 53 (40 * i + j) = nI (rwS (dv s 6).2 i j)) → E 1 M_B_rankOf 16 [(0, .ref 39), (1, .int (nI p)), (2, .int (nI i)), (3, .int (nI x))] [] w2 (qI 1 K) := by
        intro e
        induction e with
        | zero =>
          intro x w2 hx hm2 hd2 hd3
          refine w_B_rankOf_16 ?_
          rw [(hm2.sl 2 (by decide) (by decide)).1, hv1]
          refine pk_le (sN s * sM s) x (fun _ a1 e1 => ?_) (fun c => by omega)
          rw [i1, nI_add] at e1
          subst e1
          refine ih (i + 1) w2 (by omega) hm2 (fun k hk j hj => ?_)
          by_cases e : k = i
          · rw [e]; exact hd3 j (by omega)
          · exact hd2 k (by omega) j hj
        | succ e ih2 =>
          intro x w2 hx hm2 hd2 hd3
          have hlt := h40 i
          refine w_B_rankOf_16 ?_
          rw [(hm2.sl 2 (by decide) (by decide)).1, hv1, e40, pk_mul, nI_add, nI_clamp (by omega), nI_clamp (by omega), (hm2.pl 52 (by decide) (by decide)).2, hD1.2 i (by omega)]
          refine pk_le (sN s * sM s) x (fun c => by omega) (fun _ => ⟨vp_in_nI (by omega) (by decide), u_has (by omega) (by omega) ?_⟩)
          have nxt : ∀ w3, w3 = upI w2 53 (40 * i + x) (nI (rwS (dv s 6).2 i x)) → E 1 M_B_rankOf 16 [(0, .ref 39), (1, .int (nI p)), (2, .int (nI i)), (3, .int (nI (x + 1)))] [] w3 (qI 1 K) := fun w3 e3 => by
            refine ih2 (x + 1) w3 (by omega) (by rw [e3]; exact hm2.upI _ (Or.inl (by decide))) (fun k hk j hj => ?_) (fun j hj => ?_)
            · rw [e3, upI_ne (by omega)]
              exact hd2 k hk j hj
            · by_cases e : j = x
              · rw [e3, e, upI_eq]
              · rw [e3, upI_ne (by omega)]
                exact hd3 j (by omega)
          cases hb : ((dv s 6).2 i).testBit x with
          | false =>
            refine zf ⟨vp_in_nI (by omega) (by decide), fun w8 e8 a9 e9 => ?_⟩
            rw [i1, nI_add] at e9
            subst e9
            exact nxt w8 (by rw [e8]; unfold rwS; rw [hb]; rfl)
          | true =>
            refine zt ⟨vp_in_nI (by omega) (by decide), fun w8 e8 a9 e9 => ?_⟩
            rw [i1, nI_add] at e9
            subst e9
            exact nxt w8 (by rw [e8]; unfold rwS; rw [hb]; rfl)
      refine w_B_rankOf_6 ?_
      rw [hRw]
      exact pk_le (dv s 6).1 i (fun c => by omega) (fun _ => inner (sN s * sM s) 0 w (by omega) hm hd (fun j hj => absurd hj (Nat.not_lt_zero j)))
  exact key (dv s 6).1 0 w1 (by omega) (Mo.rf _ _ _) (fun k hk => absurd hk (Nat.not_lt_zero k))
theorem op_rank : Op_rank INV := by
  rintro a1 w ⟨s, hs⟩
  have hC := hs.2.1
  have go : ∀ p, isP p → (∀ {K : Int32 → Wd → Prop} {w : Wd}, RunV 1 M_D_develop [.ref 19, .ref 10] w (fun w1 => RunI 1 M_E_independentRows [.ref 21, .ref 19, .int (nI p)] w1 (fun r3 w2 => K r3 w2)) → RunI 1 M_A_rank [.ref 0, .int (nI p)] w K) → (∀ {K : Int32 → Wd → Prop} {w : Wd}, RunI 1 M_B_rankOf [.ref 39, .int (nI p)] w K → RunI 1 M_B_rank [.ref 39, .int (nI p)] w K) → RunI 1 M_A_rank [.ref 0, .int (nI p)] w (fun r w1 => RunI 1 M_B_rank [.ref 39, .int (nI p)] w1 (fun r2 w2 => r2 = r ∧ INV w2)) := fun p hp hA hB =>
    glueI (val := nI (rkS s p)) (nx := s) hs (hA (t_rank hs.1 hC hp (fun w2 h2 m2 => ⟨rfl, h2, m2.mono (by decide) (fun _ c => absurd c List.not_mem_nil)⟩))) (fun w1 hM => hB (u_rank hs.1 hM hp (fun w2 h2 m2 => ⟨rfl, h2, m2.mono (by decide) (fun _ _ => Or.inr (by decide))⟩))) hs.1
  by_cases h2 : a1 = 2
  · subst h2
    exact go 2 (Or.inl rfl) (fun h => r_A_rank ⟨fun _ => h, fun c => absurd rfl c⟩) (fun h => r_B_rank ⟨fun _ => h, fun c => absurd rfl c⟩)
  by_cases h3 : a1 = 3
  · subst h3
    exact go 3 (Or.inr (Or.inl rfl)) (fun h => r_A_rank ⟨fun c => absurd c (by decide), fun _ => ⟨fun _ => h, fun c => absurd rfl c⟩⟩) (fun h => r_B_rank ⟨fun c => absurd c (by decide), fun _ => ⟨fun _ => h, fun c => absurd rfl c⟩⟩)
  by_cases h5 : a1 = 5
  · subst h5
    exact go 5 (Or.inr (Or.inr (Or.inl rfl))) (fun h => r_A_rank ⟨fun c => absurd c (by decide), fun _ => ⟨fun c => absurd c (by decide), fun _ => ⟨fun _ => h, fun c => absurd rfl c⟩⟩⟩) (fun h => r_B_rank ⟨fun c => absurd c (by decide), fun _ => ⟨fun c => absurd c (by decide), fun _ => ⟨fun _ => h, fun c => absurd rfl c⟩⟩⟩)
  by_cases h7 : a1 = 7
  · subst h7
    exact go 7 (Or.inr (Or.inr (Or.inr rfl))) (fun h => r_A_rank ⟨fun c => absurd c (by decide), fun _ => ⟨fun c => absurd c (by decide), fun _ => ⟨fun c => absurd c (by decide), fun _ => ⟨fun _ => h, fun c => absurd rfl c⟩⟩⟩⟩) (fun h => r_B_rank ⟨fun c => absurd c (by decide), fun _ => ⟨fun c => absurd c (by decide), fun _ => ⟨fun c => absurd c (by decide), fun _ => ⟨fun c => absurd rfl c, fun _ => h⟩⟩⟩⟩)
  · exact glueI (val := -1) (nx := s) hs (r_A_rank ⟨fun c => absurd c h2, fun _ => ⟨fun c => absurd c h3, fun _ => ⟨fun c => absurd c h5, fun _ => ⟨fun c => absurd c h7, fun _ => ⟨rfl, hC, Mo.rf _ _ _⟩⟩⟩⟩⟩) (fun w1 hM => r_B_rank ⟨fun c => absurd c h2, fun _ => ⟨fun c => absurd c h3, fun _ => ⟨fun c => absurd c h5, fun _ => ⟨fun _ => ⟨rfl, hM, Mo.rf _ _ _⟩, fun c => absurd c h7⟩⟩⟩⟩) hs.1
