theorem auI_mono (n m z : Nat) : ∀ {j k : Nat}, j ≤ k → (auI n m z j).length ≤ (auI n m z k).length := by
  intro j k h
  induction h with
  | refl => exact Nat.le_refl _
  | step _ ih =>
    rw [auI, List.length_append]
    omega
theorem auO_mono (n m : Nat) : ∀ {j k : Nat}, j ≤ k → (auO n m j).length ≤ (auO n m k).length := by
  intro j k h
  induction h with
  | refl => exact Nat.le_refl _
  | step _ ih =>
    rw [auO, List.length_append]
    omega
theorem au_le {n m z u : Nat} (hz : z < n * m) (hu : u ≤ n * m) : (auO n m z ++ auI n m z u).length ≤ (autL n m).length := by
  have h1 := auO_mono n m (j := z + 1) (k := n * m) hz
  rw [auO, List.length_append] at h1
  have h2 := auI_mono n m z hu
  rw [List.length_append]
  unfold autL
  omega
theorem t_auts_i {f n m z : Nat} {w0 : Wd} {K : Wd → Prop} (hG : Ga n m w0) (he : w0.2 1 3 = lN (2 ^ (n * m) - 1)) (ho : ∀ x, x < n * m → w0.1 4 x = nI (ordG n m x)) (hz : z < n * m) (hoz : ordG n m z = m)
    (hcont : ∀ w, ChI PAu w0 w → AuW (auO n m (z + 1)) w → E f M_G_listAutomorphisms 7 [(0, .ref 1), (1, .int (nI (z + 1)))] [] w (qV f K)) :
    ∀ j u w, u + j = n * m → ChI PAu w0 w → AuW (auO n m z ++ auI n m z u) w → E f M_G_listAutomorphisms 30 [(0, .ref 1), (1, .int (nI z)), (2, .int (nI u))] [] w (qV f K) := by
  have ok := hG.1
  have hv := ok.2.2
  have hn40 := ok.n40
  intro j
  induction j with
  | zero =>
    intro u w hu hc hA
    have hw := hG.au hc
    refine w_G_listAutomorphisms_30 ?_
    rw [hw.2.2.2.1]
    refine pk_le (n * m) u (fun _ a1 e1 => ?_) (fun c => by omega)
    rw [i1, nI_add] at e1
    subst e1
    refine hcont w hc ?_
    rw [auO]
    rw [show u = n * m by omega] at hA
    exact hA
  | succ j ih =>
    intro u w hu hc hA
    have hw := hG.au hc
    have huv : u < n * m := by omega
    have hou := ord_le ok u
    refine w_G_listAutomorphisms_30 ?_
    rw [hw.2.2.2.1]
    refine pk_le (n * m) u (fun c => by omega) (fun c => ⟨vp_in_nI (by omega) (by decide), ?_⟩)
    rw [nI_clamp (by omega), hc.1 4 u (by unfold PAu; omega), ho u huv, hw.2.1]
    rw [and_comm]
    refine pk_eq (ordG n m u) n (fun c0 => ?_) (fun c0 a2 e2 => ?_)
    · have hb : (if imS (gF n m u z) (2 ^ (n * m) - 1) (n * m) = 2 ^ (n * m) - 1 then [(u, z)] else []) = (if isAut n m u z then [(u, z)] else []) := by
        have hi := aut_iff ok huv hz
        by_cases h1 : isAut n m u z = true
        · rw [if_pos h1, if_pos (hi.mp h1).2.2]
        · rw [if_neg h1, if_neg (fun h2 => h1 (hi.mpr ⟨hoz, c0, h2⟩))]
      have hlen := au_le hz (u := u + 1) (by omega)
      have h480 := aut480 ok
      have hlen2 := au_le hz (u := u) (by omega)
      refine t_listIf hw (by rw [hc.2]; exact he) hA huv hz ?_ (by omega) (fun w3 hc3 hA3 a4 e4 => ?_)
      · by_cases h1 : imS (gF n m u z) (2 ^ (n * m) - 1) (n * m) = 2 ^ (n * m) - 1
        · left
          have h2 := (aut_iff ok huv hz).mpr ⟨hoz, c0, h1⟩
          rw [auI, if_pos h2] at hlen
          simp only [List.length_append, List.length_cons, List.length_nil] at hlen ⊢
          omega
        · exact Or.inr h1
      · rw [i1, nI_add] at e4
        subst e4
        refine ih (u + 1) w3 (by omega) (hc.tr hc3) ?_
        rw [auI, ← List.append_assoc, ← hb]
        exact hA3
    · rw [i1, nI_add] at e2
      subst e2
      refine ih (u + 1) w (by omega) hc ?_
      have h1 : ¬ isAut n m u z = true := fun h2 => c0 ((aut_iff ok huv hz).mp h2).2.1
      rw [auI, if_neg h1, List.append_nil]
      exact hA
theorem auI_nil {n m z : Nat} (ok : GOK n m) (hz : z < n * m) (h : ordG n m z ≠ m) : ∀ k, k ≤ n * m → auI n m z k = []
  | 0, _ => rfl
  | k + 1, hk => by
    rw [auI, auI_nil ok hz h k (by omega), if_neg (fun h2 => h ((aut_iff ok (by omega) hz).mp h2).1)]
    rfl
theorem t_auts_o {f n m : Nat} {w0 : Wd} {K : Wd → Prop} (hG : Ga n m w0) (he : w0.2 1 3 = lN (2 ^ (n * m) - 1)) (ho : ∀ x, x < n * m → w0.1 4 x = nI (ordG n m x))
    (h : ∀ w, ChI PAu w0 w → AuW (autL n m) w → K w) :
    ∀ j z w, z + j = n * m → ChI PAu w0 w → AuW (auO n m z) w → E f M_G_listAutomorphisms 7 [(0, .ref 1), (1, .int (nI z))] [] w (qV f K) := by
  have ok := hG.1
  have hv := ok.2.2
  have hm40 := ok.m40
  intro j
  induction j with
  | zero =>
    intro z w hz hc hA
    have hw := hG.au hc
    refine w_G_listAutomorphisms_7 ?_
    rw [hw.2.2.2.1]
    refine pk_le (n * m) z (fun _ => ?_) (fun c => by omega)
    refine h w hc ?_
    rw [show z = n * m by omega] at hA
    exact hA
  | succ j ih =>
    intro z w hz hc hA
    have hw := hG.au hc
    have hzv : z < n * m := by omega
    have hoz := ord_le ok z
    refine w_G_listAutomorphisms_7 ?_
    rw [hw.2.2.2.1]
    refine pk_le (n * m) z (fun c => by omega) (fun c => ⟨vp_in_nI (by omega) (by decide), ?_⟩)
    rw [nI_clamp (by omega), hc.1 4 z (by unfold PAu; omega), ho z hzv, hw.2.2.1, and_comm]
    refine pk_eq (ordG n m z) m (fun c0 => ?_) (fun c0 a1 e1 => ?_)
    · refine t_auts_i hG he ho hzv c0 (fun w2 hc2 hA2 => ih (z + 1) w2 (by omega) hc2 hA2) (n * m) 0 w (by omega) hc ?_
      rw [auI, List.append_nil]
      exact hA
    · rw [i1, nI_add] at e1
      subst e1
      refine ih (z + 1) w (by omega) hc ?_
      rw [auO, auI_nil ok hzv c0 _ (Nat.le_refl _), List.append_nil]
      exact hA
theorem t_auts {f n m : Nat} {w : Wd} {K : Wd → Prop} (hG : Ga n m w) (he : w.2 1 3 = lN (2 ^ (n * m) - 1)) (ho : ∀ x, x < n * m → w.1 4 x = nI (ordG n m x))
    (h : ∀ w', ChI PAu w w' → AuW (autL n m) w' → K w') : RunV f M_G_listAutomorphisms [.ref 1] w K := by
  refine r_G_listAutomorphisms (fun w1 e1 => ?_)
  have hc : ChI PAu w w1 := by rw [e1]; exact (ChI.rf PAu w).up (Or.inr (Or.inr (Or.inr ⟨rfl, rfl⟩))) _
  refine t_auts_o hG he ho h (n * m) 0 w1 (by omega) hc ⟨?_, fun k hk => ?_⟩
  · rw [e1, upI_eq]
    rfl
  · exact absurd hk (Nat.not_lt_zero k)
/-- the set of the last second coordinates -/
def lsS (m : Nat) : Nat → Nat
  | 0 => 0
  | a + 1 => lsS m a ||| 2 ^ (m * a + m - 1)
theorem lsS_bit (m y : Nat) : ∀ k, (lsS m k).testBit y = true ↔ ∃ a, a < k ∧ m * a + m - 1 = y
  | 0 => by
    constructor
    · intro h
      simp [lsS] at h
    · rintro ⟨a, ha, -⟩
      omega
  | k + 1 => by
    rw [lsS, Nat.testBit_or, Bool.or_eq_true, lsS_bit m y k, Nat.testBit_two_pow, decide_eq_true_eq]
    constructor
    · rintro (⟨a, ha, h⟩ | h)
      · exact ⟨a, by omega, h⟩
      · exact ⟨k, by omega, h⟩
    · rintro ⟨a, ha, h⟩
      rcases Nat.lt_or_ge a k with h1 | h1
      · exact Or.inl ⟨a, h1, h⟩
      · have : a = k := by omega
        subst this
        exact Or.inr h
/-- all of the group's rows -/
def Gd (n m : Nat) (w : Wd) : Prop := Ga n m w ∧ w.2 1 3 = lN (2 ^ (n * m) - 1) ∧ w.2 1 4 = lN (lsS m n) ∧ (∀ x, x < n * m → w.1 4 x = nI (ordG n m x)) ∧ AuW (autL n m) w
/-- nothing has changed but the group's own cells -/
def ChG (w w' : Wd) : Prop := ∀ q, ¬ (1 ≤ q ∧ q ≤ 7) → w'.1 q = w.1 q ∧ w'.2 q = w.2 q
theorem ChG.rf (w : Wd) : ChG w w := fun _ _ => ⟨rfl, rfl⟩
theorem ChG.tr {w w1 w2 : Wd} (h : ChG w w1) (h2 : ChG w1 w2) : ChG w w2 := fun q hq => ⟨(h2 q hq).1.trans (h q hq).1, (h2 q hq).2.trans (h q hq).2⟩
theorem ChG.upI {w w1 : Wd} (h : ChG w w1) {p j : Nat} (hp : 1 ≤ p ∧ p ≤ 7) (x : Int32) : ChG w (upI w1 p j x) := fun q hq => by
  refine ⟨?_, (h q hq).2⟩
  rw [← (h q hq).1]
  funext k
  exact upI_ne (fun e => hq (by rw [e.1]; exact hp))
theorem ChG.upL {w w1 : Wd} (h : ChG w w1) {p j : Nat} (hp : 1 ≤ p ∧ p ≤ 7) (x : Int64) : ChG w (upL w1 p j x) := fun q hq => by
  refine ⟨(h q hq).1, ?_⟩
  rw [← (h q hq).2]
  funext k
  exact upL_ne (fun e => hq (by rw [e.1]; exact hp))
theorem ChI.g {w w1 : Wd} (h : ChI PAu w w1) : ChG w w1 := fun q hq => by
  refine ⟨?_, by rw [h.2]⟩
  funext k
  exact h.1 q k (by unfold PAu; omega)
def Bw (n m k ls : Nat) (w0 w : Wd) : Prop := GOK n m ∧ w.1 1 0 = nI n ∧ w.1 1 1 = nI m ∧ w.1 1 2 = nI (n * m) ∧ w.2 1 3 = lN (2 ^ (n * m) - 1) ∧ w.2 1 4 = lN ls ∧ (∀ x, x < k → w.1 2 x = nI (x / m) ∧ w.1 3 x = nI (x % m)) ∧ ChG w0 w
theorem t_bec_in {f n m a : Nat} {w0 : Wd} {K : Wd → Prop} (ok : GOK n m) (ha : a < n)
    (hcont : ∀ w, Bw n m (m * (a + 1)) (lsS m (a + 1)) w0 w → E f M_G_become 36 [(0, .ref 1), (3, .int (nI (a + 1)))] [] w (qV f K)) :
    ∀ j b w, b + j = m → Bw n m (m * a + b) (lsS m a) w0 w → E f M_G_become 47 [(0, .ref 1), (3, .int (nI a)), (4, .int (nI b))] [] w (qV f K) := by
  have hv := ok.2.2
  have hm40 := ok.m40
  have hn40 := ok.n40
  have hm0 := ok.m0
  intro j
  induction j with
  | zero =>
    intro b w hb hB
    obtain ⟨-, b0, b1, b2, b3, b4, b5, b6⟩ := hB
    have hlt := pr_lt ha (show m - 1 < m by omega)
    refine w_G_become_47 ?_
    rw [b1]
    refine pk_le m b (fun _ w1 e1 a2 e2 => ?_) (fun c => by omega)
    rw [i1, nI_add] at e2
    subst e2
    rw [pk_mul, nI_add, i1, pk_sub (by omega), l_pow (by omega), b4, fb_orL] at e1
    refine hcont w1 ⟨ok, ?_, ?_, ?_, ?_, ?_, fun x hx => ?_, ?_⟩
    · rw [e1, upL_1]; exact b0
    · rw [e1, upL_1]; exact b1
    · rw [e1, upL_1]; exact b2
    · rw [e1, upL_ne (by omega)]; exact b3
    · rw [e1, upL_eq, lsS]
    · rw [e1, upL_1]
      exact b5 x (by rw [Nat.mul_succ] at hx; omega)
    · rw [e1]
      exact b6.upL (by decide) _
  | succ j ih =>
    intro b w hb hB
    obtain ⟨-, b0, b1, b2, b3, b4, b5, b6⟩ := hB
    have hlt := pr_lt ha (show b < m by omega)
    refine w_G_become_47 ?_
    rw [b1]
    refine pk_le m b (fun c => by omega) (fun c => ?_)
    rw [pk_mul, nI_add]
    refine ⟨vp_in_nI (by omega) (by decide), fun w3 e3 => ?_⟩
    rw [nI_clamp (by omega)] at e3
    have q1 : w3.1 1 1 = nI m := by rw [e3, upI_ne (by omega)]; exact b1
    rw [q1, pk_mul, nI_add]
    refine ⟨vp_in_nI (by omega) (by decide), fun w4 e4 a5 e5 => ?_⟩
    rw [nI_clamp (by omega)] at e4
    rw [i1, nI_add] at e5
    subst e5
    refine ih (b + 1) w4 (by omega) ⟨ok, ?_, ?_, ?_, ?_, ?_, fun x hx => ?_, ?_⟩
    · rw [e4, upI_ne (by omega), e3, upI_ne (by omega)]; exact b0
    · rw [e4, upI_ne (by omega)]; exact q1
    · rw [e4, upI_ne (by omega), e3, upI_ne (by omega)]; exact b2
    · rw [e4, e3]; exact b3
    · rw [e4, e3]; exact b4
    · rcases Nat.lt_or_ge x (m * a + b) with h1 | h1
      · rw [e4, upI_ne (by omega), upI_ne (by omega), e3, upI_ne (by omega), upI_ne (by omega)]
        exact b5 x h1
      · have hx2 : x = m * a + b := by omega
        rw [hx2, pr_div (by omega), pr_mod (by omega), e4, upI_ne (by omega), upI_eq, e3, upI_eq]
        exact ⟨rfl, rfl⟩
    · rw [e4, e3]
      exact (b6.upI (by decide) _).upI (by decide) _
theorem t_bec_out {f n m : Nat} {w0 : Wd} {K : Wd → Prop} (ok : GOK n m)
    (hcont : ∀ w, Bw n m (n * m) (lsS m n) w0 w → E f M_G_become 125 [(0, .ref 1), (3, .int (nI 0))] [] w (qV f K)) :
    ∀ j a w, a + j = n → Bw n m (m * a) (lsS m a) w0 w → E f M_G_become 36 [(0, .ref 1), (3, .int (nI a))] [] w (qV f K) := by
  have hn40 := ok.n40
  intro j
  induction j with
  | zero =>
    intro a w ha hB
    have hB2 := hB
    obtain ⟨-, b0, -⟩ := hB
    refine w_G_become_36 ?_
    rw [b0]
    refine pk_le n a (fun _ => ?_) (fun c => by omega)
    refine hcont w ?_
    rw [show a = n by omega, Nat.mul_comm m n] at hB2
    exact hB2
  | succ j ih =>
    intro a w ha hB
    have hB2 := hB
    obtain ⟨-, b0, -⟩ := hB
    refine w_G_become_36 ?_
    rw [b0]
    refine pk_le n a (fun c => by omega) (fun c => ?_)
    exact t_bec_in ok (by omega) (fun w2 h2 => ih (a + 1) w2 (by omega) h2) m 0 w (by omega) hB2
theorem t_bec_ord {f n m : Nat} {w0 : Wd} {K : Wd → Prop} (h : ∀ w, Gd n m w → ChG w0 w → K w) :
    ∀ j x w, x + j = n * m → Bw n m (n * m) (lsS m n) w0 w → (∀ y, y < x → w.1 4 y = nI (ordG n m y)) → E f M_G_become 125 [(0, .ref 1), (3, .int (nI x))] [] w (qV f K) := by
  intro j
  induction j with
  | zero =>
    intro x w hx hB ho
    obtain ⟨ok, b0, b1, b2, b3, b4, b5, b6⟩ := hB
    have hG : Ga n m w := ⟨ok, b0, b1, b2, b5⟩
    have hv := ok.2.2
    refine w_G_become_125 ?_
    rw [b2]
    refine pk_le (n * m) x (fun _ => ?_) (fun c => by omega)
    have ho2 : ∀ y, y < n * m → w.1 4 y = nI (ordG n m y) := fun y hy => ho y (by omega)
    refine t_auts hG b3 ho2 (fun w1 hc hA => h w1 ⟨hG.au hc, by rw [hc.2]; exact b3, by rw [hc.2]; exact b4, fun y hy => by rw [hc.1 4 y (by unfold PAu; omega)]; exact ho2 y hy, hA⟩ (b6.tr hc.g))
  | succ j ih =>
    intro x w hx hB ho
    have hB2 := hB
    obtain ⟨ok, b0, b1, b2, b3, b4, b5, b6⟩ := hB
    have hG : Ga n m w := ⟨ok, b0, b1, b2, b5⟩
    have hv := ok.2.2
    refine w_G_become_125 ?_
    rw [b2]
    refine pk_le (n * m) x (fun c => by omega) (fun c => ?_)
    refine t_findOrder hG (by omega) ⟨vp_in_nI (by omega) (by decide), fun w4 e4 a5 e5 => ?_⟩
    rw [nI_clamp (by omega)] at e4
    rw [i1, nI_add] at e5
    subst e5
    refine ih (x + 1) w4 (by omega) ⟨ok, ?_, ?_, ?_, ?_, ?_, fun y hy => ?_, ?_⟩ (fun y hy => ?_)
    · rw [e4, upI_ne (by omega)]; exact b0
    · rw [e4, upI_ne (by omega)]; exact b1
    · rw [e4, upI_ne (by omega)]; exact b2
    · rw [e4]; exact b3
    · rw [e4]; exact b4
    · rw [e4, upI_ne (by omega), upI_ne (by omega)]; exact b5 y hy
    · rw [e4]; exact b6.upI (by decide) _
    · rcases Nat.lt_or_ge y x with h1 | h1
      · rw [e4, upI_ne (by omega)]; exact ho y h1
      · have : y = x := by omega
        subst this
        rw [e4, upI_eq]
theorem t_become {f n m : Nat} {w : Wd} {K : Wd → Prop} (ok : GOK n m) (h : ∀ w', Gd n m w' → ChG w w' → K w') : RunV f M_G_become [.ref 1, .int (nI n), .int (nI m)] w K := by
  have hv := ok.2.2
  refine r_G_become (fun w1 e1 w2 e2 w3 e3 w4 e4 w5 e5 => ?_)
  rw [pk_mul] at e3
  have q3 : w3.1 1 2 = nI (n * m) := by rw [e3, upI_eq]
  rw [q3, l_pow (by omega), l1_, lN_sub (Nat.one_le_two_pow)] at e4
  refine t_bec_out (w0 := w) ok (fun w6 h6 => t_bec_ord h (n * m) 0 w6 (by omega) h6 (fun y hy => absurd hy (Nat.not_lt_zero y))) n 0 w5 (by omega) ⟨ok, ?_, ?_, ?_, ?_, ?_, fun x hx => ?_, ?_⟩
  · rw [e5, upL_1, e4, upL_1, e3, upI_ne (by omega), e2, upI_ne (by omega), e1, upI_eq]
  · rw [e5, upL_1, e4, upL_1, e3, upI_ne (by omega), e2, upI_eq]
  · rw [e5, upL_1, e4, upL_1]; exact q3
  · rw [e5, upL_ne (by omega), e4, upL_eq]
  · rw [e5, upL_eq]
    rfl
  · rw [Nat.mul_zero] at hx
    exact absurd hx (Nat.not_lt_zero x)
  · rw [e5, e4, e3, e2, e1]
    exact (((((ChG.rf w).upI (by decide) _).upI (by decide) _).upI (by decide) _).upL (by decide) _).upL (by decide) _
