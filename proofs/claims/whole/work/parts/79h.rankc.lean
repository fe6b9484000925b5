theorem t_rem {a p : Nat} {w : Wd} {K : Int32 → Wd → Prop} (ha : a < 2 ^ 31) (hp : 0 < p) (hp2 : p < 2 ^ 31) (h : K (nI (a % p)) w) : RunI 1 M_E_remainder [.int (nI a), .int (nI p)] w K := by
  refine r_E_remainder (pk_le p 0 (fun c => by omega) (fun _ => ⟨fun c => ?_, ?_⟩))
  · have := nI_z hp2 c
    omega
  · rw [pk_rem ha hp hp2]
    exact h
theorem mul49 {a b : Nat} (ha : a ≤ 7) (hb : b ≤ 7) : a * b ≤ 49 := Nat.mul_le_mul ha hb
theorem t_inv {a p : Nat} {w : Wd} {K : Int32 → Wd → Prop} (hp : isP p) (h0 : a ≠ 0) (ha : a < p) (h : ∀ j, j < p → a * j % p = 1 → K (nI j) w) : RunI 1 M_E_inverse [.int (nI a), .int (nI p)] w K := by
  have hb := hp.b
  obtain ⟨j0, h1, h2, h3⟩ := hp.inv h0 ha
  have key : ∀ d j, j + d = j0 → E 1 M_E_inverse 2 [(0, .int (nI a)), (1, .int (nI p)), (2, .int (nI j))] [] w (qI 1 K) := by
    intro d
    induction d with
    | zero =>
      intro j hj
      have hm := mul49 (a := a) (b := j) (by omega) (by omega)
      refine w_E_inverse_2 (pk_le p j (fun c => by omega) (fun _ => ?_))
      rw [pk_mul]
      refine t_rem (by omega) (by omega) (by omega) ?_
      rw [show j = j0 by omega, h3]
      exact ⟨fun c => absurd rfl c, fun _ => h j0 h2 h3⟩
    | succ d ih =>
      intro j hj
      have hm := mul49 (a := a) (b := j) (by omega) (by omega)
      refine w_E_inverse_2 (pk_le p j (fun c => by omega) (fun _ => ?_))
      rw [pk_mul]
      refine t_rem (by omega) (by omega) (by omega) ⟨fun c a3 e3 => ?_, fun c => ?_⟩
      · rw [i1, nI_add] at e3
        subst e3
        exact ih (j + 1) (by omega)
      · have := Nat.mod_lt (a * j) (show 0 < p by omega)
        exact h j (by omega) (nI_inj (by omega) (by decide) c)
  exact r_E_inverse (key (j0 - 1) 1 (by omega))
theorem t_addB {p v x L : Nat} {t : Nat → Nat} {w0 : Wd} {K : Wd → Prop} (hp : isP p) (hv : w0.1 1 2 = nI v) (v40 : v ≤ 40) (hx : x < v) (ht : ∀ j, j < v → w0.1 22 j = nI (t j) ∧ t j < p) (h0 : t x ≠ 0) (hL : w0.2 21 3 = lN L) (h : ∀ w c, c < p → t x * c % p = 1 → Mo [21, 23] [] w0 w → w.2 21 3 = lN (L ||| 2 ^ x) → (∀ j, j < v → w.1 23 (x * 40 + j) = nI (t j * c % p)) → (∀ i, (∀ j, j < 40 → i ≠ x * 40 + j) → w.1 23 i = w0.1 23 i) → K w) : RunV 1 M_E_addToBasis [.ref 21, .int (nI x), .int (nI p)] w0 K := by
  have hb := hp.b
  refine r_E_addToBasis ⟨vp_in_nI (by omega) (by decide), ?_⟩
  rw [nI_clamp (by omega), (ht x hx).1]
  refine t_inv hp h0 (ht x hx).2 (fun c hc hc1 => ?_)
  have key : ∀ d j w, j + d = v → Mo [23] [] w0 w → (∀ k, k < j → w.1 23 (x * 40 + k) = nI (t k * c % p)) → (∀ i, (∀ j, j < 40 → i ≠ x * 40 + j) → w.1 23 i = w0.1 23 i) → E 1 M_E_addToBasis 14 [(0, .ref 21), (1, .int (nI x)), (2, .int (nI p)), (3, .int (nI c)), (4, .int (nI j))] [] w (qV 1 K) := by
    intro d
    induction d with
    | zero =>
      intro j w hj hm hd ho
      refine w_E_addToBasis_14 ?_
      rw [(hm.pl 1 (by decide) (by decide)).1, (hm.pl 21 (by decide) (by decide)).2, hv, hL, l_pow (by omega), fb_orL]
      refine pk_le v j (fun _ w1 e1 => ?_) (fun c => by omega)
      refine h w1 c hc hc1 ?_ (by rw [e1, upL_eq]) (fun k hk => by rw [e1, upL_1]; exact hd k (by omega)) (fun i hi => by rw [e1, upL_1]; exact ho i hi)
      rw [e1]
      exact (hm.mono (by decide) (fun _ c => absurd c List.not_mem_nil)).upL _ (Or.inl (by decide))
    | succ d ih =>
      intro j w hj hm hd ho
      have hmul := mul49 (a := t j) (b := c) (by have := (ht j (by omega)).2; omega) (by omega)
      refine w_E_addToBasis_14 ?_
      rw [show (40 : Int32) = nI 40 from rfl, pk_mul, nI_add, (hm.pl 1 (by decide) (by decide)).1, (hm.pl 22 (by decide) (by decide)).1, hv, nI_clamp (by omega), (ht j (by omega)).1, pk_mul, nI_clamp (by omega)]
      refine pk_le v j (fun c => by omega) (fun _ => ⟨vp_in_nI (by omega) (by decide), t_rem (by omega) (by omega) (by omega) ⟨vp_in_nI (by omega) (by decide), fun w4 e4 a5 e5 => ?_⟩⟩)
      rw [i1, nI_add] at e5
      subst e5
      refine ih (j + 1) w4 (by omega) (by rw [e4]; exact hm.upI _ (Or.inl (by decide))) (fun k hk => ?_) (fun i hi => ?_)
      · by_cases e : k = j
        · rw [e4, e, upI_eq]
        · rw [e4, upI_ne (by omega)]
          exact hd k (by omega)
      · rw [e4, upI_ne (fun c => hi j (by omega) c.2)]
        exact ho i hi
  exact key v 0 w0 (by omega) (Mo.rf _ _ _) (fun k hk => absurd hk (Nat.not_lt_zero k)) (fun _ _ => rfl)
theorem t_clear {p v x : Nat} {t b : Nat → Nat} {w0 : Wd} {K : Wd → Prop} (hp : isP p) (hv : w0.1 1 2 = nI v) (v40 : v ≤ 40) (hx : x < v) (ht : ∀ j, j < v → w0.1 22 j = nI (t j) ∧ t j < p) (hb : ∀ j, j < v → w0.1 23 (x * 40 + j) = nI (b j) ∧ b j < p) (h : ∀ w, Mo [22] [] w0 w → (∀ j, j < v → w.1 22 j = nI (if x ≤ j then (t j + (p - t x) * b j) % p else t j)) → K w) : RunV 1 M_E_clearColumn [.ref 21, .int (nI x), .int (nI p)] w0 K := by
  have hp2 := hp.b
  have htx := (ht x hx).2
  refine r_E_clearColumn ⟨vp_in_nI (by omega) (by decide), fun a1 e1 => ?_⟩
  rw [nI_clamp (by omega), (ht x hx).1, pk_sub (by omega)] at e1
  subst e1
  have key : ∀ d j w, j + d = v → x ≤ j → Mo [22] [] w0 w → (∀ k, k < v → w.1 22 k = nI (if x ≤ k ∧ k < j then (t k + (p - t x) * b k) % p else t k)) → E 1 M_E_clearColumn 12 [(0, .ref 21), (1, .int (nI x)), (2, .int (nI p)), (3, .int (nI (p - t x))), (4, .int (nI j))] [] w (qV 1 K) := by
    intro d
    induction d with
    | zero =>
      intro j w hj hxj hm hd
      refine w_E_clearColumn_12 ?_
      rw [(hm.pl 1 (by decide) (by decide)).1, hv]
      refine pk_le v j (fun _ => h w hm (fun k hk => ?_)) (fun c => by omega)
      rw [hd k hk]
      by_cases c : x ≤ k
      · rw [if_pos c, if_pos ⟨c, by omega⟩]
      · rw [if_neg c, if_neg (fun q => c q.1)]
    | succ d ih =>
      intro j w hj hxj hm hd
      have h1 := (ht j (by omega)).2
      have h2 := (hb j (by omega)).2
      have hmul := mul49 (a := p - t x) (b := b j) (by omega) (by omega)
      have hdj := hd j (by omega)
      rw [if_neg (by omega)] at hdj
      refine w_E_clearColumn_12 ?_
      rw [show (40 : Int32) = nI 40 from rfl, pk_mul, nI_add, (hm.pl 1 (by decide) (by decide)).1, (hm.pl 23 (by decide) (by decide)).1, hv, nI_clamp (by omega), nI_clamp (by omega), hdj, (hb j (by omega)).1, pk_mul, nI_add]
      refine pk_le v j (fun c => by omega) (fun _ => ⟨vp_in_nI (by omega) (by decide), vp_in_nI (by omega) (by decide), t_rem (by omega) (by omega) (by omega) ⟨vp_in_nI (by omega) (by decide), fun w3 e3 a4 e4 => ?_⟩⟩)
      rw [i1, nI_add] at e4
      subst e4
      refine ih (j + 1) w3 (by omega) (by omega) (by rw [e3]; exact hm.upI _ (Or.inl (by decide))) (fun k hk => ?_)
      by_cases e : k = j
      · subst e
        rw [e3, upI_eq, if_pos ⟨hxj, by omega⟩]
      · rw [e3, upI_ne (by omega), hd k hk]
        by_cases c : x ≤ k ∧ k < j
        · rw [if_pos c, if_pos ⟨c.1, by omega⟩]
        · rw [if_neg c, if_neg (by omega)]
  exact key (v - x) x w0 (by omega) (Nat.le_refl x) (Mo.rf _ _ _) (fun k hk => by rw [if_neg (by omega)]; exact (ht k hk).1)
/-- the rows that stand -/
def Bs (p v L : Nat) (P : Nat → Nat → Nat) (w : Wd) : Prop := w.2 21 3 = lN L ∧ L < 2 ^ v ∧ ∀ y, y < v → L.testBit y = true → ∀ j, j < v → w.1 23 (y * 40 + j) = nI (P y j) ∧ P y j < p
def Et (v L : Nat) (P : Nat → Nat → Nat) : Prop := ∀ y, y < v → L.testBit y = true → (∀ j, j < y → P y j = 0) ∧ P y y = 1
def Gn (v L : Nat) (P : Nat → Nat → Nat) (C : (Nat → Nat) → Prop) : Prop := ∀ y, y < v → L.testBit y = true → C (P y)
theorem Bs.mo {p v L : Nat} {P : Nat → Nat → Nat} {w w1 : Wd} (h : Bs p v L P w) (hm : Mo [22] [] w w1) : Bs p v L P w1 := by
  refine ⟨?_, h.2.1, fun y hy hl j hj => ?_⟩
  · rw [(hm.pl 21 (by decide) (by decide)).2]
    exact h.1
  · rw [(hm.pl 23 (by decide) (by decide)).1]
    exact h.2.2 y hy hl j hj
def upP (P : Nat → Nat → Nat) (x : Nat) (g : Nat → Nat) : Nat → Nat → Nat := fun y => if y = x then g else P y
theorem upP_eq (P : Nat → Nat → Nat) (x : Nat) (g : Nat → Nat) : upP P x g x = g := if_pos rfl
theorem upP_ne {P : Nat → Nat → Nat} {x y : Nat} {g : Nat → Nat} (h : y ≠ x) : upP P x g y = P y := if_neg h
theorem t_joins {p v L : Nat} {P : Nat → Nat → Nat} {t : Nat → Nat} {w0 : Wd} {K : Bool → Wd → Prop} (hp : isP p) (hv : w0.1 1 2 = nI v) (v40 : v ≤ 40) (hB : Bs p v L P w0) (hE : Et v L P) (ht : ∀ j, j < v → w0.1 22 j = nI (t j) ∧ t j < p)
    (hF : ∀ w, Mo [21, 22, 23] [] w0 w → Bs p v L P w → (∀ C, Clo p v C → Gn v L P C → C t) → K false w)
    (hT : ∀ w L2 P2, Mo [21, 22, 23] [] w0 w → Bs p v L2 P2 w → Et v L2 P2 → fb_ct (fun y => L2.testBit y) v = fb_ct (fun y => L.testBit y) v + 1 → (∀ C, Clo p v C → (Gn v L2 P2 C ↔ (Gn v L P C ∧ C t))) → K true w) : RunZ 1 M_E_joinsBasis [.ref 21, .int (nI p)] w0 K := by
  have hp2 := hp.b
  have key : ∀ d x w (u : Nat → Nat), x + d = v → Mo [22] [] w0 w → (∀ j, j < v → w.1 22 j = nI (u j) ∧ u j < p) → (∀ j, j < x → u j = 0) → (∀ C, Clo p v C → Gn v L P C → (C t ↔ C u)) → E 1 M_E_joinsBasis 2 [(0, .ref 21), (1, .int (nI p)), (2, .int (nI x))] [] w (qZ 1 K) := by
    intro d
    induction d with
    | zero =>
      intro x w u hxd hm hu hz hC
      refine w_E_joinsBasis_2 ?_
      rw [(hm.pl 1 (by decide) (by decide)).1, hv]
      refine pk_le v x (fun _ => hF w (hm.mono (by decide) (fun _ c => absurd c List.not_mem_nil)) (hB.mo hm) (fun C hc hg => (hC C hc hg).mpr (hc.1 u (fun y hy => ?_)))) (fun c => by omega)
      rw [hz y (by omega)]
      exact Nat.zero_mod p
    | succ d ih =>
      intro x w u hxd hm hu hz hC
      have hBw := hB.mo hm
      have hvw : w.1 1 2 = nI v := by rw [(hm.pl 1 (by decide) (by decide)).1]; exact hv
      have hux := (hu x (by omega)).2
      have hL63 : L < 2 ^ 63 := Nat.lt_of_lt_of_le hBw.2.1 (Nat.pow_le_pow_right (by decide) (by omega))
      refine w_E_joinsBasis_2 ?_
      rw [hvw, nI_clamp (by omega), (hu x (by omega)).1, hBw.1]
      refine pk_le v x (fun c => by omega) (fun _ => ⟨vp_in_nI (by omega) (by decide), fun c a1 e1 => ?_, fun c => t_holds hL63 (by omega) ?_⟩)
      · rw [i1, nI_add] at e1
        subst e1
        have h0 := nI_z (by omega) c
        refine ih (x + 1) w u (by omega) hm hu (fun j hj => ?_) hC
        by_cases e : j = x
        · rw [e]; exact h0
        · exact hz j (by omega)
      · have h0 : u x ≠ 0 := fun e => c (by rw [e]; rfl)
        cases hl : L.testBit x with
        | true =>
          have hEx := hE x (by omega) hl
          refine zt' (t_clear hp hvw v40 (by omega) hu (fun j hj => hBw.2.2 x (by omega) hl j hj) (fun w4 hm4 hd4 a5 e5 => ?_))
          rw [i1, nI_add] at e5
          subst e5
          refine ih (x + 1) w4 _ (by omega) (hm.tr hm4) (fun j hj => ⟨hd4 j hj, ?_⟩) (fun j hj => ?_) (fun C hc hg => ?_)
          · split
            · exact Nat.mod_lt _ (by omega)
            · exact (hu j hj).2
          · by_cases e : j = x
            · subst e
              rw [if_pos (Nat.le_refl j), hEx.2, Nat.mul_one, show u j + (p - u j) = p by omega, Nat.mod_self]
            · rw [if_neg (by omega)]
              exact hz j (by omega)
          · refine (hC C hc hg).trans (clo_step (c := p - u x) (d := u x) (g := P x) hc (by rw [Nat.sub_add_cancel (by omega)]; exact Nat.mod_self p) (hg x (by omega) hl) (fun j hj => ?_))
            show (if x ≤ j then _ else _) % p = _
            by_cases e : x ≤ j
            · rw [if_pos e, Nat.mod_mod]
            · rw [if_neg e, hEx.1 j (by omega), Nat.mul_zero, Nat.add_zero]
        | false =>
          refine zf' (t_addB hp hvw v40 (by omega) hu h0 hBw.1 (fun w6 c hc hc1 hm6 hL6 hd6 ho6 => ?_))
          have hm06 : Mo [21, 22, 23] [] w0 w6 := (hm.mono (by decide) (fun _ c => absurd c List.not_mem_nil)).tr (hm6.mono (by decide) (fun _ c => absurd c List.not_mem_nil))
          have bit : ∀ y, (L ||| 2 ^ x).testBit y = (L.testBit y || decide (y = x)) := fun y => fb_bit_set L x y
          refine hT w6 (L ||| 2 ^ x) (upP P x (fun j => u j * c % p)) hm06 ⟨hL6, Nat.or_lt_two_pow hBw.2.1 (Nat.pow_lt_pow_right (by decide) (by omega)), fun y hy hly j hj => ?_⟩ (fun y hy hly => ?_) ?_ (fun C hC2 => ?_)
          · by_cases e : y = x
            · rw [e, upP_eq]
              exact ⟨hd6 j hj, Nat.mod_lt _ (by omega)⟩
            · rw [upP_ne e]
              rw [bit, decide_eq_false e, Bool.or_false] at hly
              rw [ho6 _ (fun k hk => by omega)]
              exact hBw.2.2 y hy hly j hj
          · by_cases e : y = x
            · rw [e, upP_eq]
              refine ⟨fun j hj => ?_, hc1⟩
              show u j * c % p = 0
              rw [hz j (by omega), Nat.zero_mul, Nat.zero_mod]
            · rw [upP_ne e]
              rw [bit, decide_eq_false e, Bool.or_false] at hly
              exact hE y hy hly
          · have h1 := fb_ct_upd (fun y => L.testBit y) true (i := x) (n := v) (by omega)
            rw [hl, if_neg (by decide), if_pos rfl, Nat.add_zero] at h1
            rw [← h1]
            refine fb_ct_cong (fun y hy => ?_)
            show (L ||| 2 ^ x).testBit y = if y = x then true else L.testBit y
            rw [bit]
            by_cases e : y = x
            · rw [if_pos e, decide_eq_true e, Bool.or_true]
            · rw [if_neg e, decide_eq_false e, Bool.or_false]
          · have step : Gn v L P C → (C t ↔ C (fun j => u j * c % p)) := fun hg => (hC C hC2 hg).trans (clo_mul (c := c) (d := u x) hC2 (by rw [Nat.mul_comm, hc1, Nat.mod_eq_of_lt (by omega)]) (fun j hj => Nat.mod_mod _ _))
            constructor
            · intro hg
              have hgL : Gn v L P C := fun y hy hly => by
                have e : y ≠ x := fun e => by rw [e, hl] at hly; cases hly
                have := hg y hy (by rw [bit, hly, Bool.true_or])
                rw [upP_ne e] at this
                exact this
              have h2 := hg x (by omega) (by rw [bit, decide_eq_true rfl, Bool.or_true])
              rw [upP_eq] at h2
              exact ⟨hgL, (step hgL).mpr h2⟩
            · rintro ⟨hg, hct⟩ y hy hly
              by_cases e : y = x
              · rw [e, upP_eq]
                exact (step hg).mp hct
              · rw [upP_ne e]
                rw [bit, decide_eq_false e, Bool.or_false] at hly
                exact hg y hy hly
  exact r_E_joinsBasis (key v 0 w0 t (by omega) (Mo.rf _ _ _) ht (fun j hj => absurd hj (Nat.not_lt_zero j)) (fun C _ _ => Iff.rfl))
/-- the rows of the design -/
def rwS (f : Nat → Nat) (i x : Nat) : Nat := if (f i).testBit x then 1 else 0
theorem t_indep {p v : Nat} {D : Dl} {w0 : Wd} {K : Int32 → Wd → Prop} (hp : isP p) (hv : w0.1 1 2 = nI v) (v40 : v ≤ 40) (hD : dW D w0) (h240 : D.1 ≤ 240) (hlt : ∀ i, D.2 i < 2 ^ 40) (h : ∀ w, Mo [21, 22, 23] [] w0 w → K (nI (rkN p v D.1 (rwS D.2))) w) : RunI 1 M_E_independentRows [.ref 21, .ref 19, .int (nI p)] w0 K := by
  have hp2 := hp.b
  have key : ∀ d i w L P, i + d = D.1 → Mo [21, 22, 23] [] w0 w → Bs p v L P w → Et v L P → (∀ C, Clo p v C → ((∀ k, k < i → C (rwS D.2 k)) ↔ Gn v L P C)) → E 1 M_E_independentRows 10 [(0, .ref 21), (1, .ref 19), (2, .int (nI p)), (3, .int (nI (fb_ct (fun y => L.testBit y) v))), (4, .int (nI i))] [] w (qI 1 K) := by
    intro d
    induction d with
    | zero =>
      intro i w L P hi hm hB hE hC
      refine w_E_independentRows_10 ?_
      rw [(hm.pl 19 (by decide) (by decide)).1, hD.1]
      refine pk_le D.1 i (fun _ => ?_) (fun c => by omega)
      rw [rkN_eq (R := D.1) (rows := rwS D.2) (P := P) hp ⟨fun y hy hl => ⟨(hE y hy hl).1, by rw [(hE y hy hl).2, Nat.mod_eq_of_lt (by omega)]; decide⟩, fun C hc => by rw [show D.1 = i by omega]; exact hC C hc⟩]
      exact h w hm
    | succ d ih =>
      intro i w L P hi hm hB hE hC
      have hvw : w.1 1 2 = nI v := by rw [(hm.pl 1 (by decide) (by decide)).1]; exact hv
      have hrv := fb_ct_le (fun y => L.testBit y) v
      refine w_E_independentRows_10 ?_
      rw [(hm.pl 19 (by decide) (by decide)).1, hD.1, hvw]
      refine pk_le D.1 i (fun c => by omega) (fun _ => pk_le v (fb_ct (fun y => L.testBit y) v) (fun c => ?_) (fun c => ?_))
      · have hall : ∀ y, y < v → L.testBit y = true := (fb_ct_all (p := fun y => L.testBit y)).mp (by omega)
        rw [rkN_eq (R := D.1) (rows := rwS D.2) (P := P) hp ⟨fun y hy hl => ⟨(hE y hy hl).1, by rw [(hE y hy hl).2, Nat.mod_eq_of_lt (by omega)]; decide⟩, fun C hc => ⟨fun hr => (hC C hc).mp (fun k hk => hr k (by omega)), fun hg k _ => clo_all hc (by omega) hall hE hg v 0 (rwS D.2 k) (by omega) (fun x hx => absurd hx (Nat.not_lt_zero x))⟩⟩]
        exact h w hm
      · have inner : ∀ e x w2, x + e = v → Mo [22] [] w w2 → (∀ j, j < x → w2.1 22 j = nI (rwS D.2 i j)) → E 1 M_E_independentRows 33 [(0, .ref 21), (1, .ref 19), (2, .int (nI p)), (3, .int (nI (fb_ct (fun y => L.testBit y) v))), (4, .int (nI i)), (5, .int (nI x))] [] w2 (qI 1 K) := by
          intro e
          induction e with
          | zero =>
            intro x w2 hx hm2 hd
            have hv2 : w2.1 1 2 = nI v := by rw [(hm2.pl 1 (by decide) (by decide)).1]; exact hvw
            have hm02 : Mo [21, 22, 23] [] w0 w2 := hm.tr (hm2.mono (by decide) (fun _ c => absurd c List.not_mem_nil))
            refine w_E_independentRows_33 ?_
            rw [hv2]
            refine pk_le v x (fun _ => t_joins (t := rwS D.2 i) hp hv2 v40 (hB.mo hm2) hE (fun j hj => ⟨hd j (by omega), ?_⟩) (fun w3 hm3 hB3 hC3 => zf (fun a3 e3 => ?_)) (fun w3 L2 P2 hm3 hB3 hE3 hct hC3 => zt (fun a4 e4 a5 e5 => ?_))) (fun c => by omega)
            · unfold rwS
              split <;> omega
            · rw [i1, nI_add] at e3
              subst e3
              refine ih (i + 1) w3 L P (by omega) (hm02.tr hm3) hB3 hE (fun C hc => ⟨fun hr => (hC C hc).mp (fun k hk => hr k (by omega)), fun hg k hk => ?_⟩)
              by_cases e : k = i
              · rw [e]
                exact hC3 C hc hg
              · exact (hC C hc).mpr hg k (by omega)
            · rw [i1, nI_add, ← hct] at e4
              rw [i1, nI_add] at e5
              subst e4
              subst e5
              refine ih (i + 1) w3 L2 P2 (by omega) (hm02.tr hm3) hB3 hE3 (fun C hc => ?_)
              rw [hC3 C hc, ← hC C hc]
              constructor
              · intro hr
                exact ⟨fun k hk => hr k (by omega), hr i (by omega)⟩
              · rintro ⟨hr, hi2⟩ k hk
                by_cases e : k = i
                · rw [e]; exact hi2
                · exact hr k (by omega)
          | succ e ih2 =>
            intro x w2 hx hm2 hd
            have hv2 : w2.1 1 2 = nI v := by rw [(hm2.pl 1 (by decide) (by decide)).1]; exact hvw
            have hm02 : Mo [21, 22, 23] [] w0 w2 := hm.tr (hm2.mono (by decide) (fun _ c => absurd c List.not_mem_nil))
            have hlt2 := hlt i
            refine w_E_independentRows_33 ?_
            rw [hv2, nI_clamp (by omega), (hm02.pl 20 (by decide) (by decide)).2, hD.2 i (by omega)]
            refine pk_le v x (fun c => by omega) (fun _ => ⟨vp_in_nI (by omega) (by decide), t_holds (by omega) (by omega) ?_⟩)
            have nxt : ∀ w3, w3 = upI w2 22 (nI x).toNatClampNeg (nI (rwS D.2 i x)) → E 1 M_E_independentRows 33 [(0, .ref 21), (1, .ref 19), (2, .int (nI p)), (3, .int (nI (fb_ct (fun y => L.testBit y) v))), (4, .int (nI i)), (5, .int (nI (x + 1)))] [] w3 (qI 1 K) := fun w3 e3 => by
              rw [nI_clamp (by omega)] at e3
              refine ih2 (x + 1) w3 (by omega) (by rw [e3]; exact hm2.upI _ (Or.inl (by decide))) (fun j hj => ?_)
              by_cases e : j = x
              · rw [e3, e, upI_eq]
              · rw [e3, upI_ne (by omega)]
                exact hd j (by omega)
            cases hb : (D.2 i).testBit x with
            | false =>
              refine zf ⟨vp_in_nI (by omega) (by decide), fun w8 e8 a9 e9 => ?_⟩
              rw [i1, nI_add] at e9
              subst e9
              refine nxt w8 (by rw [e8]; unfold rwS; rw [hb]; rfl)
            | true =>
              refine zt ⟨vp_in_nI (by omega) (by decide), fun w8 e8 a9 e9 => ?_⟩
              rw [i1, nI_add] at e9
              subst e9
              refine nxt w8 (by rw [e8]; unfold rwS; rw [hb]; rfl)
        exact inner v 0 w (by omega) (Mo.rf _ _ _) (fun j hj => absurd hj (Nat.not_lt_zero j))
  refine r_E_independentRows (fun w1 e1 => ?_)
  have h0 : fb_ct (fun y => (0 : Nat).testBit y) v = 0 := fb_ct_zero.mpr (fun k _ => Nat.zero_testBit k)
  have h2 := key D.1 0 w1 0 (fun _ _ => 0) (by omega) (by rw [e1]; exact (Mo.rf _ _ _).upL _ (Or.inl (by decide))) ⟨by rw [e1, upL_eq]; rfl, Nat.two_pow_pos v, fun y hy hl => by rw [Nat.zero_testBit] at hl; cases hl⟩ (fun y hy hl => by rw [Nat.zero_testBit] at hl; cases hl) (fun C _ => ⟨fun _ y hy hl => (by rw [Nat.zero_testBit] at hl; cases hl), fun _ k hk => absurd hk (Nat.not_lt_zero k)⟩)
  rw [h0] at h2
  exact h2
