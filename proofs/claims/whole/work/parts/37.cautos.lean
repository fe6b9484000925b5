/-- an automorphism's images have the orders n and m -/
theorem aut_ord {n m u z : Nat} (ok : GOK n m) (hu : u < n * m) (hz : z < n * m) (h : isAut n m u z = true) : ordG n m u = n ∧ ordG n m z = m := by
  have h3 := h
  simp only [isAut, Bool.and_eq_true, decide_eq_true_eq] at h3
  have hn := ok.n0
  have hm := ok.m0
  constructor
  · rcases Nat.lt_trichotomy (ordG n m u) n with h1 | h1 | h1
    · exfalso
      have hp := ord_pos n m u
      have e : gF n m u z (m * ordG n m u + 0) = gF n m u z 0 := by
        rw [gF_0 ok]
        unfold gF
        rw [pr_div hm, pr_mod hm, ord_yes ok, gM_0, gA_0 ok ok.v0]
      have := aut_inj ok h (pr_lt h1 hm) ok.v0 e
      have h9 := Nat.mul_pos hm hp
      omega
    · exact h1
    · exact absurd h3.1 (ord_no (by omega) h1)
  · rcases Nat.lt_trichotomy (ordG n m z) m with h1 | h1 | h1
    · exfalso
      have hp := ord_pos n m z
      have hlt : ordG n m z < n * m := Nat.lt_of_lt_of_le h1 (by have := ok.mv; omega)
      have e : gF n m u z (ordG n m z) = gF n m u z 0 := by
        rw [gF_0 ok]
        unfold gF
        rw [Nat.div_eq_of_lt h1, Nat.mod_eq_of_lt h1, ord_yes ok, gM_0, gA_0 ok ok.v0]
      have := aut_inj ok h hlt ok.v0 e
      omega
    · exact h1
    · exact absurd h3.2.1 (ord_no (by omega) h1)
theorem aut_iff {n m u z : Nat} (ok : GOK n m) (hu : u < n * m) (hz : z < n * m) : isAut n m u z = true ↔ ordG n m z = m ∧ ordG n m u = n ∧ imS (gF n m u z) (2 ^ (n * m) - 1) (n * m) = 2 ^ (n * m) - 1 := by
  constructor
  · intro h
    have h1 := aut_ord ok hu hz h
    simp only [isAut, Bool.and_eq_true, decide_eq_true_eq] at h
    exact ⟨h1.2, h1.1, h.2.2⟩
  · rintro ⟨h1, h2, h3⟩
    simp only [isAut, Bool.and_eq_true, decide_eq_true_eq]
    refine ⟨?_, ?_, h3⟩
    · have := ord_yes ok u
      rwa [h2] at this
    · have := ord_yes ok z
      rwa [h1] at this
/-- the ints may have changed where P says -/
def ChI (P : Nat → Nat → Prop) (w0 w : Wd) : Prop := (∀ q k, ¬ P q k → w.1 q k = w0.1 q k) ∧ w.2 = w0.2
theorem ChI.rf (P : Nat → Nat → Prop) (w : Wd) : ChI P w w := ⟨fun _ _ _ => rfl, rfl⟩
theorem ChI.tr {P : Nat → Nat → Prop} {w w1 w2 : Wd} (h : ChI P w w1) (h2 : ChI P w1 w2) : ChI P w w2 := ⟨fun q k hq => (h2.1 q k hq).trans (h.1 q k hq), h2.2.trans h.2⟩
theorem ChI.up {P : Nat → Nat → Prop} {w w1 : Wd} (h : ChI P w w1) {q j : Nat} (hp : P q j) (x : Int32) : ChI P w (upI w1 q j x) := by
  refine ⟨fun q2 k hq => ?_, h.2⟩
  rw [upI_ne (fun e => hq (by rw [e.1, e.2]; exact hp))]
  exact h.1 q2 k hq
theorem OnI.ch {P : Nat → Nat → Prop} {p : Nat} {w w1 : Wd} (h : OnI p w w1) (hp : ∀ k, P p k) : ChI P w w1 := by
  refine ⟨fun q k hq => ?_, h.2⟩
  by_cases e : q = p
  · subst e
    exact absurd (hp k) hq
  · rw [h.1 q e]
def PAu (q k : Nat) : Prop := q = 5 ∨ q = 6 ∨ q = 7 ∨ (q = 1 ∧ k = 5)
theorem Ga.ch {n m : Nat} {P : Nat → Nat → Prop} {w w' : Wd} (h : Ga n m w) (hc : ChI P w w') (h1 : ∀ k, k < 3 → ¬ P 1 k) (h2 : ∀ k, ¬ P 2 k) (h3 : ∀ k, ¬ P 3 k) : Ga n m w' := by
  obtain ⟨ok, e0, e1, e2, e3⟩ := h
  refine ⟨ok, ?_, ?_, ?_, fun x hx => ?_⟩
  · rw [hc.1 1 0 (h1 0 (by decide))]; exact e0
  · rw [hc.1 1 1 (h1 1 (by decide))]; exact e1
  · rw [hc.1 1 2 (h1 2 (by decide))]; exact e2
  · rw [hc.1 2 x (h2 x), hc.1 3 x (h3 x)]; exact e3 x hx
theorem Ga.au {n m : Nat} {w w' : Wd} (h : Ga n m w) (hc : ChI PAu w w') : Ga n m w' := h.ch hc (fun k hk => by unfold PAu; omega) (fun k => by unfold PAu; omega) (fun k => by unfold PAu; omega)
/-- the list of automorphisms as the rows hold it -/
def AuW (l : List (Nat × Nat)) (w : Wd) : Prop := w.1 1 5 = nI l.length ∧ ∀ k, k < l.length → w.1 6 k = nI (l.getD k (0, 0)).1 ∧ w.1 7 k = nI (l.getD k (0, 0)).2
theorem t_listIf {f n m u z : Nat} {l : List (Nat × Nat)} {w : Wd} {K : Wd → Prop} (hG : Ga n m w) (he : w.2 1 3 = lN (2 ^ (n * m) - 1)) (hA : AuW l w) (hu : u < n * m) (hz : z < n * m)
    (hl : l.length + 1 ≤ 480 ∨ ¬ imS (gF n m u z) (2 ^ (n * m) - 1) (n * m) = 2 ^ (n * m) - 1) (hl2 : l.length ≤ 480)
    (h : ∀ w', ChI PAu w w' → AuW (l ++ (if imS (gF n m u z) (2 ^ (n * m) - 1) (n * m) = 2 ^ (n * m) - 1 then [(u, z)] else [])) w' → K w') : RunV f M_G_listIfAutomorphism [.ref 1, .int (nI u), .int (nI z)] w K := by
  have ok := hG.1
  have hv := ok.2.2
  have hfull : 2 ^ (n * m) - 1 < 2 ^ 63 := by
    have : 2 ^ (n * m) ≤ 2 ^ 40 := Nat.pow_le_pow_right (by decide) hv
    omega
  refine r_G_listIfAutomorphism (t_fillMap rfl (Nf_8 (by decide)) hG (by decide) hu hz (fun w1 ho hr => ?_))
  have hG1 := hG.on ho (by decide) (by decide) (by decide)
  have hc1 : ChI PAu w w1 := ho.ch (fun k => Or.inl rfl)
  have e1 : w1.2 1 3 = lN (2 ^ (n * m) - 1) := by rw [ho.2]; exact he
  rw [e1]
  refine t_mapped rfl (Nf_8 (by decide)) hG1 hfull (φ := gF n m u z) (fun x hx => ⟨hr x hx, by have := gF_lt ok u z x; omega⟩) ?_
  have him : imS (gF n m u z) (2 ^ (n * m) - 1) (n * m) < 2 ^ 63 := by
    have h1 := imS_lt (φ := gF n m u z) (S := 2 ^ (n * m) - 1) (v := n * m) (k := n * m) (fun x _ => gF_lt ok u z x)
    omega
  rw [e1, fb_lN_inj him hfull]
  have hA1 : AuW l w1 := by
    refine ⟨?_, fun k hk => ?_⟩
    · rw [ho.1 1 (by decide)]; exact hA.1
    · rw [ho.1 6 (by decide), ho.1 7 (by decide)]; exact hA.2 k hk
  refine ⟨fun c => ?_, fun c => ?_⟩
  · refine h w1 hc1 ?_
    rw [if_neg c, List.append_nil]
    exact hA1
  · have hl1 : l.length + 1 ≤ 480 := by
      rcases hl with h1 | h1
      · exact h1
      · exact absurd c h1
    rw [hA1.1]
    refine pk_le 480 l.length (fun c => by omega) (fun c2 => ⟨vp_in_nI (by omega) (by decide), fun w4 e4 => ?_⟩)
    rw [nI_clamp (by omega)] at e4
    have q4 : w4.1 1 5 = nI l.length := by rw [e4, upI_ne (by omega)]; exact hA1.1
    rw [q4]
    refine ⟨vp_in_nI (by omega) (by decide), fun w5 e5 w6 e6 => ?_⟩
    rw [nI_clamp (by omega)] at e5
    have q5 : w5.1 1 5 = nI l.length := by rw [e5, upI_ne (by omega)]; exact q4
    rw [q5, i1, nI_add] at e6
    have hc6 : ChI PAu w w6 := by
      rw [e6, e5, e4]
      exact ((hc1.up (q := 6) (Or.inr (Or.inl rfl)) _).up (q := 7) (Or.inr (Or.inr (Or.inl rfl))) _).up (q := 1) (Or.inr (Or.inr (Or.inr ⟨rfl, rfl⟩))) _
    refine h w6 hc6 ?_
    rw [if_pos c]
    refine ⟨?_, fun k hk => ?_⟩
    · rw [e6, upI_eq, List.length_append]
      rfl
    · rw [List.length_append] at hk
      simp only [List.length_cons, List.length_nil] at hk
      rcases Nat.lt_or_ge k l.length with h1 | h1
      · have hg : (l ++ [(u, z)]).getD k (0, 0) = l.getD k (0, 0) := by
          simp only [List.getD_eq_getElem?_getD]
          rw [List.getElem?_append_left h1]
        rw [hg, e6, upI_ne (by omega), upI_ne (by omega), e5, upI_ne (by omega), upI_ne (by omega), e4, upI_ne (by omega), upI_ne (by omega)]
        exact hA1.2 k h1
      · have hk2 : k = l.length := by omega
        subst hk2
        have hg : (l ++ [(u, z)]).getD l.length (0, 0) = (u, z) := by
          simp only [List.getD_eq_getElem?_getD]
          rw [List.getElem?_append_right (Nat.le_refl _), Nat.sub_self]
          rfl
        rw [hg, e6, upI_ne (by omega), upI_ne (by omega), e5, upI_ne (by omega), upI_eq, e4, upI_eq]
        exact ⟨rfl, rfl⟩
