/-- the order of lists -/
theorem cpr_0 {F G : Nat → Nat} : ∀ j a, cpr F G j a = 0 ↔ ∀ i, a ≤ i → i < a + j → F i = G i
  | 0, a => ⟨fun _ i h1 h2 => absurd h2 (by omega), fun _ => rfl⟩
  | j + 1, a => by
    rw [cpr]
    by_cases e : F a = G a
    · rw [if_pos e, cpr_0 j (a + 1)]
      constructor
      · intro h i h1 h2
        rcases Nat.eq_or_lt_of_le h1 with h3 | h3
        · rw [← h3]; exact e
        · exact h i h3 (by omega)
      · intro h i h1 h2
        exact h i (by omega) (by omega)
    · rw [if_neg e]
      constructor
      · intro h
        split at h <;> cases h
      · intro h
        exact absurd (h a (Nat.le_refl a) (by omega)) e
theorem cpr_3 (F G : Nat → Nat) : ∀ j a, cpr F G j a = 0 ∨ cpr F G j a = 1 ∨ cpr F G j a = 2
  | 0, _ => Or.inl rfl
  | j + 1, a => by
    rw [cpr]
    by_cases e : F a = G a
    · rw [if_pos e]
      exact cpr_3 F G j (a + 1)
    · rw [if_neg e]
      split
      · exact Or.inr (Or.inl rfl)
      · exact Or.inr (Or.inr rfl)
theorem cpr_sw {F G : Nat → Nat} : ∀ j a, cpr F G j a = 1 → cpr G F j a = 2
  | 0, _, h => by cases h
  | j + 1, a, h => by
    rw [cpr] at h ⊢
    by_cases e : F a = G a
    · rw [if_pos e] at h
      rw [if_pos e.symm]
      exact cpr_sw j (a + 1) h
    · rw [if_neg e] at h
      rw [if_neg (fun c => e c.symm)]
      by_cases h2 : G a ≤ F a
      · rw [if_neg (by omega)]
      · rw [if_neg h2] at h
        cases h
theorem cpr_ws {F G : Nat → Nat} : ∀ j a, cpr F G j a = 2 → cpr G F j a = 1
  | 0, _, h => by cases h
  | j + 1, a, h => by
    rw [cpr] at h ⊢
    by_cases e : F a = G a
    · rw [if_pos e] at h
      rw [if_pos e.symm]
      exact cpr_ws j (a + 1) h
    · rw [if_neg e] at h
      rw [if_neg (fun c => e c.symm)]
      by_cases h2 : G a ≤ F a
      · rw [if_pos h2] at h
        cases h
      · rw [if_pos (by omega)]
/-- not greater -/
def leL (c : Nat) (F G : Nat → Nat) : Prop := cpr F G c 0 ≠ 1
theorem cpr_tr {F G H : Nat → Nat} : ∀ j a, cpr F G j a ≠ 1 → cpr G H j a ≠ 1 → cpr F H j a ≠ 1
  | 0, _, _, _ => by intro c; cases c
  | j + 1, a, h1, h2 => by
    rw [cpr] at h1 h2 ⊢
    by_cases e1 : F a = G a
    · by_cases e2 : G a = H a
      · rw [if_pos e1] at h1
        rw [if_pos e2] at h2
        rw [if_pos (e1.trans e2)]
        exact cpr_tr j (a + 1) h1 h2
      · rw [if_neg e2] at h2
        rw [if_neg (fun c => e2 (e1.symm.trans c))]
        by_cases h3 : H a ≤ G a
        · rw [if_pos h3] at h2
          exact absurd rfl h2
        · rw [if_neg (by omega)]
          intro c
          cases c
    · rw [if_neg e1] at h1
      by_cases h3 : G a ≤ F a
      · rw [if_pos h3] at h1
        exact absurd rfl h1
      · by_cases e2 : G a = H a
        · rw [if_neg (by omega), if_neg (by omega)]
          intro c
          cases c
        · rw [if_neg e2] at h2
          by_cases h4 : H a ≤ G a
          · rw [if_pos h4] at h2
            exact absurd rfl h2
          · rw [if_neg (by omega), if_neg (by omega)]
            intro c
            cases c
theorem leL.rf (c : Nat) (F : Nat → Nat) : leL c F F := by
  have : cpr F F c 0 = 0 := (cpr_0 c 0).mpr (fun _ _ _ => rfl)
  unfold leL
  rw [this]
  decide
theorem leL.anti {c : Nat} {F G : Nat → Nat} (h1 : leL c F G) (h2 : leL c G F) : ∀ i, i < c → F i = G i := by
  rcases cpr_3 F G c 0 with h | h | h
  · intro i hi
    exact (cpr_0 c 0).mp h i (Nat.zero_le i) (by omega)
  · exact absurd h h1
  · exact absurd (cpr_ws c 0 h) h2
/-- the least of some lists -/
def mnL (c : Nat) (F0 : Nat → Nat) (l : Nat → Nat → Nat) : Nat → (Nat → Nat)
  | 0 => F0
  | k + 1 => if cpr (l k) (mnL c F0 l k) c 0 = 2 then l k else mnL c F0 l k
theorem mnL_le {c : Nat} {F0 : Nat → Nat} {l : Nat → Nat → Nat} : ∀ k, leL c (mnL c F0 l k) F0 ∧ ∀ i, i < k → leL c (mnL c F0 l k) (l i)
  | 0 => ⟨leL.rf c F0, fun i hi => absurd hi (Nat.not_lt_zero i)⟩
  | k + 1 => by
    have ih := mnL_le (c := c) (F0 := F0) (l := l) k
    rw [mnL]
    by_cases h : cpr (l k) (mnL c F0 l k) c 0 = 2
    · rw [if_pos h]
      have h1 : leL c (l k) (mnL c F0 l k) := by
        unfold leL
        rw [h]
        decide
      refine ⟨cpr_tr c 0 h1 ih.1, fun i hi => ?_⟩
      rcases Nat.lt_or_ge i k with h2 | h2
      · exact cpr_tr c 0 h1 (ih.2 i h2)
      · rw [show i = k by omega]
        exact leL.rf c _
    · rw [if_neg h]
      refine ⟨ih.1, fun i hi => ?_⟩
      rcases Nat.lt_or_ge i k with h2 | h2
      · exact ih.2 i h2
      · rw [show i = k by omega]
        intro c2
        exact h (cpr_sw c 0 c2)
theorem mnL_in {c : Nat} {F0 : Nat → Nat} {l : Nat → Nat → Nat} : ∀ k, mnL c F0 l k = F0 ∨ ∃ i, i < k ∧ mnL c F0 l k = l i
  | 0 => Or.inl rfl
  | k + 1 => by
    rw [mnL]
    split
    · exact Or.inr ⟨k, Nat.lt_succ_self k, rfl⟩
    · rcases mnL_in (c := c) (F0 := F0) (l := l) k with h | ⟨i, hi, h⟩
      · exact Or.inl h
      · exact Or.inr ⟨i, Nat.lt_succ_of_lt hi, h⟩
theorem mnL_eq {c N a b : Nat} {l : Nat → Nat → Nat} (ha : a < N) (hb : b < N) : ∀ i, i < c → mnL c (l a) l N i = mnL c (l b) l N i := by
  have h1 := mnL_le (c := c) (F0 := l a) (l := l) N
  have h2 := mnL_le (c := c) (F0 := l b) (l := l) N
  refine leL.anti ?_ ?_
  · rcases mnL_in (c := c) (F0 := l b) (l := l) N with h | ⟨i, hi, h⟩
    · rw [h]; exact h1.2 b hb
    · rw [h]; exact h1.2 i hi
  · rcases mnL_in (c := c) (F0 := l a) (l := l) N with h | ⟨i, hi, h⟩
    · rw [h]; exact h2.2 a ha
    · rw [h]; exact h2.2 i hi
