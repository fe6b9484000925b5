def cU (n m k : Nat) : Nat := fb_ct (fun u => decide (gM n m n u = 0)) k
def cZ (n m k : Nat) : Nat := fb_ct (fun z => decide (gM n m m z = 0)) k
theorem auI_len (n m z : Nat) : ∀ k, (auI n m z k).length ≤ (if gM n m m z = 0 then cU n m k else 0)
  | 0 => by simp [auI]
  | k + 1 => by
    have ih := auI_len n m z k
    rw [auI, List.length_append]
    by_cases h : isAut n m k z = true
    · rw [if_pos h]
      have h2 : gM n m n k = 0 ∧ gM n m m z = 0 := by
        simp only [isAut, Bool.and_eq_true, decide_eq_true_eq] at h
        exact ⟨h.1, h.2.1⟩
      rw [if_pos h2.2] at ih ⊢
      unfold cU at ih ⊢
      rw [fb_ct_succ, if_pos (decide_eq_true h2.1)]
      simp only [List.length_cons, List.length_nil]
      omega
    · rw [if_neg h]
      have : cU n m k ≤ cU n m (k + 1) := by unfold cU; exact fb_ct_mono _ (by omega)
      simp only [List.length_nil]
      split at ih
      · rw [if_pos (by assumption)]
        omega
      · rw [if_neg (by assumption)]
        omega
theorem auO_len (n m : Nat) : ∀ k, (auO n m k).length ≤ cZ n m k * cU n m (n * m)
  | 0 => by simp [auO]
  | k + 1 => by
    have ih := auO_len n m k
    have h1 := auI_len n m k (n * m)
    rw [auO, List.length_append]
    unfold cZ at ih ⊢
    rw [fb_ct_succ, Nat.add_mul]
    by_cases h : gM n m m k = 0
    · rw [if_pos h] at h1
      rw [if_pos (decide_eq_true h), Nat.one_mul]
      omega
    · rw [if_neg h] at h1
      omega
def autc (n m : Nat) : Bool := !(decide (2 ≤ n ∧ 1 ≤ m ∧ n * m ≤ 40)) || (decide (cZ n m (n * m) * cU n m (n * m) ≤ 480) || decide ((n = 4 ∧ m = 8) ∨ (n = 8 ∧ m = 4) ∨ (n = 5 ∧ m = 5) ∨ (n = 6 ∧ m = 6)))
theorem aut_k0 : ∀ n, n < 41 → ∀ m, m < 41 → autc n m = true := by decide +kernel
theorem aut_k1 (n : Nat) (hn : n < 41) (m : Nat) (hm : m < 41) (h : 2 ≤ n ∧ 1 ≤ m ∧ n * m ≤ 40) : cZ n m (n * m) * cU n m (n * m) ≤ 480 ∨ ((n = 4 ∧ m = 8) ∨ (n = 8 ∧ m = 4) ∨ (n = 5 ∧ m = 5) ∨ (n = 6 ∧ m = 6)) := by
  have h1 := aut_k0 n hn m hm
  unfold autc at h1
  rw [decide_eq_true h] at h1
  simp only [Bool.not_true, Bool.false_or, Bool.or_eq_true, decide_eq_true_eq] at h1
  exact h1
theorem aut_48 : (autL 4 8).length ≤ 480 := by decide +kernel
theorem aut_84 : (autL 8 4).length ≤ 480 := by decide +kernel
theorem aut_55 : (autL 5 5).length ≤ 480 := by decide +kernel
theorem aut_66 : (autL 6 6).length ≤ 480 := by decide +kernel
theorem aut480 {n m : Nat} (h : GOK n m) : (autL n m).length ≤ 480 := by
  rcases aut_k1 n (by have := h.n40; omega) m (by have := h.m40; omega) h with h1 | h1
  · exact Nat.le_trans (auO_len n m (n * m)) h1
  · rcases h1 with ⟨rfl, rfl⟩ | ⟨rfl, rfl⟩ | ⟨rfl, rfl⟩ | ⟨rfl, rfl⟩
    · exact aut_48
    · exact aut_84
    · exact aut_55
    · exact aut_66
