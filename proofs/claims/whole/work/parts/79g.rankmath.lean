/-- sets of rows that hold every combination -/
def Clo (p v : Nat) (C : (Nat → Nat) → Prop) : Prop := (∀ f, (∀ x, x < v → f x % p = 0) → C f) ∧ ∀ (f g h : Nat → Nat) (c : Nat), C f → C g → (∀ x, x < v → h x % p = (f x + c * g x) % p) → C h
def isP (p : Nat) : Prop := p = 2 ∨ p = 3 ∨ p = 5 ∨ p = 7
theorem isP.b {p : Nat} (h : isP p) : 2 ≤ p ∧ p ≤ 7 := by
  rcases h with rfl | rfl | rfl | rfl <;> decide
theorem isP.no {p a b : Nat} (h : isP p) (e : a * b % p = 0) (hb : b % p ≠ 0) : a % p = 0 := by
  have hp := h.b
  rw [Nat.mul_mod] at e
  have ha := Nat.mod_lt a (show 0 < p by omega)
  have hb2 := Nat.mod_lt b (show 0 < p by omega)
  generalize a % p = x at *
  generalize b % p = y at *
  rcases h with rfl | rfl | rfl | rfl
  · exact (by decide : ∀ x < 2, ∀ y < 2, x * y % 2 = 0 → y ≠ 0 → x = 0) x ha y hb2 e hb
  · exact (by decide : ∀ x < 3, ∀ y < 3, x * y % 3 = 0 → y ≠ 0 → x = 0) x ha y hb2 e hb
  · exact (by decide : ∀ x < 5, ∀ y < 5, x * y % 5 = 0 → y ≠ 0 → x = 0) x ha y hb2 e hb
  · exact (by decide : ∀ x < 7, ∀ y < 7, x * y % 7 = 0 → y ≠ 0 → x = 0) x ha y hb2 e hb
def ivF (p a : Nat) : Nat := if a * 1 % p = 1 then 1 else if a * 2 % p = 1 then 2 else if a * 3 % p = 1 then 3 else if a * 4 % p = 1 then 4 else if a * 5 % p = 1 then 5 else 6
theorem isP.inv {p a : Nat} (h : isP p) (h0 : a ≠ 0) (ha : a < p) : ∃ j, 1 ≤ j ∧ j < p ∧ a * j % p = 1 := by
  refine ⟨ivF p a, ?_⟩
  rcases h with rfl | rfl | rfl | rfl
  · exact (by decide : ∀ x < 2, x ≠ 0 → 1 ≤ ivF 2 x ∧ ivF 2 x < 2 ∧ x * ivF 2 x % 2 = 1) a ha h0
  · exact (by decide : ∀ x < 3, x ≠ 0 → 1 ≤ ivF 3 x ∧ ivF 3 x < 3 ∧ x * ivF 3 x % 3 = 1) a ha h0
  · exact (by decide : ∀ x < 5, x ≠ 0 → 1 ≤ ivF 5 x ∧ ivF 5 x < 5 ∧ x * ivF 5 x % 5 = 1) a ha h0
  · exact (by decide : ∀ x < 7, x ≠ 0 → 1 ≤ ivF 7 x ∧ ivF 7 x < 7 ∧ x * ivF 7 x % 7 = 1) a ha h0
/-- rows in steps -/
def Ech (p v R : Nat) (rows : Nat → Nat → Nat) (Λ : Nat → Bool) (P : Nat → Nat → Nat) : Prop :=
  (∀ y, y < v → Λ y = true → (∀ j, j < y → P y j = 0) ∧ P y y % p ≠ 0) ∧ ∀ C, Clo p v C → ((∀ i, i < R → C (rows i)) ↔ ∀ y, y < v → Λ y = true → C (P y))
def cmb (v : Nat) (Λ : Nat → Bool) (P : Nat → Nat → Nat) (c : Nat → Nat) (x : Nat) : Nat := fb_sm (fun y => if Λ y then c y * P y x else 0) v
theorem sm_0 {p : Nat} {g : Nat → Nat} : ∀ {n : Nat}, (∀ y, y < n → g y % p = 0) → fb_sm g n % p = 0
  | 0, _ => Nat.zero_mod p
  | n + 1, h => by
    rw [fb_sm_succ, Nat.add_mod, sm_0 (fun y hy => h y (by omega)), h n (by omega)]
    exact Nat.zero_mod p
theorem sm_1 {p y0 : Nat} {g : Nat → Nat} : ∀ {n : Nat}, y0 < n → (∀ y, y < n → y ≠ y0 → g y % p = 0) → fb_sm g n % p = g y0 % p
  | 0, h, _ => absurd h (Nat.not_lt_zero _)
  | n + 1, h, hz => by
    rw [fb_sm_succ, Nat.add_mod]
    by_cases e : y0 = n
    · subst e
      rw [sm_0 (fun y hy => hz y (by omega) (by omega)), Nat.zero_add, Nat.mod_mod]
    · rw [sm_1 (y0 := y0) (by omega) (fun y hy => hz y (by omega)), hz n (by omega) (fun c => e c.symm), Nat.add_zero, Nat.mod_mod]
theorem sm_lin (Λ : Nat → Bool) (P : Nat → Nat → Nat) (c d : Nat → Nat) (k x : Nat) : ∀ n, fb_sm (fun y => if Λ y then (c y + k * d y) * P y x else 0) n = fb_sm (fun y => if Λ y then c y * P y x else 0) n + k * fb_sm (fun y => if Λ y then d y * P y x else 0) n
  | 0 => rfl
  | n + 1 => by
    rw [fb_sm_succ, fb_sm_succ, fb_sm_succ, sm_lin Λ P c d k x n, Nat.mul_add]
    cases Λ n
    · rw [if_neg (by decide), if_neg (by decide), if_neg (by decide)]
      omega
    · rw [if_pos rfl, if_pos rfl, if_pos rfl, Nat.add_mul, Nat.mul_assoc]
      omega
theorem cmb_clo (p v : Nat) (Λ : Nat → Bool) (P : Nat → Nat → Nat) : Clo p v (fun f => ∃ c : Nat → Nat, ∀ x, x < v → f x % p = cmb v Λ P c x % p) := by
  refine ⟨fun f hf => ⟨fun _ => 0, fun x hx => ?_⟩, ?_⟩
  · rw [hf x hx]
    refine (sm_0 (fun y _ => ?_)).symm
    split
    · rw [Nat.zero_mul, Nat.zero_mod]
    · exact Nat.zero_mod p
  · rintro f g h k ⟨c, hc⟩ ⟨d, hd⟩ hh
    refine ⟨fun y => c y + k * d y, fun x hx => ?_⟩
    unfold cmb
    rw [hh x hx, sm_lin Λ P c d k x v, Nat.add_mod, hc x hx, Nat.mul_mod, hd x hx, ← Nat.mul_mod, ← Nat.add_mod]
    rfl
theorem cmb_in {p v : Nat} {Λ : Nat → Bool} {P : Nat → Nat → Nat} {y0 : Nat} (hy : y0 < v) (hl : Λ y0 = true) : ∃ c : Nat → Nat, ∀ x, x < v → P y0 x % p = cmb v Λ P c x % p := by
  refine ⟨fun y => if y = y0 then 1 else 0, fun x _ => ?_⟩
  unfold cmb
  rw [sm_1 hy (fun y _ hne => ?_), if_pos hl]
  · show _ = (if y0 = y0 then 1 else 0) * P y0 x % p
    rw [if_pos rfl, Nat.one_mul]
  split
  · show (if y = y0 then 1 else 0) * P y x % p = 0
    rw [if_neg hne, Nat.zero_mul, Nat.zero_mod]
  · exact Nat.zero_mod p
theorem cmb_lead {p v x : Nat} {Λ : Nat → Bool} {P : Nat → Nat → Nat} {c f : Nat → Nat} (hp : isP p) (hE : ∀ y, y < v → Λ y = true → (∀ j, j < y → P y j = 0) ∧ P y y % p ≠ 0) (hf : ∀ x, x < v → f x % p = cmb v Λ P c x % p) (hx : x < v) (h0 : ∀ j, j < x → f j % p = 0) (hl : Λ x = false) : f x % p = 0 := by
  have key : ∀ y, y < x → Λ y = true → c y % p = 0 := by
    intro y
    induction y using Nat.strongRecOn with
    | _ y ih =>
      intro hy hly
      have h1 := hf y (by omega)
      unfold cmb at h1
      rw [h0 y hy, sm_1 (y0 := y) (by omega) (fun z hz hne => ?_), if_pos hly] at h1
      · exact hp.no h1.symm (hE y (by omega) hly).2
      · split
        · next hlz =>
          rcases Nat.lt_or_gt_of_ne hne with h2 | h2
          · rw [Nat.mul_mod, ih z h2 (by omega) hlz, Nat.zero_mul, Nat.zero_mod]
          · rw [(hE z hz hlz).1 y h2, Nat.mul_zero, Nat.zero_mod]
        · exact Nat.zero_mod p
  rw [hf x hx]
  refine sm_0 (fun z hz => ?_)
  split
  · next hlz =>
    rcases Nat.lt_trichotomy z x with h2 | h2 | h2
    · rw [Nat.mul_mod, key z h2 hlz, Nat.zero_mul, Nat.zero_mod]
    · rw [h2, hl] at hlz
      cases hlz
    · rw [(hE z hz hlz).1 x h2, Nat.mul_zero, Nat.zero_mod]
  · exact Nat.zero_mod p
theorem ech_sub {p v R : Nat} {rows : Nat → Nat → Nat} {Λ Λ2 : Nat → Bool} {P P2 : Nat → Nat → Nat} (hp : isP p) (h : Ech p v R rows Λ P) (h2 : Ech p v R rows Λ2 P2) : ∀ y, y < v → Λ2 y = true → Λ y = true := by
  intro y hy hl
  have h3 := (h.2 _ (cmb_clo p v Λ P)).mpr (fun z hz hlz => cmb_in hz hlz)
  obtain ⟨c, hc⟩ := (h2.2 _ (cmb_clo p v Λ P)).mp h3 y hy hl
  have h4 := h2.1 y hy hl
  cases e : Λ y
  · exact absurd (cmb_lead hp h.1 hc hy (fun j hj => by rw [h4.1 j hj]; exact Nat.zero_mod p) e) h4.2
  · rfl
theorem ech_one {p v R : Nat} {rows : Nat → Nat → Nat} {Λ Λ2 : Nat → Bool} {P P2 : Nat → Nat → Nat} (hp : isP p) (h : Ech p v R rows Λ P) (h2 : Ech p v R rows Λ2 P2) : fb_ct Λ v = fb_ct Λ2 v :=
  fb_ct_cong (fun y hy => Bool.eq_iff_iff.mpr ⟨ech_sub hp h2 h y hy, ech_sub hp h h2 y hy⟩)
/-- the rank -/
theorem rk_ex (p v R : Nat) (rows : Nat → Nat → Nat) : ∃ r, (∃ Λ P, Ech p v R rows Λ P) → ∃ Λ P, Ech p v R rows Λ P ∧ r = fb_ct Λ v := by
  rcases Classical.em (∃ Λ P, Ech p v R rows Λ P) with ⟨Λ, P, h⟩ | h
  · exact ⟨_, fun _ => ⟨Λ, P, h, rfl⟩⟩
  · exact ⟨0, fun c => absurd c h⟩
noncomputable def rkN (p v R : Nat) (rows : Nat → Nat → Nat) : Nat := Classical.choose (rk_ex p v R rows)
theorem rkN_eq {p v R : Nat} {rows : Nat → Nat → Nat} {Λ : Nat → Bool} {P : Nat → Nat → Nat} (hp : isP p) (h : Ech p v R rows Λ P) : fb_ct Λ v = rkN p v R rows := by
  obtain ⟨Λ2, P2, h2, e⟩ := Classical.choose_spec (rk_ex p v R rows) ⟨Λ, P, h⟩
  have e2 : rkN p v R rows = fb_ct Λ2 v := e
  rw [e2]
  exact ech_one hp h h2
/-- one step of an elimination -/
theorem clo_step {p v c d : Nat} {C : (Nat → Nat) → Prop} {f g h : Nat → Nat} (hC : Clo p v C) (hcd : (c + d) % p = 0) (hg : C g) (hh : ∀ x, x < v → h x % p = (f x + c * g x) % p) : C f ↔ C h := by
  constructor
  · intro hf
    exact hC.2 f g h c hf hg hh
  · intro hf
    refine hC.2 h g f d hf hg (fun x hx => ?_)
    have e1 : (c * g x + d * g x) % p = 0 := by rw [← Nat.add_mul, Nat.mul_mod, hcd, Nat.zero_mul, Nat.zero_mod]
    rw [Nat.add_mod, hh x hx, ← Nat.add_mod, Nat.add_assoc, Nat.add_mod, e1, Nat.add_zero, Nat.mod_mod]
theorem clo_mul {p v c d : Nat} {C : (Nat → Nat) → Prop} {f h : Nat → Nat} (hC : Clo p v C) (hcd : c * d % p = 1 % p) (hh : ∀ x, x < v → h x % p = f x * c % p) : C f ↔ C h := by
  have z : C (fun _ => 0) := hC.1 _ (fun x _ => Nat.zero_mod p)
  constructor
  · intro hf
    refine hC.2 _ f h c z hf (fun x hx => ?_)
    rw [hh x hx, Nat.zero_add, Nat.mul_comm]
  · intro hf
    refine hC.2 _ h f d z hf (fun x hx => ?_)
    rw [Nat.zero_add, Nat.mul_mod, hh x hx, ← Nat.mul_mod, Nat.mul_comm d, Nat.mul_assoc, Nat.mul_mod, hcd, ← Nat.mul_mod, Nat.mul_one]
theorem clo_all {p v : Nat} {C : (Nat → Nat) → Prop} {Λ : Nat → Bool} {P : Nat → Nat → Nat} (hC : Clo p v C) (hp : 0 < p) (hall : ∀ y, y < v → Λ y = true) (hE : ∀ y, y < v → Λ y = true → (∀ j, j < y → P y j = 0) ∧ P y y = 1) (hP : ∀ y, y < v → Λ y = true → C (P y)) : ∀ j k (f : Nat → Nat), k + j = v → (∀ x, x < k → f x % p = 0) → C f
  | 0, k, f, hk, h => hC.1 f (fun x hx => h x (by omega))
  | j + 1, k, f, hk, h => by
    have hl := hall k (by omega)
    have hE2 := hE k (by omega) hl
    have ha := Nat.mod_lt (f k) hp
    refine (clo_step (c := p - f k % p) (d := f k % p) (h := fun x => f x + (p - f k % p) * P k x) hC (by rw [Nat.sub_add_cancel (by omega)]; exact Nat.mod_self p) (hP k (by omega) hl) (fun x hx => rfl)).mpr (clo_all hC hp hall hE hP j (k + 1) _ (by omega) (fun x hx => ?_))
    by_cases e : x = k
    · subst e
      rw [hE2.2, Nat.mul_one, ← Nat.mod_add_mod, show f x % p + (p - f x % p) = p by omega, Nat.mod_self]
    · rw [hE2.1 x (by omega), Nat.mul_zero, Nat.add_zero]
      exact h x (by omega)
