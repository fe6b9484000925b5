/-- numbers -/
theorem i1 : (1 : Int32) = nI 1 := rfl
theorem i0 : (0 : Int32) = nI 0 := rfl
theorem l1_ : (1 : Int64) = lN 1 := rfl
theorem l0_ : (0 : Int64) = lN 0 := rfl
theorem l_pow {x : Nat} (h : x < 64) : (1 : Int64) <<< ((nI x).toInt64 &&& 63) = lN (2 ^ x) := by
  rw [l1_, wb_shl 1 h, Nat.one_mul]
theorem lN_0 {k : Nat} (h : k < 2 ^ 63) : lN k = 0 ↔ k = 0 := by
  rw [l0_, fb_lN_inj h (by decide)]
theorem tb_dec (S x : Nat) : S.testBit x = true ↔ S / 2 ^ x % 2 = 1 := by
  rw [Nat.testBit_eq_decide_div_mod_eq, decide_eq_true_eq]
/-- worlds that differ in the ints of one place, or the longs of one place -/
def OnI (p : Nat) (w w' : Wd) : Prop := (∀ q, q ≠ p → w'.1 q = w.1 q) ∧ w'.2 = w.2
def OnL (p : Nat) (w w' : Wd) : Prop := (∀ q, q ≠ p → w'.2 q = w.2 q) ∧ w'.1 = w.1
theorem OnI.rf (p : Nat) (w : Wd) : OnI p w w := ⟨fun _ _ => rfl, rfl⟩
theorem OnL.rf (p : Nat) (w : Wd) : OnL p w w := ⟨fun _ _ => rfl, rfl⟩
theorem OnI.up {p : Nat} {w w' : Wd} (h : OnI p w w') (j : Nat) (x : Int32) : OnI p w (upI w' p j x) := by
  refine ⟨fun q hq => ?_, h.2⟩
  rw [← h.1 q hq]
  funext k
  simp [upI, hq]
theorem OnL.up {p : Nat} {w w' : Wd} (h : OnL p w w') (j : Nat) (x : Int64) : OnL p w (upL w' p j x) := by
  refine ⟨fun q hq => ?_, h.2⟩
  rw [← h.1 q hq]
  funext k
  simp [upL, hq]
theorem OnI.tr {p : Nat} {w w1 w2 : Wd} (h : OnI p w w1) (h2 : OnI p w1 w2) : OnI p w w2 := ⟨fun q hq => (h2.1 q hq).trans (h.1 q hq), h2.2.trans h.2⟩
theorem OnL.tr {p : Nat} {w w1 w2 : Wd} (h : OnL p w w1) (h2 : OnL p w1 w2) : OnL p w w2 := ⟨fun q hq => (h2.1 q hq).trans (h.1 q hq), h2.2.trans h.2⟩
theorem upI_eq (w : Wd) (q j : Nat) (x : Int32) : (upI w q j x).1 q j = x := by simp [upI]
theorem upI_ne {w : Wd} {q j p k : Nat} {x : Int32} (h : ¬ (p = q ∧ k = j)) : (upI w q j x).1 p k = w.1 p k := by simp [upI, h]
theorem upL_eq (w : Wd) (q j : Nat) (x : Int64) : (upL w q j x).2 q j = x := by simp [upL]
theorem upL_ne {w : Wd} {q j p k : Nat} {x : Int64} (h : ¬ (p = q ∧ k = j)) : (upL w q j x).2 p k = w.2 p k := by simp [upL, h]
theorem upI_2 (w : Wd) (q j : Nat) (x : Int32) : (upI w q j x).2 = w.2 := rfl
theorem upL_1 (w : Wd) (q j : Nat) (x : Int64) : (upL w q j x).1 = w.1 := rfl
/-- holds: a bit of a set -/
theorem t_holds {f S x : Nat} {w : Wd} {K : Bool → Wd → Prop} (hS : S < 2 ^ 63) (hx : x < 63) (h : K (S.testBit x) w) : RunZ f M_A_holds [.long (lN S), .int (nI x)] w K := by
  refine r_A_holds ?_
  rw [wb_bit (by omega) (by omega), lN_0 (by omega)]
  cases hb : S.testBit x with
  | false =>
    rw [hb] at h
    refine ⟨fun _ => h, fun c => ?_⟩
    have h2 : ¬ S / 2 ^ x % 2 = 1 := fun h3 => by
      have := (tb_dec S x).mpr h3
      rw [hb] at this
      cases this
    omega
  | true =>
    rw [hb] at h
    have := (tb_dec S x).mp hb
    exact ⟨fun c => by omega, fun _ => h⟩
/-- the group's own rows: n, m, the order, the two coordinates -/
def Ga (n m : Nat) (w : Wd) : Prop := GOK n m ∧ w.1 1 0 = nI n ∧ w.1 1 1 = nI m ∧ w.1 1 2 = nI (n * m) ∧ ∀ x, x < n * m → w.1 2 x = nI (x / m) ∧ w.1 3 x = nI (x % m)
theorem add_mod1 {a b n : Nat} (ha : a < n) (hb : b < n) : (a + b) % n = if n ≤ a + b then a + b - n else a + b := by
  split
  · rw [Nat.mod_eq_sub_mod (by omega), Nat.mod_eq_of_lt (by omega)]
  · rw [Nat.mod_eq_of_lt (by omega)]
theorem t_plus {f n m x y : Nat} {w : Wd} {K : Int32 → Wd → Prop} (hG : Ga n m w) (hx : x < n * m) (hy : y < n * m) (h : K (nI (gA n m x y)) w) : RunI f M_G_plus [.ref 1, .int (nI x), .int (nI y)] w K := by
  obtain ⟨ok, e0, e1, e2, e3⟩ := hG
  have hv := ok.2.2
  have hn := ok.n40
  have hm := ok.m40
  have hxn := el_div hx
  have hyn := el_div hy
  have hxm := Nat.mod_lt x ok.m0
  have hym := Nat.mod_lt y ok.m0
  refine r_G_plus ⟨vp_in_nI (by omega) (by decide), vp_in_nI (by omega) (by decide), fun a1 h1 => ⟨vp_in_nI (by omega) (by decide), vp_in_nI (by omega) (by decide), fun a2 h2 => ?_⟩⟩
  rw [nI_clamp (by omega), nI_clamp (by omega), (e3 x hx).1, (e3 y hy).1, nI_add] at h1
  rw [nI_clamp (by omega), nI_clamp (by omega), (e3 x hx).2, (e3 y hy).2, nI_add] at h2
  subst h1
  subst h2
  rw [e0, e1]
  unfold gA at h
  rw [add_mod1 hxn hyn, add_mod1 hxm hym] at h
  refine pk_le n (x / m + y / m) (fun c => pk_le m (x % m + y % m) (fun c2 => ?_) (fun c2 => ?_)) (fun c => pk_le m (x % m + y % m) (fun c2 => ?_) (fun c2 => ?_))
  · rw [if_pos c, if_pos c2] at h
    rw [pk_sub c, pk_sub c2, pk_mul, nI_add]
    exact h
  · rw [if_pos c, if_neg (by omega)] at h
    rw [pk_sub c, pk_mul, nI_add]
    exact h
  · rw [if_neg (by omega), if_pos c2] at h
    rw [pk_sub c2, pk_mul, nI_add]
    exact h
  · rw [if_neg (by omega), if_neg (by omega)] at h
    rw [pk_mul, nI_add]
    exact h
/-- mapped: the image of a set under a row -/
theorem t_mapped_l {f n m p1 S : Nat} {w : Wd} {K : Int64 → Wd → Prop} {φ : Nat → Nat} (hk1 : kd p1 = .inl (0, 40)) (hp1 : p1 < Nf f) (hG : Ga n m w) (hS : S < 2 ^ 63) (hφ : ∀ x, x < n * m → w.1 p1 x = nI (φ x) ∧ φ x < 63) (h : K (lN (imS φ S (n * m))) w) :
    ∀ j k, k + j = n * m → E f M_G_mapped 6 [(0, .ref 1), (1, .long (lN S)), (3, .ref p1), (4, .long (lN (imS φ S k))), (6, .int (nI k))] [] w (qL f K) := by
  have hv := hG.1.2.2
  intro j
  induction j with
  | zero =>
    intro k hk
    refine w_G_mapped_6 hk1 hp1 ?_
    rw [hG.2.2.2.1]
    refine pk_le (n * m) k (fun _ => ?_) (fun c => by omega)
    rw [show k = n * m by omega]
    exact h
  | succ j ih =>
    intro k hk
    refine w_G_mapped_6 hk1 hp1 ?_
    rw [hG.2.2.2.1]
    refine pk_le (n * m) k (fun c => by omega) (fun c => ?_)
    refine t_holds hS (by omega) ?_
    have ih1 := ih (k + 1) (by omega)
    refine ⟨fun hb a3 e3 => ?_, fun hb => ⟨vp_in_nI (by omega) (by decide), fun b4 e4 a5 e5 => ?_⟩⟩
    · rw [i1, nI_add] at e3
      subst e3
      rw [imS, if_neg (by rw [hb]; decide), Nat.or_zero] at ih1
      exact ih1
    · rw [i1, nI_add] at e5
      subst e5
      rw [nI_clamp (by omega), (hφ k (by omega)).1, l_pow (by have := (hφ k (by omega)).2; omega), fb_orL] at e4
      subst e4
      rw [imS, if_pos hb] at ih1
      exact ih1
theorem t_mapped {f n m p1 S : Nat} {w : Wd} {K : Int64 → Wd → Prop} {φ : Nat → Nat} (hk1 : kd p1 = .inl (0, 40)) (hp1 : p1 < Nf f) (hG : Ga n m w) (hS : S < 2 ^ 63) (hφ : ∀ x, x < n * m → w.1 p1 x = nI (φ x) ∧ φ x < 63) (h : K (lN (imS φ S (n * m))) w) : RunL f M_G_mapped [.ref 1, .long (lN S), .ref p1] w K :=
  r_G_mapped hk1 hp1 (t_mapped_l hk1 hp1 hG hS hφ h (n * m) 0 (by omega))
