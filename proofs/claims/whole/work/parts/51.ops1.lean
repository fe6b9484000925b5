/-- a test that is answered alike on both sides -/
def rng (lo hi : Nat) (a : Int32) : Bool := decide (¬ a < nI lo ∧ ¬ nI hi < a)
theorem rng_of {lo hi : Nat} {a : Int32} (hlo : lo < 2 ^ 30) (hhi : hi < 2 ^ 30) (h : rng lo hi a = true) : ∃ j, lo ≤ j ∧ j ≤ hi ∧ a = nI j := by
  obtain ⟨h1, h2⟩ := of_decide_eq_true h
  rw [Int32.lt_iff_toInt_lt, nI_toInt (by omega)] at h1 h2
  have h3 : ¬ a < 0 := fun c => by
    rw [Int32.lt_iff_toInt_lt] at c
    have : (0 : Int32).toInt = 0 := by decide
    omega
  obtain ⟨j, hj, rfl⟩ := nI_of h3
  rw [nI_toInt hj] at h1 h2
  exact ⟨j, by omega, by omega, rfl⟩
theorem rng_t {lo hi j : Nat} (h1 : lo ≤ j) (h2 : j ≤ hi) (hh : hi < 2 ^ 31) : rng lo hi (nI j) = true := decide_eq_true ⟨nI_nlt h1 (by omega), nI_nlt h2 hh⟩
/-- small tests of the object -/
theorem t_isEl {n m : Nat} {x : Int32} {w : Wd} {K : Bool → Wd → Prop} (hG : Ga n m w) (h : K (rng 0 (n * m - 1) x) w) : RunZ 1 M_A_isElement [.ref 0, .int x] w K := by
  have hv := hG.1.2.2
  have hv0 := hG.1.v0
  have h : K (decide (¬ x < 0 ∧ ¬ nI (n * m - 1) < x)) w := h
  refine r_A_isElement ?_
  rw [hG.2.2.2.1]
  refine ⟨fun c => ?_, fun c => ⟨fun c2 => ?_, fun c2 => ?_⟩⟩
  · rw [decide_eq_false (fun q => q.1 c)] at h
    exact h
  · rw [out_dec hv0 (by omega) (Or.inr c2)] at h
    exact h
  · rcases el_cases x (v := n * m) (by omega) with h1 | ⟨j, hj, rfl⟩
    · rcases h1 with h1 | h1
      · exact absurd h1 c
      · exact absurd h1 c2
    · rw [in_dec hj (by omega)] at h
      exact h
theorem t_within {a lo hi : Int32} {w : Wd} {K : Bool → Wd → Prop} (h : K (decide (¬ a < lo ∧ ¬ hi < a)) w) : RunZ 1 M_A_isWithin [.int a, .int lo, .int hi] w K := by
  refine r_A_isWithin ⟨fun c => ?_, fun c => ⟨fun c2 => ?_, fun c2 => ?_⟩⟩
  · rw [decide_eq_false (fun q => q.1 c)] at h
    exact h
  · rw [decide_eq_false (fun q => q.2 c2)] at h
    exact h
  · rw [decide_eq_true ⟨c, c2⟩] at h
    exact h
theorem le_5 (x : Int32) : 6 ≤ x ↔ 5 < x := by
  rw [Int32.le_iff_toInt_le, Int32.lt_iff_toInt_lt, show (6 : Int32).toInt = 6 from by decide, show (5 : Int32).toInt = 5 from by decide]
  omega
theorem t_isBlock {a : Int32} {w : Wd} {K : Bool → Wd → Prop} (h : K (rng 0 5 a) w) : RunZ 1 M_A_isBlock [.int a] w K := by
  have h : K (decide (¬ a < 0 ∧ ¬ 5 < a)) w := h
  refine r_A_isBlock ?_
  rw [le_5]
  refine ⟨fun c => ?_, fun c => ⟨fun c2 => ?_, fun c2 => ?_⟩⟩
  · rw [decide_eq_false (fun q => q.1 c)] at h
    exact h
  · rw [decide_eq_false (fun q => q.2 c2)] at h
    exact h
  · rw [decide_eq_true ⟨c, c2⟩] at h
    exact h
theorem u_isBlock {a : Int32} {w : Wd} {K : Bool → Wd → Prop} (h : K (rng 0 5 a) w) : RunZ 1 M_B_isBlock [.int a] w K := r_B_isBlock (u_in (lo := 0) (hi := 5) rfl rfl rfl h)
theorem u_isElR {n m : Nat} {x : Int32} {w : Wd} {K : Bool → Wd → Prop} (hB : Bg n m w) (h : K (rng 0 (n * m - 1) x) w) : RunZ 1 M_B_isElement [.ref 39, .int x] w K := u_isEl hB h
theorem CW.g {s : Sg} {w : Wd} (h : CW s w) : Gd (sN s) (sM s) w := h.1
theorem MW.g {s : Sg} {w : Wd} (h : MW s w) : Bg (sN s) (sM s) w := h.1.1
theorem zt {A B : Prop} (h : B) : (true = false → A) ∧ (true = true → B) := ⟨fun c => (by cases c), fun _ => h⟩
theorem zt' {A B : Prop} (h : A) : (true = true → A) ∧ (true = false → B) := ⟨fun _ => h, fun c => (by cases c)⟩
theorem zf {A B : Prop} (h : A) : (false = false → A) ∧ (false = true → B) := ⟨fun _ => h, fun c => (by cases c)⟩
theorem zf' {A B : Prop} (h : B) : (false = true → A) ∧ (false = false → B) := ⟨fun c => (by cases c), fun _ => h⟩
theorem zb {A B : Prop} {z : Bool} (h0 : z = false → A) (h1 : z = true → B) : (z = false → A) ∧ (z = true → B) := ⟨h0, h1⟩
section EL
variable {n m : Nat} {w : Wd} {K : Bool → Wd → Prop}
theorem t_elT {x : Nat} (hG : Ga n m w) (hx : x < n * m) (h : K true w) : RunZ 1 M_A_isElement [.ref 0, .int (nI x)] w K := by
  refine t_isEl hG ?_
  rw [rng_t (Nat.zero_le x) (by omega) (by have := hG.1.2.2; omega)]
  exact h
theorem t_elF {x : Int32} (hG : Ga n m w) (hb : rng 0 (n * m - 1) x = false) (h : K false w) : RunZ 1 M_A_isElement [.ref 0, .int x] w K := by
  refine t_isEl hG ?_
  rw [hb]
  exact h
theorem u_elT {x : Nat} (hG : Bg n m w) (hx : x < n * m) (h : K true w) : RunZ 1 M_B_isElement [.ref 39, .int (nI x)] w K := by
  refine u_isElR hG ?_
  rw [rng_t (Nat.zero_le x) (by omega) (by have := hG.1.2.2; omega)]
  exact h
theorem u_elF {x : Int32} (hG : Bg n m w) (hb : rng 0 (n * m - 1) x = false) (h : K false w) : RunZ 1 M_B_isElement [.ref 39, .int x] w K := by
  refine u_isElR hG ?_
  rw [hb]
  exact h
theorem t_blT {x : Nat} (hx : x < 6) (h : K true w) : RunZ 1 M_A_isBlock [.int (nI x)] w K := by
  refine t_isBlock ?_
  rw [rng_t (Nat.zero_le x) (by omega) (by decide)]
  exact h
theorem t_blF {x : Int32} (hb : rng 0 5 x = false) (h : K false w) : RunZ 1 M_A_isBlock [.int x] w K := by
  refine t_isBlock ?_
  rw [hb]
  exact h
theorem u_blT {x : Nat} (hx : x < 6) (h : K true w) : RunZ 1 M_B_isBlock [.int (nI x)] w K := by
  refine u_isBlock ?_
  rw [rng_t (Nat.zero_le x) (by omega) (by decide)]
  exact h
theorem u_blF {x : Int32} (hb : rng 0 5 x = false) (h : K false w) : RunZ 1 M_B_isBlock [.int x] w K := by
  refine u_isBlock ?_
  rw [hb]
  exact h
theorem t_wiT {x lo hi : Nat} {a b : Int32} (ha : a = nI lo) (hb : b = nI hi) (h1 : lo ≤ x) (h2 : x ≤ hi) (hh : hi < 2 ^ 31) (h : K true w) : RunZ 1 M_A_isWithin [.int (nI x), .int a, .int b] w K := by
  subst ha
  subst hb
  refine t_within ?_
  have := rng_t h1 h2 hh
  unfold rng at this
  rw [this]
  exact h
theorem t_wiF {x : Int32} {lo hi : Nat} {a b : Int32} (ha : a = nI lo) (hb : b = nI hi) (hx : rng lo hi x = false) (h : K false w) : RunZ 1 M_A_isWithin [.int x, .int a, .int b] w K := by
  subst ha
  subst hb
  refine t_within ?_
  unfold rng at hx
  rw [hx]
  exact h
theorem u_inT {x lo hi : Nat} {y0 y2 y4 : Int64} (h0 : y0 = (nI x).toInt64) (h2 : y2 = (nI lo).toInt64) (h4 : y4 = (nI hi).toInt64) (h1 : lo ≤ x) (h3 : x ≤ hi) (hh : hi < 2 ^ 31) (h : K true w) : RunZ 1 M_B_in [.long y0, .long y2, .long y4] w K := by
  refine u_in h0 h2 h4 ?_
  have := rng_t h1 h3 hh
  unfold rng at this
  rw [this]
  exact h
theorem u_inF {x : Int32} {lo hi : Nat} {y0 y2 y4 : Int64} (h0 : y0 = x.toInt64) (h2 : y2 = (nI lo).toInt64) (h4 : y4 = (nI hi).toInt64) (hx : rng lo hi x = false) (h : K false w) : RunZ 1 M_B_in [.long y0, .long y2, .long y4] w K := by
  refine u_in h0 h2 h4 ?_
  unfold rng at hx
  rw [hx]
  exact h
end EL
theorem el_or {n m : Nat} (ok : GOK n m) (x : Int32) : rng 0 (n * m - 1) x = false ∨ ∃ j, j < n * m ∧ x = nI j := by
  cases h : rng 0 (n * m - 1) x with
  | false => exact Or.inl rfl
  | true =>
    have hv := ok.2.2
    have hv0 := ok.v0
    obtain ⟨j, -, hj, e⟩ := rng_of (by decide) (by omega) h
    exact Or.inr ⟨j, by omega, e⟩
theorem rg_or (lo hi : Nat) (hlo : lo < 2 ^ 30) (hhi : hi < 2 ^ 30) (x : Int32) : rng lo hi x = false ∨ ∃ j, lo ≤ j ∧ j ≤ hi ∧ x = nI j := by
  cases h : rng lo hi x with
  | false => exact Or.inl rfl
  | true => exact Or.inr (rng_of hlo hhi h)
/-- nothing has changed -/
theorem sameA {s : Sg} {w : Wd} {r : Int32} (h : CW s w) : r = r ∧ CW s w ∧ Mo allA [] w w := ⟨rfl, h, Mo.rf _ _ _⟩
theorem sameB {s : Sg} {w : Wd} {r : Int32} (h : MW s w) : r = r ∧ MW s w ∧ Mo allB [] w w := ⟨rfl, h, Mo.rf _ _ _⟩
theorem op_order : Op_order INV := by
  rintro w ⟨s, hs⟩
  exact glueI (val := nI (sN s * sM s)) (nx := s) hs (r_A_order ⟨hs.2.1.1.1.2.2.2.1, hs.2.1, Mo.rf _ _ _⟩) (fun w1 h1 => r_B_order ⟨h1.1.1.2.2.2, h1, Mo.rf _ _ _⟩) hs.1
theorem op_automorphisms : Op_automorphisms INV := by
  rintro w ⟨s, hs⟩
  exact glueI (val := nI (nAut (sN s) (sM s))) (nx := s) hs (r_A_automorphisms ⟨hs.2.1.1.2.2.2.2.1, hs.2.1, Mo.rf _ _ _⟩) (fun w1 h1 => r_B_automorphisms ⟨h1.1.2.1, h1, Mo.rf _ _ _⟩) hs.1
theorem op_hole : Op_hole INV := by
  rintro w ⟨s, hs⟩
  exact glueL (val := lN (sHo s)) (nx := s) hs (r_A_hole ⟨hs.2.1.2.1, hs.2.1, Mo.rf _ _ _⟩) (fun w1 h1 => r_B_hole ⟨h1.2.1, h1, Mo.rf _ _ _⟩) hs.1
theorem op_sum : Op_sum INV := by
  rintro a1 a2 w ⟨s, hs⟩
  have hC := hs.2.1
  have ok := hs.1.1
  rcases el_or ok a1 with h1 | ⟨x, hx, rfl⟩
  · exact glueI (val := -1) (nx := s) hs (r_A_sum (t_elF hC.1.1 h1 (zf (sameA hC)))) (fun w1 hM => r_B_sum (u_elF hM.1.1 h1 (zf (sameB hM)))) hs.1
  rcases el_or ok a2 with h2 | ⟨y, hy, rfl⟩
  · exact glueI (val := -1) (nx := s) hs (r_A_sum (t_elT hC.1.1 hx (zt (t_elF hC.1.1 h2 (zf' (sameA hC)))))) (fun w1 hM => r_B_sum (u_elT hM.1.1 hx (zt (u_elF hM.1.1 h2 (zf (sameB hM)))))) hs.1
  exact glueI (val := nI (gA (sN s) (sM s) x y)) (nx := s) hs (r_A_sum (t_elT hC.1.1 hx (zt (t_elT hC.1.1 hy (zt' (t_plus hC.1.1 hx hy (sameA hC))))))) (fun w1 hM => r_B_sum (u_elT hM.1.1 hx (zt (u_elT hM.1.1 hy (zt (u_plus hM.1.1 hx hy (sameB hM))))))) hs.1
