theorem t_sub_in {n m x y i : Nat} {w : Wd} {K : Int64 → Wd → Prop} (hG : Gd n m w) (hx : x < n * m) (hy : y < n * m) (hi : i < 2 ^ 20)
    (hcont : E 1 M_G_subgroup 8 [(0, .ref 1), (1, .int (nI x)), (2, .int (nI y)), (3, .long (lN (sgO n m x y (i + 1)))), (5, .int (nI (gM n m (i + 1) x))), (6, .int (nI (i + 1)))] [] w (qL 1 K)) :
    ∀ k j, j + k = ordG n m y → E 1 M_G_subgroup 26 [(0, .ref 1), (1, .int (nI x)), (2, .int (nI y)), (3, .long (lN (sgI n m (gM n m i x) y (sgO n m x y i) j))), (5, .int (nI (gM n m i x))), (6, .int (nI i)), (7, .int (nI (gA n m (gM n m i x) (gM n m j y)))), (8, .int (nI j))] [] w (qL 1 K) := by
  have ok := hG.1.1
  have hv := ok.2.2
  have ho := ord_le ok y
  intro k
  induction k with
  | zero =>
    intro j hj
    refine w_G_subgroup_26 ⟨vp_in_nI (by omega) (by decide), ?_⟩
    rw [nI_clamp (by omega), hG.2.2.2.1 y hy]
    refine pk_le (ordG n m y) j (fun _ => t_plus hG.1 (gM_lt ok _ _) hx (fun a3 e3 => ?_)) (fun c => by omega)
    rw [i1, nI_add] at e3
    subst e3
    rw [sgO, gM_succ ok hx] at hcont
    rw [show j = ordG n m y by omega]
    exact hcont
  | succ k ih =>
    intro j hj
    refine w_G_subgroup_26 ⟨vp_in_nI (by omega) (by decide), ?_⟩
    rw [nI_clamp (by omega), hG.2.2.2.1 y hy]
    refine pk_le (ordG n m y) j (fun c => by omega) (fun c b4 e4 => ?_)
    rw [l_pow (by have := gA_lt ok (gM n m i x) (gM n m j y); omega), fb_orL] at e4
    subst e4
    refine t_plus hG.1 (gA_lt ok _ _) hy (fun a7 e7 => ?_)
    rw [i1, nI_add] at e7
    subst e7
    have ih1 := ih (j + 1) (by omega)
    rw [sgI, gM_succ ok hy, ← gA_assoc ok] at ih1
    exact ih1
theorem t_sub_l {n m x y : Nat} {w : Wd} {K : Int64 → Wd → Prop} (hG : Gd n m w) (hx : x < n * m) (hy : y < n * m) (h : K (lN (hoS n m x y)) w) :
    ∀ k i, i + k = ordG n m x → E 1 M_G_subgroup 8 [(0, .ref 1), (1, .int (nI x)), (2, .int (nI y)), (3, .long (lN (sgO n m x y i))), (5, .int (nI (gM n m i x))), (6, .int (nI i))] [] w (qL 1 K) := by
  have ok := hG.1.1
  have hv := ok.2.2
  have ho := ord_le ok x
  intro k
  induction k with
  | zero =>
    intro i hi
    refine w_G_subgroup_8 ⟨vp_in_nI (by omega) (by decide), ?_⟩
    rw [nI_clamp (by omega), hG.2.2.2.1 x hx]
    refine pk_le (ordG n m x) i (fun _ => ?_) (fun c => by omega)
    rw [show i = ordG n m x by omega]
    exact h
  | succ k ih =>
    intro i hi
    refine w_G_subgroup_8 ⟨vp_in_nI (by omega) (by decide), ?_⟩
    rw [nI_clamp (by omega), hG.2.2.2.1 x hx]
    refine pk_le (ordG n m x) i (fun c => by omega) (fun c => ?_)
    have h1 := t_sub_in hG hx hy (by omega) (ih (i + 1) (by omega)) (ordG n m y) 0 (by omega)
    rw [gM_0, gA_0 ok (gM_lt ok _ _)] at h1
    exact h1
theorem t_subgroup {n m x y : Nat} {w : Wd} {K : Int64 → Wd → Prop} (hG : Gd n m w) (hx : x < n * m) (hy : y < n * m) (h : K (lN (hoS n m x y)) w) : RunL 1 M_G_subgroup [.ref 1, .int (nI x), .int (nI y)] w K := by
  have h1 := t_sub_l hG hx hy h (ordG n m x) 0 (by omega)
  rw [gM_0] at h1
  exact r_G_subgroup h1
/-- bitCount: bytes, side by side -/
def M5 : Nat → Nat
  | 0 => 0
  | k + 1 => 85 + 256 * M5 k
def M3 : Nat → Nat
  | 0 => 0
  | k + 1 => 51 + 256 * M3 k
def MF : Nat → Nat
  | 0 => 0
  | k + 1 => 15 + 256 * MF k
theorem by_bit {A B j : Nat} (hA : A < 256) : (A + 256 * B).testBit j = if j < 8 then A.testBit j else B.testBit (j - 8) := by
  have h := Nat.testBit_two_pow_mul_add B (show A < 2 ^ 8 from hA) j
  rw [show 2 ^ 8 * B + A = A + 256 * B by omega] at h
  exact h
theorem and_split {x c d : Nat} (hc : c < 256) : x &&& (c + 256 * d) = ((x % 256) &&& c) + 256 * ((x / 256) &&& d) := by
  have hA : (x % 256) &&& c < 256 := Nat.lt_of_le_of_lt Nat.and_le_right hc
  apply Nat.eq_of_testBit_eq
  intro j
  rw [by_bit hA, Nat.testBit_and, by_bit hc, Nat.testBit_and, Nat.testBit_and, show (256 : Nat) = 2 ^ 8 from rfl, Nat.testBit_mod_two_pow, Nat.testBit_div_two_pow]
  by_cases h : j < 8
  · simp [h]
  · rw [if_neg h, if_neg h, show j - 8 + 8 = j by omega]
def p1 (k S : Nat) : Nat := S - ((S / 2) &&& M5 k)
def p2 (k b : Nat) : Nat := (b &&& M3 k) + ((b / 4) &&& M3 k)
def p3 (k b : Nat) : Nat := (b + b / 16) &&& MF k
def p1b (a : Nat) : Nat := a - ((a / 2) &&& 85)
def p2b (a : Nat) : Nat := (a &&& 51) + ((a / 4) &&& 51)
def p3b (a : Nat) : Nat := (a + a / 16) &&& 15
theorem k1 : ∀ a, a < 128 → ∀ t, t < 2 → (a + 128 * t) &&& 85 = a &&& 85 := by decide +kernel
theorem k2 : ∀ a, a < 64 → ∀ t, t < 4 → (a + 64 * t) &&& 51 = a &&& 51 := by decide +kernel
theorem p1_s (k S : Nat) : p1 (k + 1) S = p1b (S % 256) + 256 * p1 k (S / 256) := by
  unfold p1 p1b
  rw [M5, and_split (by decide)]
  have e1 : S / 2 % 256 = S % 256 / 2 + 128 * (S / 256 % 2) := by omega
  have e2 : S / 2 / 256 = S / 256 / 2 := by omega
  rw [e1, k1 _ (by omega) _ (by omega), e2]
  have h1 : (S % 256 / 2) &&& 85 ≤ S % 256 / 2 := Nat.and_le_left
  have h2 : (S / 256 / 2) &&& M5 k ≤ S / 256 / 2 := Nat.and_le_left
  generalize (S % 256 / 2) &&& 85 = u at *
  generalize (S / 256 / 2) &&& M5 k = v at *
  omega
theorem p2_s (k b : Nat) : p2 (k + 1) b = p2b (b % 256) + 256 * p2 k (b / 256) := by
  unfold p2 p2b
  rw [M3, and_split (by decide), and_split (by decide)]
  have e1 : b / 4 % 256 = b % 256 / 4 + 64 * (b / 256 % 4) := by omega
  have e2 : b / 4 / 256 = b / 256 / 4 := by omega
  rw [e1, k2 _ (by omega) _ (by omega), e2]
  omega
theorem m15 (x : Nat) : x &&& 15 = x % 16 := Nat.and_two_pow_sub_one_eq_mod x 4
theorem p3_s (k b : Nat) (h : b % 256 + b % 256 / 16 + 16 * (b / 256 % 16) < 256) : p3 (k + 1) b = p3b (b % 256) + 256 * p3 k (b / 256) := by
  unfold p3 p3b
  rw [MF, and_split (by decide)]
  have e1 : (b + b / 16) % 256 = b % 256 + b % 256 / 16 + 16 * (b / 256 % 16) := by omega
  have e2 : (b + b / 16) / 256 = b / 256 + b / 256 / 16 := by omega
  rw [e1, e2, m15, m15]
  omega
def q8 (a : Nat) : Nat := fb_ct (fun i => a.testBit i) 8
def SB : Nat → Nat → Nat
  | 0, _ => 0
  | k + 1, S => q8 (S % 256) + 256 * SB k (S / 256)
theorem k3 : ∀ a, a < 256 → p1b a < 256 ∧ p2b (p1b a) < 256 ∧ p2b (p1b a) % 16 ≤ 4 ∧ p2b (p1b a) ≤ 68 ∧ p3b (p2b (p1b a)) = q8 a := by decide +kernel
theorem p21_nib (k S : Nat) : p2 k (p1 k S) % 16 ≤ 4 := by
  cases k with
  | zero => simp [p2, M3]
  | succ k =>
    have h := k3 (S % 256) (by omega)
    rw [p1_s, p2_s, show (p1b (S % 256) + 256 * p1 k (S / 256)) % 256 = p1b (S % 256) by omega]
    omega
theorem p_all : ∀ k S, p3 k (p2 k (p1 k S)) = SB k S
  | 0, S => by simp [p3, MF, SB]
  | k + 1, S => by
    have h := k3 (S % 256) (by omega)
    have hn := p21_nib k (S / 256)
    rw [p1_s, p2_s, show (p1b (S % 256) + 256 * p1 k (S / 256)) % 256 = p1b (S % 256) by omega, show (p1b (S % 256) + 256 * p1 k (S / 256)) / 256 = p1 k (S / 256) by omega]
    rw [p3_s _ _ (by omega), show (p2b (p1b (S % 256)) + 256 * p2 k (p1 k (S / 256))) % 256 = p2b (p1b (S % 256)) by omega, show (p2b (p1b (S % 256)) + 256 * p2 k (p1 k (S / 256))) / 256 = p2 k (p1 k (S / 256)) by omega]
    rw [h.2.2.2.2, p_all k (S / 256), SB]
/-- the number of elements of a set -/
def pop (S : Nat) : Nat := fb_ct (fun i => S.testBit i) 64
theorem ct8 (S k : Nat) : fb_ct (fun i => S.testBit i) (8 + k) = q8 (S % 256) + fb_ct (fun i => (S / 256).testBit i) k := by
  rw [fb_ct_split]
  have h1 : fb_ct (fun i => S.testBit i) 8 = q8 (S % 256) := by
    unfold q8
    apply fb_ct_cong
    intro i hi
    rw [show (256 : Nat) = 2 ^ 8 from rfl, Nat.testBit_mod_two_pow]
    simp [hi]
  have h2 : fb_ct (fun i => S.testBit (8 + i)) k = fb_ct (fun i => (S / 256).testBit i) k := by
    apply fb_ct_cong
    intro i hi
    rw [show (256 : Nat) = 2 ^ 8 from rfl, Nat.testBit_div_two_pow, Nat.add_comm]
  rw [h1, h2]
theorem q8_le (a : Nat) : q8 a ≤ 8 := fb_ct_le _ 8
theorem dv1 {a X : Nat} (h : a < 256) : (a + 256 * X) / 256 = X := by omega
theorem dv2 {a b X : Nat} (h : a < 256) (h2 : b < 256) : (a + 256 * (b + 256 * X)) / 65536 = X := by omega
theorem dv4 {a b c d X : Nat} (h : a < 256) (h2 : b < 256) (h3 : c < 256) (h4 : d < 256) : (a + 256 * (b + 256 * (c + 256 * (d + 256 * X)))) / 4294967296 = X := by omega
theorem md {u Y : Nat} (h : u < 128) : (u + 256 * Y) % 4294967296 % 128 = u := by omega
/-- eight small digits: shifted and added, their sum stands in the lowest -/
theorem sum8 {r0 r1 r2 r3 r4 r5 r6 r7 b b4 b5 : Nat} (h0 : r0 ≤ 8) (h1 : r1 ≤ 8) (h2 : r2 ≤ 8) (h3 : r3 ≤ 8) (h4 : r4 ≤ 8) (h5 : r5 ≤ 8) (h6 : r6 ≤ 8) (h7 : r7 ≤ 8)
    (eb : b = r0 + 256 * (r1 + 256 * (r2 + 256 * (r3 + 256 * (r4 + 256 * (r5 + 256 * (r6 + 256 * r7))))))) (e4 : b4 = b + b / 256) (e5 : b5 = b4 + b4 / 65536) : (b5 + b5 / 4294967296) % 4294967296 % 128 = r0 + r1 + r2 + r3 + r4 + r5 + r6 + r7 := by
  have f4 : b4 = (r0 + r1) + 256 * ((r1 + r2) + 256 * ((r2 + r3) + 256 * ((r3 + r4) + 256 * ((r4 + r5) + 256 * ((r5 + r6) + 256 * ((r6 + r7) + 256 * r7)))))) := by
    rw [e4, eb, dv1 (by omega)]
    simp only [Nat.mul_add]
    omega
  have f5 : b5 = (r0 + r1 + r2 + r3) + 256 * ((r1 + r2 + r3 + r4) + 256 * ((r2 + r3 + r4 + r5) + 256 * ((r3 + r4 + r5 + r6) + 256 * ((r4 + r5 + r6 + r7) + 256 * ((r5 + r6 + r7) + 256 * ((r6 + r7) + 256 * r7)))))) := by
    rw [e5, f4, dv2 (by omega) (by omega)]
    simp only [Nat.mul_add]
    omega
  rw [f5, dv4 (by omega) (by omega) (by omega) (by omega)]
  have f6 : (r0 + r1 + r2 + r3) + 256 * ((r1 + r2 + r3 + r4) + 256 * ((r2 + r3 + r4 + r5) + 256 * ((r3 + r4 + r5 + r6) + 256 * ((r4 + r5 + r6 + r7) + 256 * ((r5 + r6 + r7) + 256 * ((r6 + r7) + 256 * r7)))))) + ((r4 + r5 + r6 + r7) + 256 * ((r5 + r6 + r7) + 256 * ((r6 + r7) + 256 * r7))) = (r0 + r1 + r2 + r3 + r4 + r5 + r6 + r7) + 256 * (((r1 + r2 + r3 + r4) + 256 * ((r2 + r3 + r4 + r5) + 256 * ((r3 + r4 + r5 + r6) + 256 * ((r4 + r5 + r6 + r7) + 256 * ((r5 + r6 + r7) + 256 * ((r6 + r7) + 256 * r7)))))) + ((r5 + r6 + r7) + 256 * ((r6 + r7) + 256 * r7))) := by
    simp only [Nat.mul_add]
    omega
  rw [f6, md (by omega)]
