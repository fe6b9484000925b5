/-- the group: sum and multiple, by the numbers of its elements -/
def gA (n m x y : Nat) : Nat := m * ((x / m + y / m) % n) + (x % m + y % m) % m
def gM (n m t x : Nat) : Nat := m * (t * (x / m) % n) + t * (x % m) % m
def GOK (n m : Nat) : Prop := 2 ≤ n ∧ 1 ≤ m ∧ n * m ≤ 40
theorem pr_div {m a b : Nat} (hb : b < m) : (m * a + b) / m = a := by
  rw [Nat.mul_add_div (by omega), Nat.div_eq_of_lt hb, Nat.add_zero]
theorem pr_mod {m a b : Nat} (hb : b < m) : (m * a + b) % m = b := by
  rw [Nat.mul_add_mod, Nat.mod_eq_of_lt hb]
theorem pr_lt {n m a b : Nat} (ha : a < n) (hb : b < m) : m * a + b < n * m := by
  have h1 : m * a + b < m * (a + 1) := by rw [Nat.mul_succ]; omega
  have h2 : m * (a + 1) ≤ m * n := Nat.mul_le_mul_left m (by omega)
  rw [Nat.mul_comm n m]
  omega
theorem el_div {n m x : Nat} (hx : x < n * m) : x / m < n := Nat.div_lt_of_lt_mul (by rw [Nat.mul_comm]; exact hx)
theorem el_ext {m x y : Nat} (h1 : x / m = y / m) (h2 : x % m = y % m) : x = y := by
  rw [← Nat.div_add_mod x m, ← Nat.div_add_mod y m, h1, h2]
theorem GOK.n0 {n m : Nat} (h : GOK n m) : 0 < n := by have := h.1; omega
theorem GOK.m0 {n m : Nat} (h : GOK n m) : 0 < m := h.2.1
theorem GOK.v0 {n m : Nat} (h : GOK n m) : 0 < n * m := Nat.mul_pos h.n0 h.m0
theorem GOK.nv {n m : Nat} (h : GOK n m) : n ≤ n * m := Nat.le_mul_of_pos_right n h.m0
theorem GOK.mv {n m : Nat} (h : GOK n m) : 2 * m ≤ n * m := Nat.mul_le_mul_right m h.1
theorem GOK.n40 {n m : Nat} (h : GOK n m) : n ≤ 40 := Nat.le_trans h.nv h.2.2
theorem GOK.m40 {n m : Nat} (h : GOK n m) : m ≤ 20 := by have := h.mv; have := h.2.2; omega
theorem gA_div {n m : Nat} (h : GOK n m) (x y : Nat) : gA n m x y / m = (x / m + y / m) % n := pr_div (Nat.mod_lt _ h.m0)
theorem gA_mod {n m : Nat} (h : GOK n m) (x y : Nat) : gA n m x y % m = (x % m + y % m) % m := pr_mod (Nat.mod_lt _ h.m0)
theorem gA_lt {n m : Nat} (h : GOK n m) (x y : Nat) : gA n m x y < n * m := pr_lt (Nat.mod_lt _ h.n0) (Nat.mod_lt _ h.m0)
theorem gM_div {n m : Nat} (h : GOK n m) (t x : Nat) : gM n m t x / m = t * (x / m) % n := pr_div (Nat.mod_lt _ h.m0)
theorem gM_mod {n m : Nat} (h : GOK n m) (t x : Nat) : gM n m t x % m = t * (x % m) % m := pr_mod (Nat.mod_lt _ h.m0)
theorem gM_lt {n m : Nat} (h : GOK n m) (t x : Nat) : gM n m t x < n * m := pr_lt (Nat.mod_lt _ h.n0) (Nat.mod_lt _ h.m0)
theorem gA_comm (n m x y : Nat) : gA n m x y = gA n m y x := by
  unfold gA
  rw [Nat.add_comm (x / m), Nat.add_comm (x % m)]
theorem gA_assoc {n m : Nat} (h : GOK n m) (x y z : Nat) : gA n m (gA n m x y) z = gA n m x (gA n m y z) := by
  apply el_ext (m := m)
  · rw [gA_div h, gA_div h, gA_div h, gA_div h, Nat.mod_add_mod, Nat.add_mod_mod, Nat.add_assoc]
  · rw [gA_mod h, gA_mod h, gA_mod h, gA_mod h]
    generalize x % m = a
    generalize y % m = b
    generalize z % m = c
    rw [Nat.mod_add_mod, Nat.add_mod_mod, Nat.add_assoc]
theorem gA_0 {n m x : Nat} (h : GOK n m) (hx : x < n * m) : gA n m x 0 = x := by
  apply el_ext (m := m)
  · rw [gA_div h, Nat.zero_div, Nat.add_zero, Nat.mod_eq_of_lt (el_div hx)]
  · rw [gA_mod h, Nat.zero_mod, Nat.add_zero, Nat.mod_mod]
theorem gA_0l {n m x : Nat} (h : GOK n m) (hx : x < n * m) : gA n m 0 x = x := by rw [gA_comm, gA_0 h hx]
theorem gM_0 (n m x : Nat) : gM n m 0 x = 0 := by
  simp [gM]
theorem gM_z (n m t : Nat) : gM n m t 0 = 0 := by
  simp [gM]
theorem gM_1 {n m x : Nat} (h : GOK n m) (hx : x < n * m) : gM n m 1 x = x := by
  apply el_ext (m := m)
  · rw [gM_div h, Nat.one_mul, Nat.mod_eq_of_lt (el_div hx)]
  · rw [gM_mod h, Nat.one_mul, Nat.mod_mod]
theorem gM_add {n m : Nat} (h : GOK n m) (s t x : Nat) : gM n m (s + t) x = gA n m (gM n m s x) (gM n m t x) := by
  apply el_ext (m := m)
  · rw [gM_div h, gA_div h, gM_div h, gM_div h, Nat.add_mul, Nat.add_mod]
  · rw [gM_mod h, gA_mod h, gM_mod h, gM_mod h, Nat.add_mul, Nat.add_mod]
theorem gM_mul {n m : Nat} (h : GOK n m) (s t x : Nat) : gM n m (s * t) x = gM n m s (gM n m t x) := by
  apply el_ext (m := m)
  · rw [gM_div h, gM_div h, gM_div h, Nat.mul_mod_mod, Nat.mul_assoc]
  · rw [gM_mod h, gM_mod h, gM_mod h]
    generalize x % m = c
    rw [Nat.mul_mod_mod, Nat.mul_assoc]
theorem gM_gA {n m : Nat} (h : GOK n m) (t x y : Nat) : gM n m t (gA n m x y) = gA n m (gM n m t x) (gM n m t y) := by
  apply el_ext (m := m)
  · rw [gM_div h, gA_div h, gA_div h, gM_div h, gM_div h, Nat.mul_mod_mod, Nat.mul_add, Nat.add_mod]
  · rw [gM_mod h, gA_mod h, gA_mod h, gM_mod h, gM_mod h, Nat.mul_mod_mod, Nat.mul_add, Nat.add_mod]
theorem gM_v {n m : Nat} (x : Nat) : gM n m (n * m) x = 0 := by
  unfold gM
  rw [Nat.mul_assoc, Nat.mul_mod_right, Nat.mul_zero, Nat.zero_add, Nat.mul_comm n m, Nat.mul_assoc, Nat.mul_mod_right]
theorem gM_succ {n m x : Nat} (h : GOK n m) (hx : x < n * m) (t : Nat) : gM n m (t + 1) x = gA n m (gM n m t x) x := by
  rw [gM_add h, gM_1 h hx]
/-- the opposite -/
def gN (n m x : Nat) : Nat := gM n m (n * m - 1) x
theorem gN_lt {n m : Nat} (h : GOK n m) (x : Nat) : gN n m x < n * m := gM_lt h _ _
theorem gA_N {n m x : Nat} (h : GOK n m) (hx : x < n * m) : gA n m x (gN n m x) = 0 := by
  have h1 : gA n m (gM n m 1 x) (gM n m (n * m - 1) x) = gM n m (1 + (n * m - 1)) x := (gM_add h _ _ _).symm
  rw [gM_1 h hx, show 1 + (n * m - 1) = n * m by have := h.v0; omega, gM_v] at h1
  exact h1
theorem gA_can {n m x y z : Nat} (h : GOK n m) (hx : x < n * m) (hy : y < n * m) (hz : z < n * m) (e : gA n m x z = gA n m y z) : x = y := by
  have e2 : gA n m (gA n m x z) (gN n m z) = gA n m (gA n m y z) (gN n m z) := by rw [e]
  rw [gA_assoc h, gA_assoc h, gA_N h hz, gA_0 h hx, gA_0 h hy] at e2
  exact e2
/-- the image of a set under a map -/
def imS (φ : Nat → Nat) (S : Nat) : Nat → Nat
  | 0 => 0
  | k + 1 => imS φ S k ||| (if S.testBit k then 2 ^ φ k else 0)
theorem imS_bit (φ : Nat → Nat) (S : Nat) (y : Nat) : ∀ k, (imS φ S k).testBit y = true ↔ ∃ x, x < k ∧ S.testBit x = true ∧ φ x = y
  | 0 => by
    constructor
    · intro h
      simp [imS] at h
    · rintro ⟨x, hx, -⟩
      omega
  | k + 1 => by
    have ih := imS_bit φ S y k
    rw [imS, Nat.testBit_or, Bool.or_eq_true, ih]
    constructor
    · rintro (⟨x, hx, h1, h2⟩ | h)
      · exact ⟨x, by omega, h1, h2⟩
      · split at h
        next hk =>
          rw [Nat.testBit_two_pow, decide_eq_true_eq] at h
          exact ⟨k, by omega, hk, h⟩
        next => simp at h
    · rintro ⟨x, hx, h1, h2⟩
      rcases Nat.lt_or_ge x k with h | h
      · exact Or.inl ⟨x, h, h1, h2⟩
      · have : x = k := by omega
        subst this
        right
        rw [if_pos h1, Nat.testBit_two_pow, decide_eq_true_eq]
        exact h2
theorem bit_lt {S v x : Nat} (hS : S < 2 ^ v) (h : S.testBit x = true) : x < v := by
  rcases Nat.lt_or_ge x v with h1 | h1
  · exact h1
  · have := Nat.testBit_lt_two_pow (Nat.lt_of_lt_of_le hS (Nat.pow_le_pow_right (by decide) h1))
    rw [this] at h
    cases h
theorem lt_of_bits {S v : Nat} (h : ∀ x, S.testBit x = true → x < v) : S < 2 ^ v := by
  apply Nat.lt_pow_two_of_testBit
  intro i hi
  cases hb : S.testBit i with
  | false => rfl
  | true => have := h i hb; omega
theorem bits_ext {S T : Nat} (h : ∀ x, S.testBit x = true ↔ T.testBit x = true) : S = T := by
  apply Nat.eq_of_testBit_eq
  intro i
  have := h i
  cases h1 : S.testBit i <;> cases h2 : T.testBit i <;> simp_all
theorem imS_lt {φ : Nat → Nat} {S v k : Nat} (h : ∀ x, x < k → φ x < v) : imS φ S k < 2 ^ v := by
  apply lt_of_bits
  intro y hy
  obtain ⟨x, hx, -, rfl⟩ := (imS_bit φ S y k).mp hy
  exact h x hx
theorem imS_cong {φ ψ : Nat → Nat} {S : Nat} : ∀ {k : Nat}, (∀ x, x < k → φ x = ψ x) → imS φ S k = imS ψ S k
  | 0, _ => rfl
  | k + 1, h => by rw [imS, imS, imS_cong (fun x hx => h x (by omega)), h k (by omega)]
theorem imS_id {S v : Nat} (hS : S < 2 ^ v) : imS (fun x => x) S v = S := by
  apply bits_ext
  intro y
  rw [imS_bit]
  constructor
  · rintro ⟨x, -, h, rfl⟩
    exact h
  · intro h
    exact ⟨y, bit_lt hS h, h, rfl⟩
/-- the translate by g, and the map with given images of (1, 0) and (0, 1) -/
def trS (n m S g : Nat) : Nat := imS (fun x => gA n m x g) S (n * m)
def gF (n m u z x : Nat) : Nat := gA n m (gM n m (x / m) u) (gM n m (x % m) z)
theorem trS_lt {n m : Nat} (h : GOK n m) (S g : Nat) : trS n m S g < 2 ^ (n * m) := imS_lt (fun x _ => gA_lt h x g)
theorem trS_bit {n m S g y : Nat} : (trS n m S g).testBit y = true ↔ ∃ x, x < n * m ∧ S.testBit x = true ∧ gA n m x g = y := imS_bit _ _ _ _
theorem trS_0 {n m S : Nat} (h : GOK n m) (hS : S < 2 ^ (n * m)) : trS n m S 0 = S := by
  unfold trS
  rw [imS_cong (ψ := fun x => x) (fun x hx => gA_0 h hx), imS_id hS]
theorem trS_tr {n m S g k : Nat} (h : GOK n m) : trS n m (trS n m S g) k = trS n m S (gA n m g k) := by
  apply bits_ext
  intro y
  rw [trS_bit, trS_bit]
  constructor
  · rintro ⟨x, hx, h1, rfl⟩
    obtain ⟨x2, hx2, h2, rfl⟩ := trS_bit.mp h1
    exact ⟨x2, hx2, h2, (gA_assoc h _ _ _).symm⟩
  · rintro ⟨x, hx, h1, rfl⟩
    exact ⟨gA n m x g, gA_lt h _ _, trS_bit.mpr ⟨x, hx, h1, rfl⟩, gA_assoc h _ _ _⟩
