/-- the reference's own rows of the group -/
def Bg (n m : Nat) (w : Wd) : Prop := GOK n m ∧ w.1 39 0 = nI n ∧ w.1 39 1 = nI m ∧ w.1 39 2 = nI (n * m)
theorem u_plus {n m x y : Nat} {w : Wd} {K : Int32 → Wd → Prop} (hB : Bg n m w) (hx : x < n * m) (hy : y < n * m) (h : K (nI (gA n m x y)) w) : RunI 1 M_B_plus [.ref 39, .int (nI x), .int (nI y)] w K := by
  obtain ⟨ok, e0, e1, -⟩ := hB
  have hv := ok.2.2
  have hn := ok.n40
  have hm := ok.m40
  have hn0 := ok.n0
  have hm0 := ok.m0
  have hxn := el_div hx
  have hyn := el_div hy
  have hxm := Nat.mod_lt x hm0
  have hym := Nat.mod_lt y hm0
  have zn : ¬ nI n = 0 := nI_ne0 hn0 (by omega)
  have zm : ¬ nI m = 0 := nI_ne0 hm0 (by omega)
  refine r_B_plus ?_
  rw [e0, e1, pk_div (by omega) hm0 (by omega), pk_div (by omega) hm0 (by omega), nI_add, pk_rem (by omega) hn0 (by omega), pk_mul, pk_mul, pk_mul, pk_sub (by have := Nat.div_mul_le_self x m; omega), pk_sub (by have := Nat.div_mul_le_self y m; omega)]
  rw [show x - x / m * m = x % m by rw [Nat.mul_comm, ← Nat.mod_def], show y - y / m * m = y % m by rw [Nat.mul_comm, ← Nat.mod_def], nI_add, pk_rem (by omega) hm0 (by omega), nI_add]
  exact ⟨zm, zm, zn, zm, zm, zm, h⟩
theorem u_times {n m t x : Nat} {w : Wd} {K : Int32 → Wd → Prop} (hB : Bg n m w) (ht : t ≤ 1000) (hx : x < n * m) (h : K (nI (gM n m t x)) w) : RunI 1 M_B_times [.ref 39, .int (nI t), .int (nI x)] w K := by
  obtain ⟨ok, e0, e1, -⟩ := hB
  have hv := ok.2.2
  have hn := ok.n40
  have hm := ok.m40
  have hn0 := ok.n0
  have hm0 := ok.m0
  have hxn := el_div hx
  have hxm := Nat.mod_lt x hm0
  have zn : ¬ nI n = 0 := nI_ne0 hn0 (by omega)
  have zm : ¬ nI m = 0 := nI_ne0 hm0 (by omega)
  have b1 : t * (x / m) ≤ 1000 * 40 := Nat.mul_le_mul ht (by omega)
  have b2 : t * (x % m) ≤ 1000 * 40 := Nat.mul_le_mul ht (by omega)
  refine r_B_times ?_
  rw [e0, e1, pk_div (by omega) hm0 (by omega), pk_mul, pk_rem (by omega) hn0 (by omega), pk_mul, pk_mul, pk_sub (by have := Nat.div_mul_le_self x m; omega)]
  rw [show x - x / m * m = x % m by rw [Nat.mul_comm, ← Nat.mod_def], pk_mul, pk_rem (by omega) hm0 (by omega), nI_add]
  exact ⟨zm, zn, zm, zm, h⟩
theorem u_maps {n m u z x : Nat} {w : Wd} {K : Int32 → Wd → Prop} (hB : Bg n m w) (hu : u < n * m) (hz : z < n * m) (hx : x < n * m) (h : K (nI (gF n m u z x)) w) : RunI 1 M_B_maps [.ref 39, .int (nI u), .int (nI z), .int (nI x)] w K := by
  have ok := hB.1
  have e1 := hB.2.2.1
  have hv := ok.2.2
  have hn := ok.n40
  have hm := ok.m40
  have hm0 := ok.m0
  have hxn := el_div hx
  have hxm := Nat.mod_lt x hm0
  have zm : ¬ nI m = 0 := nI_ne0 hm0 (by omega)
  refine r_B_maps ?_
  rw [e1, pk_div (by omega) hm0 (by omega)]
  refine ⟨zm, u_times hB (by omega) hu ?_⟩
  rw [e1, pk_rem (by omega) hm0 (by omega)]
  exact ⟨zm, u_times hB (by omega) hz (u_plus hB (gM_lt ok _ _) (gM_lt ok _ _) h)⟩
theorem sh_in {x : Nat} (hx : x < 64) : ((((nI x).toInt64 &&& 63) : Int64).toBitVec.smod 64).toNat = x := by
  rw [wb_c x hx, wb_tb, wb_sm x hx, BitVec.toNat_ofNat, Nat.mod_eq_of_lt (by omega)]
theorem u_has {S x : Nat} {w : Wd} {K : Bool → Wd → Prop} (hS : S < 2 ^ 62) (hx : x < 63) (h : K (S.testBit x) w) : RunZ 1 M_B_has [.long (lN S), .int (nI x)] w K := by
  refine r_B_has ?_
  have hle : S / 2 ^ x ≤ S := Nat.div_le_self _ _
  rw [pf_shr (sh_in (by omega)) hS, wb_a1 (by omega), l1_, fb_lN_inj (by omega) (by decide)]
  cases hb : S.testBit x with
  | false =>
    rw [hb] at h
    refine ⟨fun _ => h, fun c => ?_⟩
    have := (tb_dec S x).mpr c
    rw [hb] at this
    cases this
  | true =>
    rw [hb] at h
    have := (tb_dec S x).mp hb
    exact ⟨fun c => absurd this c, fun _ => h⟩
/-- in: a number between two others -/
theorem u_in {a lo hi : Int32} {y0 y2 y4 : Int64} {w : Wd} {K : Bool → Wd → Prop} (h0 : y0 = a.toInt64) (h2 : y2 = lo.toInt64) (h4 : y4 = hi.toInt64) (h : K (decide (¬ a < lo ∧ ¬ hi < a)) w) : RunZ 1 M_B_in [.long y0, .long y2, .long y4] w K := by
  subst h0
  subst h2
  subst h4
  refine r_B_in ?_
  rw [fa_wide_lt, fa_wide_lt]
  refine ⟨fun c => ?_, fun c => ⟨fun c2 => ?_, fun c2 => ?_⟩⟩
  · rw [decide_eq_false (fun q => q.1 c)] at h
    exact h
  · rw [decide_eq_false (fun q => q.2 c2)] at h
    exact h
  · rw [decide_eq_true ⟨c, c2⟩] at h
    exact h
def Out (v : Nat) (x : Int32) : Prop := x < 0 ∨ nI v ≤ x
theorem el_cases (x : Int32) {v : Nat} (hv : v < 2 ^ 31) : Out v x ∨ ∃ j, j < v ∧ x = nI j := by
  rcases pk_ix x hv with h | h | h
  · exact Or.inl (Or.inl h)
  · exact Or.inl (Or.inr h)
  · exact Or.inr h
theorem out_dec {v : Nat} {x : Int32} (hv : 0 < v) (hv2 : v < 2 ^ 30) (h : Out v x) : decide (¬ x < 0 ∧ ¬ nI (v - 1) < x) = false := by
  apply decide_eq_false
  rintro ⟨h1, h2⟩
  rcases h with h | h
  · exact h1 h
  · apply h2
    rw [Int32.lt_iff_toInt_lt, nI_toInt (by omega)]
    rw [Int32.le_iff_toInt_le, nI_toInt (by omega)] at h
    omega
theorem in_dec {v x : Nat} (hx : x < v) (hv : v < 2 ^ 30) : decide (¬ nI x < 0 ∧ ¬ nI (v - 1) < nI x) = true := by
  apply decide_eq_true
  exact ⟨nI_pos (by omega), nI_nlt (by omega) (by omega)⟩
theorem u_isEl {n m : Nat} {x : Int32} {w : Wd} {K : Bool → Wd → Prop} (hB : Bg n m w) (h : K (decide (¬ x < 0 ∧ ¬ nI (n * m - 1) < x)) w) : RunZ 1 M_B_isElement [.ref 39, .int x] w K := by
  refine r_B_isElement ?_
  rw [hB.2.2.2, i1, pk_sub hB.1.v0]
  exact u_in (lo := 0) (hi := nI (n * m - 1)) rfl rfl rfl h
/-- isAutomorphism and findAutomorphisms of the reference -/
theorem imS_full_lt {v S : Nat} (h : S < 2 ^ v) (hv : v ≤ 40) : S < 2 ^ 40 := Nat.lt_of_lt_of_le h (pow40 hv)
theorem imS_full {φ : Nat → Nat} (v : Nat) : ∀ k, k ≤ v → imS φ (2 ^ v - 1) (k + 0) = imS φ (2 ^ v - 1) k := fun k _ => rfl
theorem u_isAut_l {n m u z : Nat} {w : Wd} {K : Bool → Wd → Prop} (hB : Bg n m w) (hu : u < n * m) (hz : z < n * m) (h : K (decide (imS (gF n m u z) (2 ^ (n * m) - 1) (n * m) = 2 ^ (n * m) - 1)) w) :
    ∀ j k, k + j = n * m → E 1 M_B_isAutomorphism 31 [(0, .ref 39), (1, .int (nI u)), (2, .int (nI z)), (3, .long (lN (imS (gF n m u z) (2 ^ (n * m) - 1) k))), (5, .int (nI k))] [] w (qZ 1 K) := by
  have ok := hB.1
  have hv := ok.2.2
  have h40 := pow40 hv
  intro j
  induction j with
  | zero =>
    intro k hk
    have him := imS_lt (φ := gF n m u z) (S := 2 ^ (n * m) - 1) (v := n * m) (k := k) (fun x _ => gF_lt ok u z x)
    refine w_B_isAutomorphism_31 ?_
    rw [hB.2.2.2, l_pow (by omega), l1_, lN_sub Nat.one_le_two_pow, fb_lN_inj (by omega) (by omega)]
    refine pk_le (n * m) k (fun _ => ?_) (fun c => by omega)
    rw [show k = n * m by omega]
    refine ⟨fun c => ?_, fun c => ?_⟩
    · rw [decide_eq_false c] at h
      exact h
    · rw [decide_eq_true c] at h
      exact h
  | succ j ih =>
    intro k hk
    have hkv : k < n * m := by omega
    refine w_B_isAutomorphism_31 ?_
    rw [hB.2.2.2]
    refine pk_le (n * m) k (fun c => by omega) (fun c => u_maps hB hu hz hkv (fun b3 e3 a4 e4 => ?_))
    rw [i1, nI_add] at e4
    subst e4
    rw [l_pow (by have := gF_lt ok u z k; omega), fb_orL] at e3
    subst e3
    have ih1 := ih (k + 1) (by omega)
    rw [imS, if_pos (by rw [full_bit]; exact decide_eq_true hkv)] at ih1
    exact ih1
theorem u_isAut {n m u z : Nat} {w : Wd} {K : Bool → Wd → Prop} (hB : Bg n m w) (hu : u < n * m) (hz : z < n * m) (h : K (isAut n m u z) w) : RunZ 1 M_B_isAutomorphism [.ref 39, .int (nI u), .int (nI z)] w K := by
  have ok := hB.1
  have hv := ok.2.2
  have hn := ok.n40
  have hm := ok.m40
  refine r_B_isAutomorphism ?_
  rw [hB.2.1]
  refine u_times hB (by omega) hu ?_
  rw [and_comm]
  have g1 := gM_lt ok n u
  refine pk_eq (gM n m n u) 0 (fun c1 => ?_) (fun c1 => ?_)
  · rw [hB.2.2.1]
    refine u_times hB (by omega) hz ?_
    have g2 := gM_lt ok m z
    refine pk_eq (gM n m m z) 0 (fun c2 => ?_) (fun c2 => ?_)
    · have e : isAut n m u z = decide (imS (gF n m u z) (2 ^ (n * m) - 1) (n * m) = 2 ^ (n * m) - 1) := by
        unfold isAut
        rw [decide_eq_true c1, decide_eq_true c2]
        rfl
      rw [e] at h
      exact u_isAut_l hB hu hz h (n * m) 0 (by omega)
    · have e : isAut n m u z = false := by
        unfold isAut
        rw [decide_eq_false c2, Bool.false_and, Bool.and_false]
      rw [e] at h
      exact h
  · have e : isAut n m u z = false := by
      unfold isAut
      rw [decide_eq_false c1, Bool.false_and]
    rw [e] at h
    exact h
