/-- differences -/
theorem ifc {A B : Prop} [Decidable A] [Decidable B] {x y : Nat} (h : A ↔ B) : (if A then x else y) = (if B then x else y) := by
  by_cases c : A
  · rw [if_pos c, if_pos (h.mp c)]
  · rw [if_neg c, if_neg (fun d => c (h.mpr d))]
def gS (n m x y : Nat) : Nat := m * ((x / m + n - y / m) % n) + (x % m + m - y % m) % m
theorem gS_lt {n m : Nat} (h : GOK n m) (x y : Nat) : gS n m x y < n * m := pr_lt (Nat.mod_lt _ h.n0) (Nat.mod_lt _ h.m0)
theorem gA_S {n m x y : Nat} (h : GOK n m) (hx : x < n * m) (hy : y < n * m) : gA n m (gS n m x y) y = x := by
  have hxn := el_div hx
  have hyn := el_div hy
  have hxm := Nat.mod_lt x h.m0
  have hym := Nat.mod_lt y h.m0
  have hle : y / m ≤ x / m + n := Nat.le_trans (Nat.le_of_lt hyn) (Nat.le_add_left n (x / m))
  apply el_ext (m := m)
  · rw [gA_div h, show gS n m x y / m = (x / m + n - y / m) % n from pr_div (Nat.mod_lt _ h.m0), Nat.mod_add_mod, Nat.sub_add_cancel hle, Nat.add_mod_right, Nat.mod_eq_of_lt hxn]
  · rw [gA_mod h, show gS n m x y % m = (x % m + m - y % m) % m from pr_mod (Nat.mod_lt _ h.m0), Nat.mod_add_mod, show x % m + m - y % m + y % m = x % m + m by omega, Nat.add_mod_right, Nat.mod_mod]
theorem gS_iff {n m x y d : Nat} (h : GOK n m) (hx : x < n * m) (hy : y < n * m) (hd : d < n * m) : gS n m x y = d ↔ gA n m d y = x := by
  constructor
  · intro e
    rw [← e, gA_S h hx hy]
  · intro e
    exact gA_can h (gS_lt h x y) hd hy ((gA_S h hx hy).trans e.symm)
theorem gS_sw {n m x y d : Nat} (h : GOK n m) (hx : x < n * m) (hy : y < n * m) (hd : d < n * m) : gS n m x y = d ↔ gS n m x d = y := by
  rw [gS_iff h hx hy hd, gS_iff h hx hd hy, gA_comm]
theorem gS_self {n m x : Nat} (h : GOK n m) (hx : x < n * m) : gS n m x x = 0 := (gS_iff h hx hx h.v0).mpr (gA_0l h hx)
theorem gS_z {n m x y : Nat} (h : GOK n m) (hx : x < n * m) (hy : y < n * m) (e : gS n m x y = 0) : x = y := by
  rw [gS_iff h hx hy h.v0, gA_0l h hy] at e
  exact e.symm
theorem nI_sa {a b c : Nat} (h : b ≤ a + c) : nI a - nI b + nI c = nI (a + c - b) := by
  rw [← pk_sub h, ← nI_add, Int32.sub_eq_add_neg, Int32.sub_eq_add_neg, Int32.add_assoc, Int32.add_comm (-nI b), ← Int32.add_assoc]
theorem u_minus {n m x y : Nat} {w : Wd} {K : Int32 → Wd → Prop} (hB : Bg n m w) (hx : x < n * m) (hy : y < n * m) (h : K (nI (gS n m x y)) w) : RunI 1 M_B_minus [.ref 39, .int (nI x), .int (nI y)] w K := by
  obtain ⟨ok, e0, e1, -⟩ := hB
  have hv := ok.2.2
  have hn := ok.n40
  have hm := ok.m40
  have hn0 := ok.n0
  have hm0 := ok.m0
  have hxn := el_div hx
  have hyn := el_div hy
  have hxm := Nat.mod_lt x hm0
  have hym := Nat.mod_lt y hm0
  have zn : ¬ nI n = 0 := nI_ne0 hn0 (by omega)
  have zm : ¬ nI m = 0 := nI_ne0 hm0 (by omega)
  have hle : y / m ≤ x / m + n := Nat.le_trans (Nat.le_of_lt hyn) (Nat.le_add_left n (x / m))
  have hsl := Nat.sub_le (x / m + n) (y / m)
  refine r_B_minus ?_
  rw [e0, e1, pk_div (by omega) hm0 (by omega), pk_div (by omega) hm0 (by omega), nI_sa hle, pk_rem (by omega) hn0 (by omega), pk_mul, pk_mul, pk_mul, pk_sub (by have := Nat.div_mul_le_self x m; omega), pk_sub (by have := Nat.div_mul_le_self y m; omega)]
  rw [show x - x / m * m = x % m by rw [Nat.mul_comm, ← Nat.mod_def], show y - y / m * m = y % m by rw [Nat.mul_comm, ← Nat.mod_def], nI_sa (by omega), pk_rem (by omega) hm0 (by omega), nI_add]
  exact ⟨zm, zm, zn, zm, zm, zm, h⟩
/-- how often a difference stands in a set, and in some sets -/
def dq (n m S d a : Nat) : Bool := S.testBit a && S.testBit (gS n m a d)
def dc (n m S d k : Nat) : Nat := if d ≠ 0 ∧ d < n * m then fb_ct (dq n m S d) k else 0
def ctF (n m : Nat) (f : Nat → Nat) : Nat → Nat → Nat
  | 0, _ => 0
  | k + 1, d => ctF n m f k d + dc n m (f k) d (n * m)
theorem dc_le (n m S d k : Nat) : dc n m S d k ≤ k := by
  unfold dc
  split
  · exact fb_ct_le _ k
  · exact Nat.zero_le k
theorem ctF_le (n m : Nat) (f : Nat → Nat) (d : Nat) : ∀ k, ctF n m f k d ≤ k * (n * m)
  | 0 => by rw [Nat.zero_mul]; exact Nat.le_refl 0
  | k + 1 => by
    have h1 := ctF_le n m f d k
    have h2 := dc_le n m (f k) d (n * m)
    rw [ctF, Nat.succ_mul]
    omega
theorem ctF_0 (n m : Nat) (f : Nat → Nat) : ∀ k, ctF n m f k 0 = 0
  | 0 => rfl
  | k + 1 => by
    rw [ctF, ctF_0 n m f k]
    show 0 + (if _ then _ else 0) = 0
    rw [if_neg (fun c => c.1 rfl)]
theorem dc_s (n m S d a : Nat) : dc n m S d (a + 1) = dc n m S d a + (if d ≠ 0 ∧ d < n * m ∧ S.testBit a = true ∧ S.testBit (gS n m a d) = true then 1 else 0) := by
  unfold dc
  by_cases h : d ≠ 0 ∧ d < n * m
  · rw [if_pos h, if_pos h, fb_ct_succ]
    congr 1
    by_cases h2 : dq n m S d a = true
    · rw [if_pos h2, if_pos ⟨h.1, h.2, by unfold dq at h2; simpa using h2⟩]
    · rw [if_neg h2, if_neg]
      intro c
      apply h2
      unfold dq
      rw [c.2.2.1, c.2.2.2]
      rfl
  · rw [if_neg h, if_neg h, if_neg (fun c => h ⟨c.1, c.2.1⟩)]
theorem u_cnt_b {n m p0 n0 c0 k a S : Nat} {c : Nat → Nat} {w0 : Wd} {K : Wd → Prop} (hk0 : kd p0 = .inl (1, n0)) (hp0 : p0 < Nf 1) (hB : Bg n m w0) (hk : k < n0) (hn0 : n0 < 2 ^ 30) (hS : S < 2 ^ (n * m)) (hw : w0.2 p0 k = lN S) (ha : a < n * m) (hSa : S.testBit a = true)
    (h : ∀ w, OnI 48 w0 w → (∀ d, d < 40 → w.1 48 d = nI (c d + (if d ≠ 0 ∧ d < n * m ∧ S.testBit a = true ∧ S.testBit (gS n m a d) = true then 1 else 0))) → E 1 M_B_counts 31 [(0, .ref 39), (1, .ref p0), (2, .int (nI c0)), (3, .int (nI k)), (4, .int (nI (a + 1)))] [] w (qV 1 K)) :
    ∀ j b w, b + j = n * m → OnI 48 w0 w → (∀ d, d < 40 → w.1 48 d = nI (c d + (if d ≠ 0 ∧ d < n * m ∧ gS n m a d < b ∧ S.testBit (gS n m a d) = true then 1 else 0))) → E 1 M_B_counts 43 [(0, .ref 39), (1, .ref p0), (2, .int (nI c0)), (3, .int (nI k)), (4, .int (nI a)), (5, .int (nI b))] [] w (qV 1 K) := by
  have ok := hB.1
  have hv := ok.2.2
  have h40 := pow40 hv
  intro j
  induction j with
  | zero =>
    intro b w hb hm hd
    refine w_B_counts_43 hk0 hp0 ?_
    rw [hm.1 39 (by decide), hB.2.2.2]
    refine pk_le (n * m) b (fun _ a1 e1 => ?_) (fun c => by omega)
    rw [i1, nI_add] at e1
    subst e1
    refine h w hm (fun d hd2 => ?_)
    rw [hd d hd2, show b = n * m by omega]
    congr 2
    have := gS_lt ok a d
    refine ifc ⟨fun c => ⟨c.1, c.2.1, hSa, c.2.2.2⟩, fun c => ⟨c.1, c.2.1, this, c.2.2.2⟩⟩
  | succ j ih =>
    intro b w hb hm hd
    have hbv : b < n * m := by omega
    have stay : (∀ d, d < 40 → d ≠ 0 → d < n * m → gS n m a d = b → S.testBit b = true → False) → ∀ d, d < 40 → w.1 48 d = nI (c d + (if d ≠ 0 ∧ d < n * m ∧ gS n m a d < b + 1 ∧ S.testBit (gS n m a d) = true then 1 else 0)) := by
      intro hno d hd2
      rw [hd d hd2]
      congr 2
      refine ifc ⟨fun c => ⟨c.1, c.2.1, Nat.lt_succ_of_lt c.2.2.1, c.2.2.2⟩, fun c => ⟨c.1, c.2.1, ?_, c.2.2.2⟩⟩
      rcases Nat.lt_or_ge (gS n m a d) b with h1 | h1
      · exact h1
      · have e1 : gS n m a d = b := by omega
        exact absurd (e1 ▸ c.2.2.2) (fun c2 => hno d hd2 c.1 c.2.1 e1 c2)
    refine w_B_counts_43 hk0 hp0 ?_
    rw [hm.1 39 (by decide), hB.2.2.2, hm.2, nI_clamp (by omega), hw]
    refine pk_le (n * m) b (fun c => by omega) (fun _ => ⟨vp_in_nI hk (by omega), u_has (by omega) (by omega) ?_⟩)
    rw [hSa]
    refine zt (pk_eq b a (fun e a5 e5 => ?_) (fun e => ⟨vp_in_nI hk (by omega), ?_⟩))
    · rw [i1, nI_add] at e5
      subst e5
      refine ih (b + 1) w (by omega) hm (stay (fun d _ h0 hdv e1 _ => h0 ?_))
      rw [← (gS_sw ok ha hbv hdv).mpr e1, e, gS_self ok ha]
    · rw [hm.2, hw]
      refine u_has (by omega) (by omega) ?_
      cases hSb : S.testBit b with
      | false =>
        refine zf (fun a5 e5 => ?_)
        rw [i1, nI_add] at e5
        subst e5
        exact ih (b + 1) w (by omega) hm (stay (fun d _ _ _ _ c2 => by rw [hSb] at c2; cases c2))
      | true =>
        have hBw : Bg n m w := ⟨ok, by rw [hm.1 39 (by decide)]; exact hB.2.1, by rw [hm.1 39 (by decide)]; exact hB.2.2.1, by rw [hm.1 39 (by decide)]; exact hB.2.2.2⟩
        have hlt := gS_lt ok a b
        refine zt (u_minus hBw ha hbv ⟨vp_in_nI (by omega) (by decide), vp_in_nI (by omega) (by decide), fun w2 e2 a5 e5 => ?_⟩)
        rw [nI_clamp (by omega)] at e2
        rw [i1, nI_add] at e5
        subst e5
        have hsw : gS n m a (gS n m a b) = b := (gS_sw ok ha hbv hlt).mp rfl
        refine ih (b + 1) w2 (by omega) (by rw [e2]; exact hm.up _ _) (fun d hd2 => ?_)
        by_cases hdd : d = gS n m a b
        · subst hdd
          rw [e2, upI_eq, hd _ hd2, i1, nI_add, hsw, if_neg (fun c => absurd c.2.2.1 (Nat.lt_irrefl b)), if_pos ⟨fun c => e (gS_z ok ha hbv c).symm, hlt, Nat.lt_succ_self b, hSb⟩]
        · rw [e2, upI_ne (by omega), hd d hd2]
          congr 2
          refine ifc ⟨fun c => ⟨c.1, c.2.1, Nat.lt_succ_of_lt c.2.2.1, c.2.2.2⟩, fun c => ⟨c.1, c.2.1, ?_, c.2.2.2⟩⟩
          rcases Nat.lt_or_eq_of_le (Nat.le_of_lt_succ c.2.2.1) with h1 | h1
          · exact h1
          · exact absurd ((gS_sw ok ha hbv c.2.1).mpr h1).symm hdd
