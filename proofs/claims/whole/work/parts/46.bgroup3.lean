theorem u_translate_l {n m S g : Nat} {w : Wd} {K : Int64 → Wd → Prop} (hB : Bg n m w) (hS : S < 2 ^ 62) (hg : g < n * m) (h : K (lN (imS (fun x => gA n m x g) S (n * m))) w) :
    ∀ j k, k + j = n * m → E 1 M_B_translate 6 [(0, .ref 39), (1, .long (lN S)), (3, .int (nI g)), (4, .long (lN (imS (fun x => gA n m x g) S k))), (6, .int (nI k))] [] w (qL 1 K) := by
  have ok := hB.1
  have hv := ok.2.2
  intro j
  induction j with
  | zero =>
    intro k hk
    refine w_B_translate_6 ?_
    rw [hB.2.2.2]
    refine pk_le (n * m) k (fun _ => ?_) (fun c => by omega)
    rw [show k = n * m by omega]
    exact h
  | succ j ih =>
    intro k hk
    have hkv : k < n * m := by omega
    refine w_B_translate_6 ?_
    rw [hB.2.2.2]
    refine pk_le (n * m) k (fun c => by omega) (fun c => u_has hS (by omega) ?_)
    have ih1 := ih (k + 1) (by omega)
    refine ⟨fun hb b3 e3 a4 e4 => ?_, fun hb => u_plus hB hkv hg (fun b7 e7 a8 e8 => ?_)⟩
    · rw [i1, nI_add] at e4
      subst e4
      rw [l0_, fb_orL, Nat.or_zero] at e3
      subst e3
      rw [imS, if_neg (by rw [hb]; decide), Nat.or_zero] at ih1
      exact ih1
    · rw [i1, nI_add] at e8
      subst e8
      rw [l_pow (by have := gA_lt ok k g; omega), fb_orL] at e7
      subst e7
      rw [imS, if_pos hb] at ih1
      exact ih1
theorem u_translate {n m S g : Nat} {w : Wd} {K : Int64 → Wd → Prop} (hB : Bg n m w) (hS : S < 2 ^ 62) (hg : g < n * m) (h : K (lN (imS (fun x => gA n m x g) S (n * m))) w) : RunL 1 M_B_translate [.ref 39, .long (lN S), .int (nI g)] w K :=
  r_B_translate (u_translate_l hB hS hg h (n * m) 0 (by omega))
theorem u_imageOf_l {n m S u z : Nat} {w : Wd} {K : Int64 → Wd → Prop} (hB : Bg n m w) (hS : S < 2 ^ 62) (hu : u < n * m) (hz : z < n * m) (h : K (lN (imS (gF n m u z) S (n * m))) w) :
    ∀ j k, k + j = n * m → E 1 M_B_imageOf 6 [(0, .ref 39), (1, .long (lN S)), (3, .int (nI u)), (4, .int (nI z)), (5, .long (lN (imS (gF n m u z) S k))), (7, .int (nI k))] [] w (qL 1 K) := by
  have ok := hB.1
  have hv := ok.2.2
  intro j
  induction j with
  | zero =>
    intro k hk
    refine w_B_imageOf_6 ?_
    rw [hB.2.2.2]
    refine pk_le (n * m) k (fun _ => ?_) (fun c => by omega)
    rw [show k = n * m by omega]
    exact h
  | succ j ih =>
    intro k hk
    have hkv : k < n * m := by omega
    refine w_B_imageOf_6 ?_
    rw [hB.2.2.2]
    refine pk_le (n * m) k (fun c => by omega) (fun c => u_has hS (by omega) ?_)
    have ih1 := ih (k + 1) (by omega)
    refine ⟨fun hb b3 e3 a4 e4 => ?_, fun hb => u_maps hB hu hz hkv (fun b7 e7 a8 e8 => ?_)⟩
    · rw [i1, nI_add] at e4
      subst e4
      rw [l0_, fb_orL, Nat.or_zero] at e3
      subst e3
      rw [imS, if_neg (by rw [hb]; decide), Nat.or_zero] at ih1
      exact ih1
    · rw [i1, nI_add] at e8
      subst e8
      rw [l_pow (by have := gF_lt ok u z k; omega), fb_orL] at e7
      subst e7
      rw [imS, if_pos hb] at ih1
      exact ih1
theorem u_imageOf {n m S u z : Nat} {w : Wd} {K : Int64 → Wd → Prop} (hB : Bg n m w) (hS : S < 2 ^ 62) (hu : u < n * m) (hz : z < n * m) (h : K (lN (imS (gF n m u z) S (n * m))) w) : RunL 1 M_B_imageOf [.ref 39, .long (lN S), .int (nI u), .int (nI z)] w K :=
  r_B_imageOf (u_imageOf_l hB hS hu hz h (n * m) 0 (by omega))
theorem u_timesOf_l {n m S t : Nat} {w : Wd} {K : Int64 → Wd → Prop} (hB : Bg n m w) (hS : S < 2 ^ 62) (ht : t ≤ 1000) (h : K (lN (imS (gM n m t) S (n * m))) w) :
    ∀ j k, k + j = n * m → E 1 M_B_timesOf 6 [(0, .ref 39), (1, .long (lN S)), (3, .int (nI t)), (4, .long (lN (imS (gM n m t) S k))), (6, .int (nI k))] [] w (qL 1 K) := by
  have ok := hB.1
  have hv := ok.2.2
  intro j
  induction j with
  | zero =>
    intro k hk
    refine w_B_timesOf_6 ?_
    rw [hB.2.2.2]
    refine pk_le (n * m) k (fun _ => ?_) (fun c => by omega)
    rw [show k = n * m by omega]
    exact h
  | succ j ih =>
    intro k hk
    have hkv : k < n * m := by omega
    refine w_B_timesOf_6 ?_
    rw [hB.2.2.2]
    refine pk_le (n * m) k (fun c => by omega) (fun c => u_has hS (by omega) ?_)
    have ih1 := ih (k + 1) (by omega)
    refine ⟨fun hb b3 e3 a4 e4 => ?_, fun hb => u_times hB ht hkv (fun b7 e7 a8 e8 => ?_)⟩
    · rw [i1, nI_add] at e4
      subst e4
      rw [l0_, fb_orL, Nat.or_zero] at e3
      subst e3
      rw [imS, if_neg (by rw [hb]; decide), Nat.or_zero] at ih1
      exact ih1
    · rw [i1, nI_add] at e8
      subst e8
      rw [l_pow (by have := gM_lt ok t k; omega), fb_orL] at e7
      subst e7
      rw [imS, if_pos hb] at ih1
      exact ih1
theorem u_timesOf {n m S t : Nat} {w : Wd} {K : Int64 → Wd → Prop} (hB : Bg n m w) (hS : S < 2 ^ 62) (ht : t ≤ 1000) (h : K (lN (imS (gM n m t) S (n * m))) w) : RunL 1 M_B_timesOf [.ref 39, .long (lN S), .int (nI t)] w K :=
  r_B_timesOf (u_timesOf_l hB hS ht h (n * m) 0 (by omega))
theorem u_normal_l {n m S : Nat} {w : Wd} {K : Int64 → Wd → Prop} (hB : Bg n m w) (hS : S < 2 ^ (n * m)) (h : K (lN (nfS n m S)) w) :
    ∀ j k, k + 1 + j = n * m → E 1 M_B_normalOf 5 [(0, .ref 39), (1, .long (lN S)), (3, .long (lN (mnS (fun g => trS n m S (g + 1)) S k))), (5, .int (nI (k + 1)))] [] w (qL 1 K) := by
  have ok := hB.1
  have hv := ok.2.2
  have h40 := pow40 hv
  intro j
  induction j with
  | zero =>
    intro k hk
    refine w_B_normalOf_5 ?_
    rw [hB.2.2.2]
    refine pk_le (n * m) (k + 1) (fun _ => ?_) (fun c => by omega)
    have e : mnS (fun g => trS n m S (g + 1)) S k = nfS n m S := by
      refine nfS_eq ok hS (fun g hg => ?_) ?_
      · rcases Nat.eq_zero_or_pos g with h0 | h0
        · rw [h0, trS_0 ok hS]
          exact (mnS_le _ _ _).1
        · have := (mnS_le (fun g => trS n m S (g + 1)) S k).2 (g - 1) (by omega)
          simp only [show g - 1 + 1 = g by omega] at this
          exact this
      · rcases mnS_is (fun g => trS n m S (g + 1)) S k with h1 | ⟨g, hg, h1⟩
        · exact ⟨0, ok.v0, by rw [trS_0 ok hS]; exact h1⟩
        · exact ⟨g + 1, by omega, h1⟩
    rw [e]
    exact h
  | succ j ih =>
    intro k hk
    have h1 := trS_lt ok S (k + 1)
    have h2 := (mnS_le (fun g => trS n m S (g + 1)) S k).1
    refine w_B_normalOf_5 ?_
    rw [hB.2.2.2]
    refine pk_le (n * m) (k + 1) (fun c => by omega) (fun c => u_translate hB (by omega) (by omega) ?_)
    show (lN _ ≤ lN (trS n m S (k + 1)) → _) ∧ _
    rw [show imS (fun x => gA n m x (k + 1)) S (n * m) = trS n m S (k + 1) from rfl, pk_lLE (by omega) (by omega)]
    have ih1 := ih (k + 1) (by omega)
    rw [mnS] at ih1
    refine ⟨fun c1 a3 e3 => ?_, fun c1 a3 e3 => ?_⟩
    · rw [i1, nI_add] at e3
      subst e3
      rw [if_neg (by omega)] at ih1
      exact ih1
    · rw [i1, nI_add] at e3
      subst e3
      rw [if_pos (by omega)] at ih1
      exact ih1
theorem u_normal {n m S : Nat} {w : Wd} {K : Int64 → Wd → Prop} (hB : Bg n m w) (hS : S < 2 ^ (n * m)) (h : K (lN (nfS n m S)) w) : RunL 1 M_B_normalOf [.ref 39, .long (lN S)] w K := by
  have hv := hB.1.v0
  exact r_B_normalOf (u_normal_l hB hS h (n * m - 1) 0 (by omega))
/-- the order of an element, the reference's way -/
theorem u_ord_l {n m x : Nat} {w : Wd} {K : Int32 → Wd → Prop} (hB : Bg n m w) (hx : x < n * m) (h : K (nI (ordG n m x)) w) :
    ∀ j t, t + j = ordG n m x → 1 ≤ t → E 1 M_B_orderOf 12 [(0, .ref 39), (1, .int (nI x)), (2, .int (nI t))] [] w (qI 1 K) := by
  have ok := hB.1
  have hv := ok.2.2
  have hle := ord_le ok x
  intro j
  induction j with
  | zero =>
    intro t ht h1
    have e : t = ordG n m x := by omega
    refine w_B_orderOf_12 (u_times hB (by omega) hx ?_)
    rw [e, ord_yes ok]
    exact pk_eq 0 0 (fun _ => h) (fun c => absurd rfl c)
  | succ j ih =>
    intro t ht h1
    have hlt := gM_lt ok t x
    refine w_B_orderOf_12 (u_times hB (by omega) hx ?_)
    refine pk_eq (gM n m t x) 0 (fun c => absurd c (ord_no h1 (by omega))) (fun c a3 e3 => ?_)
    rw [i1, nI_add] at e3
    subst e3
    exact ih (t + 1) (by omega) (by omega)
/-- the reference's way to the subgroup -/
def shO (n m x y : Nat) : Nat → Nat
  | 0 => 1
  | a + 1 => sgI n m (gM n m a x) y (shO n m x y a) (n * m)
theorem shO_bit (n m x y e : Nat) : ∀ k, (shO n m x y k).testBit e = true ↔ e = 0 ∨ ∃ i, i < k ∧ ∃ j, j < n * m ∧ gA n m (gM n m i x) (gM n m j y) = e
  | 0 => by
    rw [shO, show (1 : Nat) = 2 ^ 0 from rfl, Nat.testBit_two_pow, decide_eq_true_eq]
    constructor
    · intro h
      exact Or.inl h.symm
    · rintro (h | ⟨i, hi, -⟩)
      · exact h.symm
      · omega
  | k + 1 => by
    rw [shO, sgI_bit, shO_bit n m x y e k]
    constructor
    · rintro ((h | ⟨i, hi, h⟩) | h)
      · exact Or.inl h
      · exact Or.inr ⟨i, by omega, h⟩
      · exact Or.inr ⟨k, by omega, h⟩
    · rintro (h | ⟨i, hi, h⟩)
      · exact Or.inl (Or.inl h)
      · rcases Nat.lt_or_ge i k with h1 | h1
        · exact Or.inl (Or.inr ⟨i, h1, h⟩)
        · rw [show i = k by omega] at h
          exact Or.inr h
theorem shO_ho {n m x y : Nat} (ok : GOK n m) : shO n m x y (n * m) = hoS n m x y := by
  apply bits_ext
  intro e
  rw [shO_bit, hoS_bit ok]
  constructor
  · rintro (h | ⟨i, -, j, -, h⟩)
    · refine ⟨0, 0, ?_⟩
      rw [gM_0, gM_0, gA_0 ok ok.v0, h]
    · exact ⟨i, j, h⟩
  · rintro ⟨i, j, h⟩
    refine Or.inr ⟨i % ordG n m x, Nat.lt_of_lt_of_le (Nat.mod_lt _ (ord_pos n m x)) (ord_le ok x), j % ordG n m y, Nat.lt_of_lt_of_le (Nat.mod_lt _ (ord_pos n m y)) (ord_le ok y), ?_⟩
    rw [gM_ord ok, gM_ord ok]
    exact h
theorem u_ho_in {n m x y a : Nat} {w : Wd} {K : Int32 → Wd → Prop} (hB : Bg n m w) (hx : x < n * m) (hy : y < n * m) (ha : a < n * m)
    (hcont : E 1 M_B_setHole 23 [(0, .ref 39), (1, .int (nI x)), (2, .int (nI y)), (3, .long (lN (shO n m x y (a + 1)))), (5, .int (nI (a + 1)))] [] w (qI 1 K)) :
    ∀ j k, k + j = n * m → E 1 M_B_setHole 35 [(0, .ref 39), (1, .int (nI x)), (2, .int (nI y)), (3, .long (lN (sgI n m (gM n m a x) y (shO n m x y a) k))), (5, .int (nI a)), (6, .int (nI k))] [] w (qI 1 K) := by
  have ok := hB.1
  have hv := ok.2.2
  intro j
  induction j with
  | zero =>
    intro k hk
    refine w_B_setHole_35 ?_
    rw [hB.2.2.2]
    refine pk_le (n * m) k (fun _ a1 e1 => ?_) (fun c => by omega)
    rw [i1, nI_add] at e1
    subst e1
    rw [shO] at hcont
    rw [show k = n * m by omega]
    exact hcont
  | succ j ih =>
    intro k hk
    refine w_B_setHole_35 ?_
    rw [hB.2.2.2]
    refine pk_le (n * m) k (fun c => by omega) (fun c => u_times hB (by omega) hx (u_times hB (by omega) hy (u_plus hB (gM_lt ok _ _) (gM_lt ok _ _) (fun b8 e8 a9 e9 => ?_))))
    rw [i1, nI_add] at e9
    subst e9
    rw [l_pow (by have := gA_lt ok (gM n m a x) (gM n m k y); omega), fb_orL] at e8
    subst e8
    exact ih (k + 1) (by omega)
theorem u_ho_l {n m x y : Nat} {w : Wd} {K : Int32 → Wd → Prop} (hB : Bg n m w) (hx : x < n * m) (hy : y < n * m) (h : K (nI (pop (hoS n m x y))) (upI (upL w 39 3 (lN (hoS n m x y))) 39 6 0)) :
    ∀ j a, a + j = n * m → E 1 M_B_setHole 23 [(0, .ref 39), (1, .int (nI x)), (2, .int (nI y)), (3, .long (lN (shO n m x y a))), (5, .int (nI a))] [] w (qI 1 K) := by
  have ok := hB.1
  have hv := ok.2.2
  have h40 := pow40 hv
  intro j
  induction j with
  | zero =>
    intro a ha
    refine w_B_setHole_23 ?_
    rw [hB.2.2.2, show a = n * m by omega, shO_ho ok]
    refine pk_le (n * m) (n * m) (fun _ w1 e1 w2 e2 => ?_) (fun c => by omega)
    have hlt := hoS_lt (x := x) (y := y) ok
    refine u_size (by omega) ?_
    rw [e2, e1]
    exact h
  | succ j ih =>
    intro a ha
    refine w_B_setHole_23 ?_
    rw [hB.2.2.2]
    refine pk_le (n * m) a (fun c => by omega) (fun c => ?_)
    exact u_ho_in hB hx hy (by omega) (ih (a + 1) (by omega)) (n * m) 0 (by omega)
