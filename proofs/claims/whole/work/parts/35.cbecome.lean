theorem Ga.on {n m p : Nat} {w w' : Wd} (h : Ga n m w) (ho : OnI p w w') (h1 : p ≠ 1) (h2 : p ≠ 2) (h3 : p ≠ 3) : Ga n m w' := by
  obtain ⟨ok, e0, e1, e2, e3⟩ := h
  refine ⟨ok, ?_, ?_, ?_, fun x hx => ?_⟩
  · rw [ho.1 1 (Ne.symm h1)]; exact e0
  · rw [ho.1 1 (Ne.symm h1)]; exact e1
  · rw [ho.1 1 (Ne.symm h1)]; exact e2
  · rw [ho.1 2 (Ne.symm h2), ho.1 3 (Ne.symm h3)]; exact e3 x hx
theorem gF_lt {n m : Nat} (h : GOK n m) (u z x : Nat) : gF n m u z x < n * m := gA_lt h _ _
theorem gF_0 {n m u z : Nat} (h : GOK n m) : gF n m u z 0 = 0 := by
  unfold gF
  rw [Nat.zero_div, Nat.zero_mod, gM_0, gM_0, gA_0 h h.v0]
theorem gF_s {n m u z x : Nat} (h : GOK n m) (hz : z < n * m) (hx : 0 < x % m) : gF n m u z x = gA n m (gF n m u z (x - 1)) z := by
  have e1 : x - 1 = m * (x / m) + (x % m - 1) := by have := Nat.div_add_mod x m; omega
  have hm := Nat.mod_lt x h.m0
  have d1 : (x - 1) / m = x / m := by rw [e1, pr_div (by omega)]
  have d2 : (x - 1) % m = x % m - 1 := by rw [e1, pr_mod (by omega)]
  unfold gF
  rw [d1, d2, gA_assoc h, ← gM_succ h hz, show x % m - 1 + 1 = x % m by omega]
theorem gF_t {n m u z x : Nat} (h : GOK n m) (hu : u < n * m) (hx : m ≤ x) (h0 : x % m = 0) : gF n m u z x = gA n m (gF n m u z (x - m)) u := by
  obtain ⟨y, rfl⟩ : ∃ y, x = y + m := ⟨x - m, by omega⟩
  rw [Nat.add_mod_right] at h0
  rw [Nat.add_sub_cancel]
  unfold gF
  rw [Nat.add_div_right y h.m0, Nat.add_mod_right, h0, gM_0, gA_0 h (gM_lt h _ _), gA_0 h (gM_lt h _ _), gM_succ h hu]
/-- fillMap: the row of a map -/
theorem t_fillMap_l {f n m p2 u z : Nat} {w0 : Wd} {K : Wd → Prop} (hk2 : kd p2 = .inl (0, 40)) (hp2 : p2 < Nf f) (hG : Ga n m w0) (hp : p2 ≠ 1 ∧ p2 ≠ 2 ∧ p2 ≠ 3) (hu : u < n * m) (hz : z < n * m) (h : ∀ w', OnI p2 w0 w' → (∀ x, x < n * m → w'.1 p2 x = nI (gF n m u z x)) → K w') :
    ∀ j k w, k + j = n * m → 1 ≤ k → OnI p2 w0 w → (∀ x, x < k → w.1 p2 x = nI (gF n m u z x)) → E f M_G_fillMap 7 [(0, .ref 1), (1, .int (nI u)), (2, .int (nI z)), (3, .ref p2), (4, .int (nI k))] [] w (qV f K) := by
  have ok := hG.1
  have hv := ok.2.2
  intro j
  induction j with
  | zero =>
    intro k w hk h1 ho hr
    have hw := hG.on ho hp.1 hp.2.1 hp.2.2
    refine w_G_fillMap_7 hk2 hp2 ?_
    rw [hw.2.2.2.1]
    refine pk_le (n * m) k (fun _ => ?_) (fun c => by omega)
    exact h w ho (fun x hx => hr x (by omega))
  | succ j ih =>
    intro k w hk h1 ho hr
    have hw := hG.on ho hp.1 hp.2.1 hp.2.2
    have hmv := ok.mv
    have hm0 := ok.m0
    refine w_G_fillMap_7 hk2 hp2 ?_
    rw [hw.2.2.2.1]
    refine pk_le (n * m) k (fun c => by omega) (fun c => ⟨vp_in_nI (by omega) (by decide), ?_⟩)
    rw [nI_clamp (by omega), (hw.2.2.2.2 k (by omega)).2, hw.2.2.1]
    have hnext : ∀ w3 a4, w3 = upI w p2 k (nI (gF n m u z k)) → a4 = nI k + 1 → E f M_G_fillMap 7 [(0, .ref 1), (1, .int (nI u)), (2, .int (nI z)), (3, .ref p2), (4, .int a4)] [] w3 (qV f K) := by
      intro w3 a4 e3 e4
      rw [i1, nI_add] at e4
      subst e4
      refine ih (k + 1) w3 (by omega) (by omega) (by rw [e3]; exact ho.up _ _) (fun x hx => ?_)
      rw [e3]
      rcases Nat.lt_or_ge x k with hxk | hxk
      · rw [upI_ne (by omega)]
        exact hr x hxk
      · have : x = k := by omega
        subst this
        rw [upI_eq]
    have hkm := Nat.mod_lt k hm0
    refine pk_le (k % m) 0 (fun c0 => ?_) (fun c0 => ?_)
    · have hmk : m ≤ k := Nat.le_of_dvd (by omega) (Nat.dvd_of_mod_eq_zero (by omega))
      rw [pk_sub hmk, nI_clamp (by omega), hr (k - m) (by omega)]
      refine ⟨vp_in_nI (by omega) (by decide), t_plus hw (gF_lt ok _ _ _) hu ⟨vp_in_nI (by omega) (by decide), fun w3 e3 a4 e4 => hnext w3 a4 ?_ e4⟩⟩
      rw [← gF_t ok hu hmk (by omega)] at e3
      exact e3
    · rw [i1, pk_sub h1, nI_clamp (by omega), hr (k - 1) (by omega)]
      refine ⟨vp_in_nI (by omega) (by decide), t_plus hw (gF_lt ok _ _ _) hz ⟨vp_in_nI (by omega) (by decide), fun w3 e3 a4 e4 => hnext w3 a4 ?_ e4⟩⟩
      rw [← gF_s ok hz c0] at e3
      exact e3
theorem t_fillMap {f n m p2 u z : Nat} {w0 : Wd} {K : Wd → Prop} (hk2 : kd p2 = .inl (0, 40)) (hp2 : p2 < Nf f) (hG : Ga n m w0) (hp : p2 ≠ 1 ∧ p2 ≠ 2 ∧ p2 ≠ 3) (hu : u < n * m) (hz : z < n * m) (h : ∀ w', OnI p2 w0 w' → (∀ x, x < n * m → w'.1 p2 x = nI (gF n m u z x)) → K w') : RunV f M_G_fillMap [.ref 1, .int (nI u), .int (nI z), .ref p2] w0 K := by
  have hv := hG.1.v0
  refine r_G_fillMap hk2 hp2 ⟨vp_in_nI (n := 0) (by decide) (by decide), fun w1 e1 => ?_⟩
  rw [sb_cl0] at e1
  refine t_fillMap_l hk2 hp2 hG hp hu hz h (n * m - 1) 1 w1 (by omega) (by omega) (by rw [e1]; exact (OnI.rf p2 w0).up _ _) (fun x hx => ?_)
  have : x = 0 := by omega
  subst this
  rw [e1, upI_eq, gF_0 hG.1]
  rfl
/-- the order of an element -/
def ordG (n m x : Nat) : Nat := fa_first (fun t => decide (gM n m (t + 1) x = 0)) (n * m) + 1
theorem ord_le {n m : Nat} (h : GOK n m) (x : Nat) : ordG n m x ≤ n * m := by
  have h1 := fa_first_le (fun t => decide (gM n m (t + 1) x = 0)) (n * m)
  rcases Nat.lt_or_ge (fa_first (fun t => decide (gM n m (t + 1) x = 0)) (n * m)) (n * m) with h2 | h2
  · exact h2
  · have h3 := fa_first_no (fun t => decide (gM n m (t + 1) x = 0)) (n * m) (n * m - 1) (by have := h.v0; omega)
    rw [show n * m - 1 + 1 = n * m by have := h.v0; omega, gM_v] at h3
    simp at h3
theorem ord_pos (n m x : Nat) : 1 ≤ ordG n m x := Nat.succ_le_succ (Nat.zero_le _)
theorem ord_no {n m x t : Nat} (h1 : 1 ≤ t) (h2 : t < ordG n m x) : gM n m t x ≠ 0 := by
  have h3 := fa_first_no (fun t => decide (gM n m (t + 1) x = 0)) (n * m) (t - 1) (by unfold ordG at h2; omega)
  rw [show t - 1 + 1 = t by omega] at h3
  simpa using h3
theorem ord_yes {n m : Nat} (h : GOK n m) (x : Nat) : gM n m (ordG n m x) x = 0 := by
  have h1 := ord_le h x
  have h3 := fa_first_yes (fun t => decide (gM n m (t + 1) x = 0)) (n * m) (by unfold ordG at h1; omega)
  exact of_decide_eq_true h3
theorem t_findOrder_l {f n m x : Nat} {w : Wd} {K : Int32 → Wd → Prop} (hG : Ga n m w) (hx : x < n * m) (h : K (nI (ordG n m x)) w) :
    ∀ j t, t + j = ordG n m x → 1 ≤ t → E f M_G_findOrder 4 [(0, .ref 1), (1, .int (nI x)), (2, .int (nI t)), (3, .int (nI (gM n m t x)))] [] w (qI f K) := by
  have ok := hG.1
  have hv := ok.2.2
  have hle := ord_le ok x
  intro j
  induction j with
  | zero =>
    intro t ht h1
    have e : t = ordG n m x := by omega
    refine w_G_findOrder_4 ?_
    rw [hG.2.2.2.1]
    refine pk_le (n * m) t (fun _ => by rw [e]; exact h) (fun c => ?_)
    have h0 : gM n m t x = 0 := by rw [e]; exact ord_yes ok x
    rw [h0]
    refine pk_eq 0 0 (fun _ => by rw [e]; exact h) (fun c => absurd rfl c)
  | succ j ih =>
    intro t ht h1
    refine w_G_findOrder_4 ?_
    rw [hG.2.2.2.1]
    refine pk_le (n * m) t (fun c => by omega) (fun c => ?_)
    have hlt := gM_lt ok t x
    refine pk_eq (gM n m t x) 0 (fun c0 => absurd c0 (ord_no h1 (by omega))) (fun c0 => ?_)
    refine t_plus hG hlt hx (fun a3 e3 => ?_)
    rw [i1, nI_add] at e3
    subst e3
    rw [← gM_succ ok hx]
    exact ih (t + 1) (by omega) (by omega)
theorem t_findOrder {f n m x : Nat} {w : Wd} {K : Int32 → Wd → Prop} (hG : Ga n m w) (hx : x < n * m) (h : K (nI (ordG n m x)) w) : RunI f M_G_findOrder [.ref 1, .int (nI x)] w K := by
  have h2 := t_findOrder_l hG hx h (f := f) (ordG n m x - 1) 1 (by have := ord_pos n m x; omega) (Nat.le_refl 1)
  rw [gM_1 hG.1 hx] at h2
  exact r_G_findOrder h2

/-- a map of 0 .. v - 1 onto itself takes no value twice -/
theorem on_inj {v : Nat} {φ : Nat → Nat} (hlt : ∀ i, i < v → φ i < v) (hon : ∀ y, y < v → ∃ x, x < v ∧ φ x = y) {a b : Nat} (ha : a < v) (hb : b < v) (hab : a ≠ b) : φ a ≠ φ b := by
  intro e
  have hinv : ∃ g : Nat → Nat, ∀ y, y < v → g y < v ∧ φ (g y) = y ∧ g y ≠ b := by
    refine ⟨fun y => if h : y < v then (if (Classical.choose (hon y h)) = b then a else Classical.choose (hon y h)) else 0, fun y hy => ?_⟩
    have hs := Classical.choose_spec (hon y hy)
    simp only [dif_pos hy]
    split
    next hc =>
      rw [hc] at hs
      exact ⟨ha, e.trans hs.2, hab⟩
    next hc => exact ⟨hs.1, hs.2, hc⟩
  obtain ⟨g, hg⟩ := hinv
  have hgi : ∀ i j, i < j → j < v → g i ≠ g j := by
    intro i j hij hj hc
    have h1 := (hg i (by omega)).2.1
    have h2 := (hg j hj).2.1
    rw [hc, h2] at h1
    omega
  obtain ⟨i, hi, hgb⟩ := fb_onto (f := g) (fun i hi => (hg i hi).1) hgi hb
  exact (hg i hi).2.2 hgb
/-- which pairs are automorphisms, and their list -/
def isAut (n m u z : Nat) : Bool := decide (gM n m n u = 0) && (decide (gM n m m z = 0) && decide (imS (gF n m u z) (2 ^ (n * m) - 1) (n * m) = 2 ^ (n * m) - 1))
def auI (n m z : Nat) : Nat → List (Nat × Nat)
  | 0 => []
  | u + 1 => auI n m z u ++ (if isAut n m u z then [(u, z)] else [])
def auO (n m : Nat) : Nat → List (Nat × Nat)
  | 0 => []
  | z + 1 => auO n m z ++ auI n m z (n * m)
def autL (n m : Nat) : List (Nat × Nat) := auO n m (n * m)
theorem full_bit (v x : Nat) : (2 ^ v - 1).testBit x = decide (x < v) := Nat.testBit_two_pow_sub_one v x
theorem aut_onto {n m u z : Nat} (h : isAut n m u z = true) {y : Nat} (hy : y < n * m) : ∃ x, x < n * m ∧ gF n m u z x = y := by
  simp only [isAut, Bool.and_eq_true, decide_eq_true_eq] at h
  have h1 : (imS (gF n m u z) (2 ^ (n * m) - 1) (n * m)).testBit y = true := by
    rw [h.2.2, full_bit]
    exact decide_eq_true hy
  obtain ⟨x, hx, -, hxy⟩ := (imS_bit _ _ _ _).mp h1
  exact ⟨x, hx, hxy⟩
theorem aut_inj {n m u z : Nat} (ok : GOK n m) (h : isAut n m u z = true) {x y : Nat} (hx : x < n * m) (hy : y < n * m) (e : gF n m u z x = gF n m u z y) : x = y := by
  rcases Nat.lt_trichotomy x y with hlt | heq | hlt
  · exact absurd e (on_inj (fun i _ => gF_lt ok u z i) (fun y hy => aut_onto h hy) hx hy (Nat.ne_of_lt hlt))
  · exact heq
  · exact absurd e (on_inj (fun i _ => gF_lt ok u z i) (fun y hy => aut_onto h hy) hx hy (Nat.ne_of_gt hlt))
