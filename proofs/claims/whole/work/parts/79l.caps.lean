theorem ct_at {S v x : Nat} (hx : x < v) (hb : S.testBit x = true) : fb_ct (fun i => S.testBit i) x < fb_ct (fun i => S.testBit i) v := by
  have h1 := fb_ct_succ (fun i => S.testBit i) x
  rw [hb, if_pos rfl] at h1
  have h2 := fb_ct_mono (fun i => S.testBit i) (show x + 1 ≤ v by omega)
  omega
/-- a set that is its own normal form leaves the last rows free -/
theorem pb_lt {n m S k : Nat} (ok : GOK n m) (hS : S < 2 ^ (n * m)) (hk : pop S = k) (hk0 : 0 < k) (hn : nfS n m S = S) : S < 2 ^ (m * (n - (n - 1) / k)) := by
  have hn2 := ok.1
  have hm0 := ok.m0
  generalize hf : (n - 1) / k = f
  have hkf : k * f ≤ n - 1 := by rw [← hf]; exact Nat.mul_div_le _ _
  by_cases f0 : f = 0
  · rw [f0, Nat.sub_zero, Nat.mul_comm]
    exact hS
  have hfn : f ≤ n - 1 := by
    have : 1 * f ≤ k * f := Nat.mul_le_mul_right f hk0
    omega
  have good : ∃ a, a < n ∧ ∀ x, S.testBit x = true → (x / m + a) % n < n - f := by
    refine Classical.byContradiction (fun hno => ?_)
    have hbad : ∀ a, a < n → ∃ x, S.testBit x = true ∧ n - f ≤ (x / m + a) % n := fun a ha => by
      refine Classical.byContradiction (fun h1 => hno ⟨a, ha, fun x hx => ?_⟩)
      refine Decidable.byContradiction (fun h2 => h1 ⟨x, hx, by omega⟩)
    obtain ⟨X, hX⟩ := ch_fn hbad
    have hr : ∀ a, a < n → fb_ct (fun i => S.testBit i) (X a) < k := fun a ha => by
      have := ct_at (bit_lt hS (hX a ha).1) (hX a ha).1
      rw [← pop_v hS ok.2.2, hk] at this
      exact this
    have hoff : ∀ a, a < n → (X a / m + a) % n - (n - f) < f := fun a ha => by
      have := Nat.mod_lt (X a / m + a) (show 0 < n by omega)
      have := (hX a ha).2
      omega
    have := fb_holes (k * f) n (fun a => f * fb_ct (fun i => S.testBit i) (X a) + ((X a / m + a) % n - (n - f))) (fun a ha => ?_) (fun a b hab hb e => ?_)
    · omega
    · exact pr_lt (hr a ha) (hoff a ha)
    · have e' : f * fb_ct (fun i => S.testBit i) (X a) + ((X a / m + a) % n - (n - f)) = f * fb_ct (fun i => S.testBit i) (X b) + ((X b / m + b) % n - (n - f)) := e
      have e1 : (f * fb_ct (fun i => S.testBit i) (X a) + ((X a / m + a) % n - (n - f))) / f = (f * fb_ct (fun i => S.testBit i) (X b) + ((X b / m + b) % n - (n - f))) / f := by rw [e']
      have e2 : (f * fb_ct (fun i => S.testBit i) (X a) + ((X a / m + a) % n - (n - f))) % f = (f * fb_ct (fun i => S.testBit i) (X b) + ((X b / m + b) % n - (n - f))) % f := by rw [e']
      rw [pr_div (hoff a (by omega)), pr_div (hoff b hb)] at e1
      rw [pr_mod (hoff a (by omega)), pr_mod (hoff b hb)] at e2
      have e3 : X a = X b := fb_ct_kth_one (p := fun i => S.testBit i) (hX a (by omega)).1 (hX b hb).1 e1
      have h3 := (hX a (by omega)).2
      have h4 := (hX b hb).2
      have e4 : (X b / m + b) % n = (X b / m + a) % n := by
        rw [e3] at e2 h3
        omega
      have e5 := Nat.sub_mod_eq_zero_of_mod_eq e4
      rw [Nat.add_sub_add_left, Nat.mod_eq_of_lt (by omega)] at e5
      omega
  obtain ⟨a, ha, hg⟩ := good
  have hma : m * a < n * m := by
    rw [Nat.mul_comm n m]
    exact Nat.mul_lt_mul_of_pos_left ha hm0
  have h1 := nfS_le (S := S) hma
  rw [hn] at h1
  refine Nat.lt_of_le_of_lt h1 (lt_of_bits (fun y hy => ?_))
  obtain ⟨x, hx, hbx, e⟩ := trS_bit.mp hy
  have h2 := hg x hbx
  rw [← e]
  have h3 : gA n m x (m * a) / m = (x / m + a) % n := by
    rw [gA_div ok, Nat.mul_div_cancel_left a hm0]
  rw [← h3] at h2
  have h4 := Nat.div_add_mod (gA n m x (m * a)) m
  have h5 := Nat.mod_lt (gA n m x (m * a)) hm0
  have h6 : m * (gA n m x (m * a) / m + 1) ≤ m * (n - f) := Nat.mul_le_mul_left m h2
  rw [Nat.mul_add, Nat.mul_one] at h6
  omega
/-- at most four elements -/
theorem bn4 : ∀ u < 25, ∀ q < 4, bn u q ≤ 2130 := by decide +kernel
theorem pop_bit {S v : Nat} (hS : S < 2 ^ v) (hv : v ≤ 40) (h : 0 < pop S) : ∃ x, x < v ∧ S.testBit x = true := by
  rw [pop_v hS hv] at h
  exact fb_ct_pos.mp h
theorem half_pop {T u : Nat} (hT : T < 2 ^ (u + 1)) (hu : u < 40) (h0 : T.testBit 0 = true) : pop T = pop (T / 2) + 1 ∧ T / 2 < 2 ^ u ∧ T = 2 * (T / 2) + 1 := by
  have h2 : T / 2 < 2 ^ u := by
    rw [Nat.pow_succ] at hT
    omega
  refine ⟨?_, h2, ?_⟩
  · have e := fb_ct_split (fun i => T.testBit i) 1 u
    have e1 : fb_ct (fun i => T.testBit i) 1 = 1 := fb_ct_all.mpr (fun k hk => by rw [show k = 0 by omega]; exact h0)
    have e2 : fb_ct (fun k => T.testBit (1 + k)) u = fb_ct (fun i => (T / 2).testBit i) u := fb_ct_cong (fun k _ => by rw [Nat.add_comm, Nat.testBit_succ])
    rw [pop_v hT (by omega), pop_v h2 (by omega), show u + 1 = 1 + u by omega, e, e1, e2]
    omega
  · rw [Nat.testBit_zero, decide_eq_true_eq] at h0
    omega
theorem cap4 {n m k c : Nat} {f : Nat → Nat} (ok : GOK n m) (hv : n * m ≤ 25) (hk : 2 ≤ k) (hk4 : k ≤ 4) (hf : ∀ i, i < c → f i < 2 ^ (n * m) ∧ pop (f i) = k ∧ nfS n m (f i) = f i) (inj : ∀ i j, i < j → j < c → f i ≠ f j) : c ≤ 2130 := by
  have hv2 : 2 ≤ n * m := Nat.le_trans ok.1 ok.nv
  obtain ⟨X, hX⟩ := ch_fn (P := fun i x => x < n * m ∧ (f i).testBit x = true) (n := c) (fun i hi => pop_bit (hf i hi).1 (by omega) (by rw [(hf i hi).2.1]; omega))
  have hT : ∀ i, i < c → (trS n m (f i) (gN n m (X i))).testBit 0 = true := fun i hi => trS_bit.mpr ⟨X i, (hX i hi).1, (hX i hi).2, gA_N ok (hX i hi).1⟩
  have hp : ∀ i, i < c → pop (trS n m (f i) (gN n m (X i))) = k := fun i hi => by rw [pop_tr ok (gN_lt ok _) (hf i hi).1]; exact (hf i hi).2.1
  have hn : ∀ i, i < c → nfS n m (trS n m (f i) (gN n m (X i))) = f i := fun i hi => by rw [nfS_tr ok (hf i hi).1 (gN_lt ok _)]; exact (hf i hi).2.2
  have hh : ∀ i, i < c → pop (trS n m (f i) (gN n m (X i)) / 2) = k - 1 ∧ trS n m (f i) (gN n m (X i)) / 2 < 2 ^ (n * m - 1) ∧ trS n m (f i) (gN n m (X i)) = 2 * (trS n m (f i) (gN n m (X i)) / 2) + 1 := fun i hi => by
    have h1 := trS_lt ok (f i) (gN n m (X i))
    rw [show n * m = n * m - 1 + 1 by omega] at h1
    have h2 := half_pop h1 (by omega) (hT i hi)
    rw [hp i hi] at h2
    exact ⟨by omega, h2.2⟩
  have := fb_holes (bn (n * m - 1) (k - 1)) c (fun i => rk (k - 1) (trS n m (f i) (gN n m (X i)) / 2)) (fun i hi => rk_lt (by omega) (hh i hi).2.1 (hh i hi).1) (fun i j hij hj e => ?_)
  · exact Nat.le_trans this (bn4 _ (by omega) _ (by omega))
  · have e1 := rk_inj (hh i (by omega)).1 (hh j hj).1 e
    have e2 : trS n m (f i) (gN n m (X i)) = trS n m (f j) (gN n m (X j)) := by
      rw [(hh i (by omega)).2.2, (hh j hj).2.2, e1]
    refine inj i j hij hj ?_
    rw [← hn i (by omega), ← hn j hj, e2]
/-- five elements -/
theorem tr_free {n m S g1 g2 : Nat} (ok : GOK n m) (hS : S < 2 ^ (n * m)) (h1 : g1 < n * m) (h2 : g2 < n * m) (hno : ∀ g, g < n * m → g ≠ 0 → trS n m S g ≠ S) (e : trS n m S g1 = trS n m S g2) : g1 = g2 := by
  have e1 : trS n m S (gA n m g1 (gN n m g2)) = S := by
    rw [← trS_tr ok, e, trS_tr ok, gA_N ok h2, trS_0 ok hS]
  have e2 : gA n m g1 (gN n m g2) = 0 := Decidable.byContradiction (fun c => hno _ (gA_lt ok _ _) c e1)
  exact gA_can ok h1 h2 (gN_lt ok g2) (by rw [e2, gA_N ok h2])
theorem capT {n m c e : Nat} {f y : Nat → Nat} (ok : GOK n m) (hf : ∀ i, i < c → f i < 2 ^ (n * m) ∧ pop (f i) = 5 ∧ nfS n m (f i) = f i) (inj : ∀ i j, i < j → j < c → f i ≠ f j) (tv : Nat → Bool) (htv : ∀ i, i < c → tv i = true → ∀ g, g < n * m → g ≠ 0 → trS n m (f i) g ≠ f i) (hy : ∀ j, j < e → y j < 2 ^ (n * m) ∧ pop (y j) = 5 ∧ ∃ g, g < n * m ∧ g ≠ 0 ∧ trS n m (y j) g = y j) (yinj : ∀ i j, i < j → j < e → y i ≠ y j) : fb_ct tv c * (n * m) + e ≤ bn (n * m) 5 := by
  have hv := ok.2.2
  have v0 := ok.v0
  obtain ⟨I, hI⟩ := ch_fn (P := fun a i => i < c ∧ tv i = true ∧ fb_ct tv i = a) (n := fb_ct tv c) (fun a ha => fb_ct_kth ha)
  have hd : ∀ t, t < fb_ct tv c * (n * m) → t / (n * m) < fb_ct tv c := fun t ht => Nat.div_lt_of_lt_mul (by rw [Nat.mul_comm]; exact ht)
  have hmd : ∀ t, t % (n * m) < n * m := fun t => Nat.mod_lt t v0
  have inj2 : ∀ i j, i < c → j < c → f i = f j → i = j := fun i j hi hj e => by
    rcases Nat.lt_trichotomy i j with h | h | h
    · exact absurd e (inj i j h hj)
    · exact h
    · exact absurd e.symm (inj j i h hi)
  refine fb_holes (bn (n * m) 5) (fb_ct tv c * (n * m) + e) (fun t => rk 5 (if t < fb_ct tv c * (n * m) then trS n m (f (I (t / (n * m)))) (t % (n * m)) else y (t - fb_ct tv c * (n * m)))) (fun t ht => ?_) (fun s t hst ht e1 => ?_)
  · show rk 5 (if _ then _ else _) < _
    by_cases h : t < fb_ct tv c * (n * m)
    · rw [if_pos h]
      have h1 := hI _ (hd t h)
      exact rk_lt hv (trS_lt ok _ _) (by rw [pop_tr ok (hmd t) (hf _ h1.1).1]; exact (hf _ h1.1).2.1)
    · rw [if_neg h]
      have h1 := hy (t - fb_ct tv c * (n * m)) (by omega)
      exact rk_lt hv h1.1 h1.2.1
  · have e2 : rk 5 (if s < fb_ct tv c * (n * m) then trS n m (f (I (s / (n * m)))) (s % (n * m)) else y (s - fb_ct tv c * (n * m))) = rk 5 (if t < fb_ct tv c * (n * m) then trS n m (f (I (t / (n * m)))) (t % (n * m)) else y (t - fb_ct tv c * (n * m))) := e1
    by_cases hs : s < fb_ct tv c * (n * m)
    · rw [if_pos hs] at e2
      have s1 := hI _ (hd s hs)
      have ps : pop (trS n m (f (I (s / (n * m)))) (s % (n * m))) = 5 := by rw [pop_tr ok (hmd s) (hf _ s1.1).1]; exact (hf _ s1.1).2.1
      by_cases h : t < fb_ct tv c * (n * m)
      · rw [if_pos h] at e2
        have t1 := hI _ (hd t h)
        have e3 := rk_inj ps (by rw [pop_tr ok (hmd t) (hf _ t1.1).1]; exact (hf _ t1.1).2.1) e2
        have e4 : f (I (s / (n * m))) = f (I (t / (n * m))) := by
          have a1 := nfS_tr ok (hf _ s1.1).1 (hmd s)
          have a2 := nfS_tr ok (hf _ t1.1).1 (hmd t)
          rw [e3, a2, (hf _ s1.1).2.2, (hf _ t1.1).2.2] at a1
          exact a1.symm
        have e5 := inj2 _ _ s1.1 t1.1 e4
        have e6 : s / (n * m) = t / (n * m) := by
          rw [← s1.2.2, ← t1.2.2, e5]
        rw [e6] at e3 s1
        have e7 := tr_free ok (hf _ t1.1).1 (hmd s) (hmd t) (htv _ t1.1 t1.2.1) e3
        have h8 := Nat.div_add_mod s (n * m)
        have h9 := Nat.div_add_mod t (n * m)
        rw [e6, e7] at h8
        omega
      · rw [if_neg h] at e2
        have h1 := hy (t - fb_ct tv c * (n * m)) (by omega)
        have e3 := rk_inj ps h1.2.1 e2
        obtain ⟨g, hg, g0, e4⟩ := h1.2.2
        rw [← e3, trS_tr ok] at e4
        have e5 := tr_free ok (hf _ s1.1).1 (gA_lt ok _ _) (hmd s) (htv _ s1.1 s1.2.1) e4
        rw [gA_comm] at e5
        exact g0 (gA_can ok hg v0 (hmd s) (by rw [e5, gA_0l ok (hmd s)]))
    · rw [if_neg hs, if_neg (by omega)] at e2
      have h1 := hy (s - fb_ct tv c * (n * m)) (by omega)
      have h2 := hy (t - fb_ct tv c * (n * m)) (by omega)
      exact yinj _ _ (by omega) (by omega) (rk_inj h1.2.1 h2.2.1 e2)
/-- the multiples of an element -/
def H5 (n m g : Nat) : Nat := imS (fun t => gM n m t g) 31 5
theorem h5_ne {n m g : Nat} (ok : GOK n m) (hg : g < n * m) (g0 : g ≠ 0) (h5 : gM n m 5 g = 0) : ∀ s t, s < t → t < 5 → gM n m s g ≠ gM n m t g := by
  intro s t hst ht e
  have e1 : gM n m t g = gA n m (gM n m s g) (gM n m (t - s) g) := by
    rw [← gM_add ok]
    congr 1
    omega
  have e2 : gM n m (t - s) g = 0 := by
    refine gA_can (z := gM n m s g) ok (gM_lt ok _ _) ok.v0 (gM_lt ok _ _) ?_
    rw [gA_comm, ← e1, ← e, gA_0l ok (gM_lt ok _ _)]
  have key : ∀ a b, a * (t - s) = b * 5 + 1 → False := fun a b hab => by
    have h1 : gM n m (a * (t - s)) g = 0 := by rw [gM_mul ok, e2, gM_z]
    have h2 : gM n m (b * 5 + 1) g = g := by rw [gM_add ok, gM_mul ok, h5, gM_z, gM_1 ok hg, gA_0l ok hg]
    rw [hab, h2] at h1
    exact g0 h1
  have : t - s = 1 ∨ t - s = 2 ∨ t - s = 3 ∨ t - s = 4 := by omega
  rcases this with h | h | h | h
  · exact key 1 0 (by omega)
  · exact key 3 1 (by omega)
  · exact key 2 1 (by omega)
  · exact key 4 3 (by omega)
theorem h5_is {n m S g : Nat} (ok : GOK n m) (hS : S < 2 ^ (n * m)) (hp : pop S = 5) (hn : nfS n m S = S) (hg : g < n * m) (g0 : g ≠ 0) (e : trS n m S g = S) : gM n m 5 g = 0 ∧ nfS n m (H5 n m g) = S := by
  have h5 : gM n m 5 g = 0 := by
    have := stab_k ok hg hS e
    rw [hp] at this
    exact this
  refine ⟨h5, ?_⟩
  obtain ⟨x, hx, hb⟩ := pop_bit hS ok.2.2 (by omega)
  have hT := trS_lt ok S (gN n m x)
  have hT0 : (trS n m S (gN n m x)).testBit 0 = true := trS_bit.mpr ⟨x, hx, hb, gA_N ok hx⟩
  have hTg : trS n m (trS n m S (gN n m x)) g = trS n m S (gN n m x) := by
    rw [trS_tr ok, gA_comm, ← trS_tr ok, e]
  have hpT : pop (trS n m S (gN n m x)) = 5 := by rw [pop_tr ok (gN_lt ok x) hS]; exact hp
  have hnT : nfS n m (trS n m S (gN n m x)) = S := by rw [nfS_tr ok hS (gN_lt ok x)]; exact hn
  generalize trS n m S (gN n m x) = T at hT hT0 hTg hpT hnT
  have hmul : ∀ t, T.testBit (gM n m t g) = true := by
    intro t
    induction t with
    | zero => rw [gM_0]; exact hT0
    | succ t ih =>
      have h1 := tr_at ok (gM_lt ok t g) hg hT
      rw [hTg] at h1
      rw [gM_succ ok hg, h1]
      exact ih
  have hH : H5 n m g = T := by
    apply bits_ext
    intro y
    unfold H5
    rw [imS_bit]
    constructor
    · rintro ⟨t, -, -, rfl⟩
      exact hmul t
    · intro hy
      refine Classical.byContradiction (fun hno => ?_)
      have hno2 : ∀ t, t < 5 → gM n m t g ≠ y := fun t ht c => hno ⟨t, ht, by
        have : t = 0 ∨ t = 1 ∨ t = 2 ∨ t = 3 ∨ t = 4 := by omega
        rcases this with rfl | rfl | rfl | rfl | rfl <;> decide, c⟩
      have hin : ∀ t, T.testBit (if t < 5 then gM n m t g else y) = true := fun t => by
        split
        · exact hmul t
        · exact hy
      have := fb_holes 5 6 (fun t => fb_ct (fun i => T.testBit i) (if t < 5 then gM n m t g else y)) (fun t _ => by
        have h1 := ct_at (bit_lt hT (hin t)) (hin t)
        rw [← pop_v hT ok.2.2, hpT] at h1
        exact h1) (fun s t hst ht e1 => by
        have e2 : (if s < 5 then gM n m s g else y) = (if t < 5 then gM n m t g else y) := fb_ct_kth_one (p := fun i => T.testBit i) (hin s) (hin t) e1
        rw [if_pos (by omega)] at e2
        by_cases h : t < 5
        · rw [if_pos h] at e2
          exact h5_ne ok hg g0 h5 s t hst h e2
        · rw [if_neg h] at e2
          exact hno2 s (by omega) e2)
      omega
  rw [hH]
  exact hnT
theorem capN {n m c z : Nat} {f V : Nat → Nat} (ok : GOK n m) (hf : ∀ i, i < c → f i < 2 ^ (n * m) ∧ pop (f i) = 5 ∧ nfS n m (f i) = f i) (inj : ∀ i j, i < j → j < c → f i ≠ f j) (tv : Nat → Bool) (htv : ∀ i, i < c → tv i = false → ∃ g, g < n * m ∧ g ≠ 0 ∧ trS n m (f i) g = f i) (hV : ∀ g, g < n * m → g ≠ 0 → gM n m 5 g = 0 → ∃ q, q < z ∧ nfS n m (H5 n m g) = V q) : fb_ct (fun i => !tv i) c ≤ z := by
  obtain ⟨I, hI⟩ := ch_fn (P := fun a i => i < c ∧ (!tv i) = true ∧ fb_ct (fun i => !tv i) i = a) (n := fb_ct (fun i => !tv i) c) (fun a ha => fb_ct_kth ha)
  obtain ⟨Q, hQ⟩ := ch_fn (P := fun a q => q < z ∧ f (I a) = V q) (n := fb_ct (fun i => !tv i) c) (fun a ha => by
    have h1 := hI a ha
    have h2 : tv (I a) = false := by
      have := h1.2.1
      cases h : tv (I a)
      · rfl
      · rw [h] at this
        cases this
    obtain ⟨g, hg, g0, e⟩ := htv _ h1.1 h2
    have h3 := h5_is ok (hf _ h1.1).1 (hf _ h1.1).2.1 (hf _ h1.1).2.2 hg g0 e
    obtain ⟨q, hq, e2⟩ := hV g hg g0 h3.1
    exact ⟨q, hq, by rw [← h3.2, e2]⟩)
  refine fb_holes z (fb_ct (fun i => !tv i) c) Q (fun a ha => (hQ a ha).1) (fun a b hab hb e => ?_)
  have h1 := hQ a (by omega)
  have h2 := hQ b hb
  have h3 := hI a (by omega)
  have h4 := hI b hb
  have e2 : f (I a) = f (I b) := by rw [h1.2, h2.2, e]
  have e3 : I a = I b := by
    rcases Nat.lt_trichotomy (I a) (I b) with h | h | h
    · exact absurd e2 (inj _ _ h h4.1)
    · exact h
    · exact absurd e2.symm (inj _ _ h h3.1)
  rw [e3] at h3
  have := h3.2.2.symm.trans h4.2.2
  omega
/-- the group of five by five -/
def n55 : List Nat := [31, 1082401, 1118480, 1196104, 1313284, 1581186]
def y55 : List Nat := [31, 992, 31744, 1015808, 1082401, 1118480, 1196104, 1313284, 1581186, 2146564, 2164802, 2236929, 2360464, 2625576, 4235344, 4261384, 4329604, 4472866, 4720897, 8425986, 8470657, 8521776, 8659208, 8913988, 16812168, 16850980, 16909570, 17043521, 17318416, 32505856]
theorem k55a : ∀ g < 25, g ≠ 0 → nfS 5 5 (H5 5 5 g) = n55.getD ((n55.findIdx? (fun q => q == nfS 5 5 (H5 5 5 g))).getD 6) 0 ∧ (n55.findIdx? (fun q => q == nfS 5 5 (H5 5 5 g))).getD 6 < 6 := by decide +kernel
theorem k55b : ∀ j < 30, y55.getD j 0 < 2 ^ 25 ∧ pop (y55.getD j 0) = 5 ∧ (trS 5 5 (y55.getD j 0) 1 = y55.getD j 0 ∨ trS 5 5 (y55.getD j 0) 5 = y55.getD j 0 ∨ trS 5 5 (y55.getD j 0) 6 = y55.getD j 0 ∨ trS 5 5 (y55.getD j 0) 7 = y55.getD j 0 ∨ trS 5 5 (y55.getD j 0) 8 = y55.getD j 0 ∨ trS 5 5 (y55.getD j 0) 9 = y55.getD j 0) := by decide +kernel
theorem k55c : ∀ j < 30, ∀ i < j, y55.getD i 0 ≠ y55.getD j 0 := by decide +kernel
theorem k251 : ∀ g < 25, gM 25 1 5 g = 0 → g = 5 * (g / 5) := by decide +kernel
theorem bn5a : ∀ v < 25, bn v 5 ≤ 2000 * v := by decide +kernel
theorem bn5b : bn 25 5 = 53130 := by decide +kernel
theorem cap {n m k c : Nat} {f : Nat → Nat} (ok : GOK n m) (hv : n * m ≤ 25) (hk : 2 ≤ k) (hk5 : k ≤ 5) (hf : ∀ i, i < c → f i < 2 ^ (n * m) ∧ pop (f i) = k ∧ nfS n m (f i) = f i) (inj : ∀ i j, i < j → j < c → f i ≠ f j) : c ≤ 2130 := by
  by_cases k5 : k ≤ 4
  · exact cap4 ok hv hk k5 hf inj
  have e5 : k = 5 := by omega
  subst e5
  have v0 := ok.v0
  have n2 := ok.1
  have m0 := ok.m0
  obtain ⟨tv, htv⟩ : ∃ tv : Nat → Bool, ∀ i, tv i = true ↔ ∀ g, g < n * m → g ≠ 0 → trS n m (f i) g ≠ f i := ⟨fun i => decide (∀ g, g < n * m → g ≠ 0 → trS n m (f i) g ≠ f i), fun i => decide_eq_true_iff⟩
  have hT1 : ∀ i, i < c → tv i = true → ∀ g, g < n * m → g ≠ 0 → trS n m (f i) g ≠ f i := fun i _ h => (htv i).mp h
  have hT2 : ∀ i, i < c → tv i = false → ∃ g, g < n * m ∧ g ≠ 0 ∧ trS n m (f i) g = f i := fun i _ h => by
    refine Classical.byContradiction (fun hno => ?_)
    have := (htv i).mpr (fun g h1 h2 h3 => hno ⟨g, h1, h2, h3⟩)
    rw [h] at this
    cases this
  have hs := fb_ct_not tv c
  by_cases h25 : n * m < 25
  · have h1 := capT (e := 0) (y := fun _ => 0) ok hf inj tv hT1 (fun j hj => absurd hj (Nat.not_lt_zero j)) (fun i j _ hj => absurd hj (Nat.not_lt_zero j))
    have h2 := capN (z := n * m) (V := fun q => nfS n m (H5 n m q)) ok hf inj tv hT2 (fun g hg _ _ => ⟨g, hg, rfl⟩)
    have h3 : fb_ct tv c ≤ 2000 := Nat.le_of_mul_le_mul_right (Nat.le_trans (by omega) (bn5a _ h25)) v0
    omega
  · have h25' : n * m = 25 := by omega
    have hnm : (n = 25 ∧ m = 1) ∨ (n = 5 ∧ m = 5) := by
      have key : ∀ m < 26, ∀ n < 26, (n * m = 25 ∧ n ≠ 1) → ((n = 25 ∧ m = 1) ∨ (n = 5 ∧ m = 5)) := by decide +kernel
      have hmn := ok.mv
      have hnn := ok.nv
      exact key m (by omega) n (by omega) ⟨h25', by omega⟩
    rcases hnm with ⟨rfl, rfl⟩ | ⟨rfl, rfl⟩
    · have h1 := capT (e := 0) (y := fun _ => 0) ok hf inj tv hT1 (fun j hj => absurd hj (Nat.not_lt_zero j)) (fun i j _ hj => absurd hj (Nat.not_lt_zero j))
      have h2 := capN (z := 5) (V := fun q => nfS 25 1 (H5 25 1 (5 * q))) ok hf inj tv hT2 (fun g hg _ h => ⟨g / 5, by omega, by rw [← k251 g (by omega) h]⟩)
      rw [show (25 * 1 : Nat) = 25 from rfl, bn5b] at h1
      omega
    · have h1 := capT (e := 30) (y := fun j => y55.getD j 0) ok hf inj tv hT1 (fun j hj => by
        have h := k55b j hj
        refine ⟨h.1, h.2.1, ?_⟩
        rcases h.2.2 with h | h | h | h | h | h
        · exact ⟨1, by decide, by decide, h⟩
        · exact ⟨5, by decide, by decide, h⟩
        · exact ⟨6, by decide, by decide, h⟩
        · exact ⟨7, by decide, by decide, h⟩
        · exact ⟨8, by decide, by decide, h⟩
        · exact ⟨9, by decide, by decide, h⟩) (fun i j hij hj => k55c j hj i hij)
      have h2 := capN (z := 6) (V := fun q => n55.getD q 0) ok hf inj tv hT2 (fun g hg g0 _ => ⟨_, (k55a g hg g0).2, (k55a g hg g0).1⟩)
      rw [show (5 * 5 : Nat) = 25 from rfl, bn5b] at h1
      omega
theorem bn53 : ∀ v < 26, ∀ k < 6, bn v k ≤ 53130 := by decide +kernel
