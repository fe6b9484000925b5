/-- sums over a permutation -/
theorem sm_perm {f : Nat → Nat} : ∀ (v : Nat) (π : Nat → Nat), (∀ x, x < v → π x < v) → (∀ i j, i < j → j < v → π i ≠ π j) → fb_sm (fun x => f (π x)) v = fb_sm f v
  | 0, _, _, _ => rfl
  | v + 1, π, h1, h2 => by
    rw [fb_sm_succ, fb_sm_succ]
    by_cases e : π v = v
    · rw [e, sm_perm v π (fun x hx => ?_) (fun i j hi hj => h2 i j hi (by omega))]
      have h3 := h1 x (by omega)
      have h4 := h2 x v hx (by omega)
      omega
    · obtain ⟨x0, hx0, e0⟩ := fb_onto h1 h2 (Nat.lt_succ_self v)
      have hne : x0 ≠ v := fun c => e (by rw [c] at e0; exact e0)
      have hv := h1 v (by omega)
      have ih := sm_perm (f := f) v (fun x => if x = x0 then π v else π x) (fun x hx => ?_) (fun i j hi hj => ?_)
      · have up := fb_sm_upd (fun x => f (π x)) (f (π v)) (i := x0) (n := v) (by omega)
        have e1 : fb_sm (fun x => f (if x = x0 then π v else π x)) v = fb_sm (fun k => if k = x0 then f (π v) else f (π k)) v := fb_sm_cong (fun k _ => by
          by_cases c : k = x0
          · rw [if_pos c, if_pos c]
          · rw [if_neg c, if_neg c])
        rw [e0] at up
        rw [e1] at ih
        omega
      · show (if x = x0 then π v else π x) < v
        by_cases c : x = x0
        · rw [if_pos c]
          omega
        · rw [if_neg c]
          have h3 := h1 x (by omega)
          have h4 : π x ≠ v := by
            rw [← e0]
            rcases Nat.lt_or_gt_of_ne c with h5 | h5
            · exact h2 x x0 h5 hx0
            · exact fun c2 => h2 x0 x h5 (by omega) c2.symm
          omega
      · show (if i = x0 then π v else π i) ≠ (if j = x0 then π v else π j)
        by_cases c : i = x0
        · rw [if_pos c, if_neg (by omega)]
          exact fun c2 => h2 j v hj (by omega) c2.symm
        · rw [if_neg c]
          by_cases c2 : j = x0
          · rw [if_pos c2]
            exact h2 i v (by omega) (by omega)
          · rw [if_neg c2]
            exact h2 i j hi (by omega)
theorem ct_sm (p : Nat → Bool) : ∀ n, fb_ct p n = fb_sm (fun x => if p x then 1 else 0) n
  | 0 => rfl
  | n + 1 => by rw [fb_ct_succ, fb_sm_succ, ct_sm p n]
theorem ct_perm {p : Nat → Bool} {v : Nat} {π : Nat → Nat} (h1 : ∀ x, x < v → π x < v) (h2 : ∀ i j, i < j → j < v → π i ≠ π j) : fb_ct (fun x => p (π x)) v = fb_ct p v := by
  rw [ct_sm, ct_sm]
  exact sm_perm (f := fun x => if p x then 1 else 0) v π h1 h2
theorem gA_inj {n m g : Nat} (ok : GOK n m) (hg : g < n * m) : ∀ i j, i < j → j < n * m → gA n m i g ≠ gA n m j g := fun i j hi hj c => by
  have := gA_can ok (by omega) hj hg c
  omega
theorem tr_at {n m S g x : Nat} (ok : GOK n m) (hx : x < n * m) (hg : g < n * m) (hS : S < 2 ^ (n * m)) : (trS n m S g).testBit (gA n m x g) = S.testBit x := by
  rw [trS_S ok (gA_lt ok x g) hg hS, (gS_iff ok (gA_lt ok x g) hg hx).mpr rfl]
theorem pop_tr {n m S g : Nat} (ok : GOK n m) (hg : g < n * m) (hS : S < 2 ^ (n * m)) : pop (trS n m S g) = pop S := by
  rw [pop_v (trS_lt ok S g) ok.2.2, pop_v hS ok.2.2, ← ct_perm (p := fun i => (trS n m S g).testBit i) (π := fun x => gA n m x g) (fun x _ => gA_lt ok x g) (gA_inj ok hg)]
  exact fb_ct_cong (fun x hx => tr_at ok hx hg hS)
theorem sm_mod {f h : Nat → Nat} {N : Nat} : ∀ {v : Nat}, (∀ x, x < v → f x % N = h x % N) → fb_sm f v % N = fb_sm h v % N
  | 0, _ => rfl
  | v + 1, e => by rw [fb_sm_succ, fb_sm_succ, Nat.add_mod, sm_mod (fun x hx => e x (by omega)), e v (by omega), ← Nat.add_mod]
theorem sm_sel (p : Nat → Bool) (c : Nat → Nat) (a : Nat) : ∀ v, fb_sm (fun x => if p x then c x + a else 0) v = fb_sm (fun x => if p x then c x else 0) v + fb_ct p v * a
  | 0 => by rw [show fb_ct p 0 = 0 from rfl, Nat.zero_mul]; rfl
  | v + 1 => by
    rw [fb_sm_succ, fb_sm_succ, fb_ct_succ, sm_sel p c a v]
    cases p v
    · rw [if_neg (by decide), if_neg (by decide), if_neg (by decide), Nat.add_zero, Nat.add_zero, Nat.add_zero]
    · rw [if_pos rfl, if_pos rfl, if_pos rfl, Nat.add_mul, Nat.one_mul]
      omega
theorem stab_c {n m S g N : Nat} {c : Nat → Nat} (ok : GOK n m) (hg : g < n * m) (hS : S < 2 ^ (n * m)) (e : trS n m S g = S) (hc : ∀ x, c (gA n m x g) % N = (c x + c g) % N) : pop S * c g % N = 0 := by
  have e1 := sm_perm (f := fun x => if S.testBit x then c x else 0) (n * m) (fun x => gA n m x g) (fun x _ => gA_lt ok x g) (gA_inj ok hg)
  have e2 : fb_sm (fun x => if S.testBit (gA n m x g) then c (gA n m x g) else 0) (n * m) % N = fb_sm (fun x => if S.testBit x then c x + c g else 0) (n * m) % N := sm_mod (fun x hx => by
    have h1 := tr_at ok hx hg hS
    rw [e] at h1
    rw [h1]
    split
    · exact hc x
    · rfl)
  rw [sm_sel (fun x => S.testBit x) c (c g)] at e2
  have e3 : fb_sm (fun x => if S.testBit (gA n m x g) then c (gA n m x g) else 0) (n * m) = fb_sm (fun x => if S.testBit x then c x else 0) (n * m) := e1
  rw [e3] at e2
  have e4 := Nat.sub_mod_eq_zero_of_mod_eq e2.symm
  rw [Nat.add_sub_cancel_left, ← pop_v hS ok.2.2] at e4
  exact e4
theorem stab_k {n m S g : Nat} (ok : GOK n m) (hg : g < n * m) (hS : S < 2 ^ (n * m)) (e : trS n m S g = S) : gM n m (pop S) g = 0 := by
  have h1 := stab_c (N := n) (c := fun x => x / m) ok hg hS e (fun x => by
    show gA n m x g / m % n = _
    rw [gA_div ok, Nat.mod_mod])
  have h2 := stab_c (N := m) (c := fun x => x % m) ok hg hS e (fun x => by
    show gA n m x g % m % m = _
    rw [gA_mod ok, Nat.mod_mod])
  unfold gM
  rw [show pop S * (g / m) % n = 0 from h1, show pop S * (g % m) % m = 0 from h2, Nat.mul_zero]
/-- how many numbers have k ones -/
def bn : Nat → Nat → Nat
  | 0, k => if k = 0 then 1 else 0
  | v + 1, 0 => bn v 0
  | v + 1, k + 1 => bn v (k + 1) + bn v k
def rk (k x : Nat) : Nat := fb_ct (fun y => decide (pop y = k)) x
theorem pop_hi {v y : Nat} (hv : v < 40) (hy : y < 2 ^ v) : pop (2 ^ v + y) = pop y + 1 := by
  have h1 : 2 ^ v + y < 2 ^ (v + 1) := by rw [Nat.pow_succ]; omega
  have e : 2 ^ v + y = 2 ^ v * 1 + y := by rw [Nat.mul_one]
  rw [pop_v h1 (by omega), pop_v hy (by omega), fb_ct_succ, fb_ct_cong (q := fun i => y.testBit i) (fun i hi => by rw [e, Nat.testBit_two_pow_mul_add 1 hy, if_pos hi]), e, Nat.testBit_two_pow_mul_add 1 hy, if_neg (Nat.lt_irrefl v), Nat.sub_self]
  rfl
theorem rk_bn : ∀ v k, v ≤ 40 → rk k (2 ^ v) = bn v k
  | 0, k, _ => by
    show fb_ct (fun y => decide (pop y = k)) 1 = if k = 0 then 1 else 0
    rw [fb_ct_succ]
    have h0 : pop 0 = 0 := fb_ct_zero.mpr (fun k _ => Nat.zero_testBit k)
    show 0 + (if decide (pop 0 = k) = true then 1 else 0) = _
    rw [h0]
    by_cases c : k = 0
    · rw [if_pos (decide_eq_true c.symm), if_pos c]
    · rw [if_neg (fun h => c (of_decide_eq_true h).symm), if_neg c]
  | v + 1, k, hv => by
    have e1 : rk k (2 ^ (v + 1)) = rk k (2 ^ v) + fb_ct (fun y => decide (pop (2 ^ v + y) = k)) (2 ^ v) := by
      unfold rk
      rw [← fb_ct_split, Nat.pow_succ, Nat.mul_two]
    rw [e1, rk_bn v k (by omega)]
    cases k with
    | zero =>
      rw [fb_ct_zero.mpr (fun y hy => by rw [pop_hi (by omega) hy]; exact decide_eq_false (by omega))]
      rfl
    | succ k =>
      rw [fb_ct_cong (q := fun y => decide (pop y = k)) (fun y hy => by rw [pop_hi (by omega) hy]; exact decide_eq_decide.mpr (by omega))]
      show _ + rk k (2 ^ v) = _
      rw [rk_bn v k (by omega)]
      rfl
theorem rk_lt {k x v : Nat} (hv : v ≤ 40) (hx : x < 2 ^ v) (hk : pop x = k) : rk k x < bn v k := by
  rw [← rk_bn v k hv]
  have h1 : rk k (x + 1) = rk k x + 1 := by
    show fb_ct (fun y => decide (pop y = k)) (x + 1) = _
    rw [fb_ct_succ, decide_eq_true hk, if_pos rfl]
    rfl
  have h2 : rk k (x + 1) ≤ rk k (2 ^ v) := fb_ct_mono _ hx
  omega
theorem rk_up {k x y : Nat} (hk : pop x = k) (h : x < y) : rk k x + 1 ≤ rk k y := by
  have h1 : rk k (x + 1) = rk k x + 1 := by
    show fb_ct (fun y => decide (pop y = k)) (x + 1) = _
    rw [fb_ct_succ, decide_eq_true hk, if_pos rfl]
    rfl
  have h2 : rk k (x + 1) ≤ rk k y := fb_ct_mono _ h
  omega
theorem rk_inj {k x y : Nat} (hx : pop x = k) (hy : pop y = k) (e : rk k x = rk k y) : x = y := fb_ct_kth_one (decide_eq_true hx) (decide_eq_true hy) e
theorem ch_fn {P : Nat → Nat → Prop} {n : Nat} (h : ∀ i, i < n → ∃ y, P i y) : ∃ f : Nat → Nat, ∀ i, i < n → P i (f i) :=
  Classical.axiomOfChoice (r := fun i y => i < n → P i y) (fun i => by
    by_cases c : i < n
    · obtain ⟨y, hy⟩ := h i c
      exact ⟨y, fun _ => hy⟩
    · exact ⟨0, fun c2 => absurd c2 c⟩)
