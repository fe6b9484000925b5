theorem Gd.a {n m : Nat} {w : Wd} (h : Gd n m w) : Ga n m w := h.1
theorem Gd.on {n m p : Nat} {w w' : Wd} (h : Gd n m w) (ho : OnI p w w') (hp : ¬ (1 ≤ p ∧ p ≤ 7)) : Gd n m w' := by
  obtain ⟨h1, h2, h3, h4, h5, h6⟩ := h
  refine ⟨h1.on ho (by omega) (by omega) (by omega), by rw [ho.2]; exact h2, by rw [ho.2]; exact h3, fun x hx => ?_, ?_, fun k hk => ?_⟩
  · rw [ho.1 4 (by omega)]; exact h4 x hx
  · rw [ho.1 1 (by omega)]; exact h5
  · rw [ho.1 6 (by omega), ho.1 7 (by omega)]; exact h6 k hk
theorem Gd.onL {n m p : Nat} {w w' : Wd} (h : Gd n m w) (ho : OnL p w w') (hp : p ≠ 1) : Gd n m w' := by
  obtain ⟨⟨a1, a2, a3, a4, a5⟩, h2, h3, h4, h5, h6⟩ := h
  refine ⟨⟨a1, by rw [ho.2]; exact a2, by rw [ho.2]; exact a3, by rw [ho.2]; exact a4, fun x hx => by rw [ho.2]; exact a5 x hx⟩, by rw [ho.1 1 (Ne.symm hp)]; exact h2, by rw [ho.1 1 (Ne.symm hp)]; exact h3, fun x hx => ?_, ?_, fun k hk => ?_⟩
  · rw [ho.2]; exact h4 x hx
  · rw [ho.2]; exact h5
  · rw [ho.2]; exact h6 k hk
/-- times, by doubling -/
theorem gM_half {n m : Nat} (h : GOK n m) (t d : Nat) : gM n m t d = gA n m (gM n m (t % 2) d) (gM n m (t / 2) (gA n m d d)) := by
  have e : t = t % 2 + t / 2 * 2 := by omega
  have h2 : gM n m 2 d = gA n m (gM n m 1 d) (gM n m 1 d) := gM_add h 1 1 d
  have h3 : gM n m (t / 2) (gA n m d d) = gM n m (t / 2 * 2) d := by
    rw [gM_gA h, ← gM_add h, Nat.mul_two]
  rw [h3, ← gM_add h, ← e]
theorem t_times_l {n m x : Nat} {w : Wd} {K : Int32 → Wd → Prop} (hG : Ga n m w) {T : Nat} (h : K (nI T) w) :
    ∀ j r d t, t ≤ j → t < 2 ^ 31 → r < n * m → d < n * m → gA n m r (gM n m t d) = T → E 1 M_G_times 8 [(0, .ref 1), (3, .int (nI r)), (4, .int (nI d)), (5, .int (nI t))] [] w (qI 1 K) := by
  have ok := hG.1
  intro j
  induction j with
  | zero =>
    intro r d t ht h31 hr hd e
    refine w_G_times_8 (pk_le t 0 (fun c => ?_) (fun c => by omega))
    rw [show t = 0 by omega, gM_0, gA_0 ok hr] at e
    rw [e]
    exact h
  | succ j ih =>
    intro r d t ht h31 hr hd e
    refine w_G_times_8 (pk_le t 0 (fun c => ?_) (fun c => ?_))
    · rw [show t = 0 by omega, gM_0, gA_0 ok hr] at e
      rw [e]
      exact h
    · rw [pk_andN (by omega) (m := 1) 1 (by decide), gM_half ok] at *
      have hs : nI t >>> ((1 : Int32) &&& 31) = nI (t / 2) := pk_shrN h31 ((1 : Int32) &&& 31) 1 (by decide)
      have hd2 := gA_lt ok d d
      refine pk_eq (t % 2 ^ 1) 0 (fun c0 => ?_) (fun c0 => ?_)
      · refine t_plus hG hd hd (fun a3 e3 => ?_)
        rw [hs] at e3
        subst e3
        refine ih r (gA n m d d) (t / 2) (by omega) (by omega) hr hd2 ?_
        rw [show t % 2 = 0 by omega, gM_0, gA_0l ok (gM_lt ok _ _)] at e
        exact e
      · refine t_plus hG hr hd (t_plus hG hd hd (fun a8 e8 => ?_))
        rw [hs] at e8
        subst e8
        refine ih (gA n m r d) (gA n m d d) (t / 2) (by omega) (by omega) (gA_lt ok _ _) hd2 ?_
        rw [show t % 2 = 1 by omega, gM_1 ok hd, ← gA_assoc ok] at e
        exact e
theorem t_times {n m x t : Nat} {w : Wd} {K : Int32 → Wd → Prop} (hG : Ga n m w) (hx : x < n * m) (ht : t < 2 ^ 31) (h : K (nI (gM n m t x)) w) : RunI 1 M_G_times [.ref 1, .int (nI x), .int (nI t)] w K :=
  r_G_times (t_times_l (x := x) hG h t 0 x t (Nat.le_refl t) ht hG.1.v0 hx (gA_0l hG.1 (gM_lt hG.1 _ _)))
/-- fillMultiples, fillAutomorphism, imageBy -/
theorem t_fillMul_l {n m p1 t : Nat} {w0 : Wd} {K : Wd → Prop} (hk1 : kd p1 = .inl (0, 40)) (hp1 : p1 < Nf 1) (hG : Ga n m w0) (hp : p1 ≠ 1 ∧ p1 ≠ 2 ∧ p1 ≠ 3) (ht : t < 2 ^ 31) (h : ∀ w', OnI p1 w0 w' → (∀ x, x < n * m → w'.1 p1 x = nI (gM n m t x)) → K w') :
    ∀ j k w, k + j = n * m → OnI p1 w0 w → (∀ x, x < k → w.1 p1 x = nI (gM n m t x)) → E 1 M_G_fillMultiples 2 [(0, .ref 1), (1, .int (nI t)), (2, .ref p1), (3, .int (nI k))] [] w (qV 1 K) := by
  have ok := hG.1
  have hv := ok.2.2
  intro j
  induction j with
  | zero =>
    intro k w hk ho hr
    have hw := hG.on ho hp.1 hp.2.1 hp.2.2
    refine w_G_fillMultiples_2 hk1 hp1 ?_
    rw [hw.2.2.2.1]
    exact pk_le (n * m) k (fun _ => h w ho (fun x hx => hr x (by omega))) (fun c => by omega)
  | succ j ih =>
    intro k w hk ho hr
    have hw := hG.on ho hp.1 hp.2.1 hp.2.2
    refine w_G_fillMultiples_2 hk1 hp1 ?_
    rw [hw.2.2.2.1]
    refine pk_le (n * m) k (fun c => by omega) (fun c => t_times hw (by omega) ht ⟨vp_in_nI (by omega) (by decide), fun w3 e3 a4 e4 => ?_⟩)
    rw [nI_clamp (by omega)] at e3
    rw [i1, nI_add] at e4
    subst e4
    refine ih (k + 1) w3 (by omega) (by rw [e3]; exact ho.up _ _) (fun x hx => ?_)
    rw [e3]
    rcases Nat.lt_or_ge x k with hxk | hxk
    · rw [upI_ne (by omega)]
      exact hr x hxk
    · have : x = k := by omega
      subst this
      rw [upI_eq]
theorem t_fillMul {n m p1 t : Nat} {w0 : Wd} {K : Wd → Prop} (hk1 : kd p1 = .inl (0, 40)) (hp1 : p1 < Nf 1) (hG : Ga n m w0) (hp : p1 ≠ 1 ∧ p1 ≠ 2 ∧ p1 ≠ 3) (ht : t < 2 ^ 31) (h : ∀ w', OnI p1 w0 w' → (∀ x, x < n * m → w'.1 p1 x = nI (gM n m t x)) → K w') : RunV 1 M_G_fillMultiples [.ref 1, .int (nI t), .ref p1] w0 K :=
  r_G_fillMultiples hk1 hp1 (t_fillMul_l hk1 hp1 hG hp ht h (n * m) 0 w0 (by omega) (OnI.rf _ _) (fun x hx => absurd hx (Nat.not_lt_zero x)))
theorem auI_mem {n m z : Nat} : ∀ {k : Nat} {q : Nat × Nat}, q ∈ auI n m z k → q.1 < k ∧ q.2 = z ∧ isAut n m q.1 q.2 = true
  | 0, q, h => by simp [auI] at h
  | k + 1, q, h => by
    rw [auI, List.mem_append] at h
    rcases h with h | h
    · have := auI_mem h
      exact ⟨by omega, this.2⟩
    · split at h
      next hc =>
        rw [List.mem_singleton] at h
        subst h
        exact ⟨by simp, rfl, hc⟩
      next => exact absurd h List.not_mem_nil
theorem auO_mem {n m : Nat} : ∀ {k : Nat} {q : Nat × Nat}, q ∈ auO n m k → q.1 < n * m ∧ q.2 < k ∧ isAut n m q.1 q.2 = true
  | 0, q, h => by simp [auO] at h
  | k + 1, q, h => by
    rw [auO, List.mem_append] at h
    rcases h with h | h
    · have := auO_mem h
      exact ⟨this.1, by omega, this.2.2⟩
    · have := auI_mem h
      exact ⟨this.1, by omega, this.2.2⟩
theorem aut_at {n m k : Nat} (hk : k < (autL n m).length) : ((autL n m).getD k (0, 0)).1 < n * m ∧ ((autL n m).getD k (0, 0)).2 < n * m ∧ isAut n m ((autL n m).getD k (0, 0)).1 ((autL n m).getD k (0, 0)).2 = true := by
  have h1 : (autL n m).getD k (0, 0) ∈ autL n m := by
    rw [List.getD_eq_getElem?_getD, List.getElem?_eq_getElem hk]
    exact List.getElem_mem hk
  exact auO_mem h1
/-- the k-th automorphism's images -/
def aU (n m k : Nat) : Nat := ((autL n m).getD k (0, 0)).1
def aZ (n m k : Nat) : Nat := ((autL n m).getD k (0, 0)).2
def nAut (n m : Nat) : Nat := (autL n m).length
theorem t_fillAut {n m p1 k : Nat} {w0 : Wd} {K : Wd → Prop} (hk1 : kd p1 = .inl (0, 40)) (hp1 : p1 < Nf 1) (hG : Gd n m w0) (hp : p1 ≠ 1 ∧ p1 ≠ 2 ∧ p1 ≠ 3) (hk : k < nAut n m) (h : ∀ w', OnI p1 w0 w' → (∀ x, x < n * m → w'.1 p1 x = nI (gF n m (aU n m k) (aZ n m k) x)) → K w') : RunV 1 M_G_fillAutomorphism [.ref 1, .int (nI k), .ref p1] w0 K := by
  have h480 := aut480 hG.1.1
  have hk2 : k < 480 := Nat.lt_of_lt_of_le hk h480
  have ha := aut_at hk
  have hA := hG.2.2.2.2.2 k hk
  refine r_G_fillAutomorphism hk1 hp1 ?_
  rw [nI_clamp (by omega), hA.1, hA.2]
  exact ⟨vp_in_nI hk2 (by decide), vp_in_nI hk2 (by decide), t_fillMap hk1 hp1 hG.1 hp ha.1 ha.2.1 h⟩
theorem t_imageBy {n m k x : Nat} {w : Wd} {K : Int32 → Wd → Prop} (hG : Gd n m w) (hk : k < nAut n m) (hx : x < n * m) (h : K (nI (gF n m (aU n m k) (aZ n m k) x)) w) : RunI 1 M_G_imageBy [.ref 1, .int (nI k), .int (nI x)] w K := by
  have ok := hG.1.1
  have hv := ok.2.2
  have h480 := aut480 ok
  have hk2 : k < 480 := Nat.lt_of_lt_of_le hk h480
  have ha := aut_at hk
  have hA := hG.2.2.2.2.2 k hk
  have hxn := el_div hx
  have hxm := Nat.mod_lt x ok.m0
  have hn := ok.n40
  have hm := ok.m40
  refine r_G_imageBy ?_
  rw [nI_clamp (by omega), nI_clamp (by omega), hA.1, (hG.1.2.2.2.2 x hx).1]
  refine ⟨vp_in_nI hk2 (by decide), vp_in_nI (by omega) (by decide), t_times hG.1 ha.1 (by omega) ?_⟩
  rw [hA.2, (hG.1.2.2.2.2 x hx).2]
  exact ⟨vp_in_nI hk2 (by decide), vp_in_nI (by omega) (by decide), t_times hG.1 ha.2.1 (by omega) (t_plus hG.1 (gM_lt ok _ _) (gM_lt ok _ _) h)⟩
/-- isCoprime -/
def coP (t v : Nat) : Bool := decide (Nat.gcd t v = 1)
theorem coP_f {t v d : Nat} (hd : 2 ≤ d) (h1 : t % d = 0) (h2 : v % d = 0) : coP t v = false := by
  have h3 : d ∣ Nat.gcd t v := Nat.dvd_gcd (Nat.dvd_of_mod_eq_zero h1) (Nat.dvd_of_mod_eq_zero h2)
  unfold coP
  apply decide_eq_false
  intro h
  rw [h] at h3
  have := Nat.le_of_dvd (by decide) h3
  omega
theorem coP_t {t v : Nat} (hv : 0 < v) (h : ∀ d, 2 ≤ d → d ≤ v → ¬ (t % d = 0 ∧ v % d = 0)) : coP t v = true := by
  unfold coP
  apply decide_eq_true
  have h1 := Nat.gcd_dvd_left t v
  have h2 := Nat.gcd_dvd_right t v
  have h3 := Nat.le_of_dvd hv h2
  have h4 : 0 < Nat.gcd t v := Nat.gcd_pos_of_pos_right t hv
  rcases Nat.lt_or_ge (Nat.gcd t v) 2 with h5 | h5
  · omega
  · exact absurd ⟨Nat.mod_eq_zero_of_dvd h1, Nat.mod_eq_zero_of_dvd h2⟩ (h _ h5 h3)
theorem t_coprime_l {n m t : Nat} {w : Wd} {K : Bool → Wd → Prop} (hG : Ga n m w) (ht : t < 2 ^ 31) (h : K (coP t (n * m)) w) :
    ∀ j d, d + j = n * m + 1 → 2 ≤ d → (∀ e, 2 ≤ e → e < d → ¬ (t % e = 0 ∧ (n * m) % e = 0)) → E 1 M_G_isCoprime 2 [(0, .ref 1), (1, .int (nI t)), (2, .int (nI d))] [] w (qZ 1 K) := by
  have ok := hG.1
  have hv := ok.2.2
  intro j
  induction j with
  | zero =>
    intro d hd h2 hno
    refine w_G_isCoprime_2 ?_
    rw [hG.2.2.2.1]
    refine pk_lt (n * m) d (fun _ => ?_) (fun c => by omega)
    rw [coP_t ok.v0 (fun e he1 he2 => hno e he1 (by omega))] at h
    exact h
  | succ j ih =>
    intro d hd h2 hno
    have hd0 : ¬ nI d = 0 := nI_ne0 (by omega) (by omega)
    refine w_G_isCoprime_2 ?_
    rw [hG.2.2.2.1, pk_rem ht (by omega) (by omega), pk_rem (by omega) (by omega) (by omega)]
    have hnext : ∀ a1, ¬ (t % d = 0 ∧ (n * m) % d = 0) → a1 = nI d + 1 → E 1 M_G_isCoprime 2 [(0, .ref 1), (1, .int (nI t)), (2, .int a1)] [] w (qZ 1 K) := by
      intro a1 hc e1
      rw [i1, nI_add] at e1
      subst e1
      refine ih (d + 1) (by omega) (by omega) (fun e he1 he2 => ?_)
      rcases Nat.lt_or_ge e d with h3 | h3
      · exact hno e he1 h3
      · rw [show e = d by omega]
        exact hc
    have hm1 := Nat.mod_lt t (show d > 0 by omega)
    have hm2 := Nat.mod_lt (n * m) (show d > 0 by omega)
    refine pk_lt (n * m) d (fun c => by omega) (fun c => ⟨hd0, ?_⟩)
    rw [and_comm]
    refine pk_eq (t % d) 0 (fun c1 => ⟨hd0, ?_⟩) (fun c1 a1 e1 => hnext a1 (fun c => c1 c.1) e1)
    rw [and_comm]
    refine pk_eq (n * m % d) 0 (fun c2 => ?_) (fun c2 a1 e1 => hnext a1 (fun c => c2 c.2) e1)
    rw [coP_f h2 c1 c2] at h
    exact h
theorem t_coprime {n m t : Nat} {w : Wd} {K : Bool → Wd → Prop} (hG : Ga n m w) (ht : t < 2 ^ 31) (h : K (coP t (n * m)) w) : RunZ 1 M_G_isCoprime [.ref 1, .int (nI t)] w K :=
  r_G_isCoprime (t_coprime_l hG ht h (n * m - 1) 2 (by have := hG.1.mv; have := hG.1.m0; omega) (Nat.le_refl 2) (fun e h1 h2 => by omega))
/-- translate -/
theorem t_translate_l {n m S g : Nat} {w : Wd} {K : Int64 → Wd → Prop} (hG : Ga n m w) (hS : S < 2 ^ 63) (hg : g < n * m) (h : K (lN (trS n m S g)) w) :
    ∀ j k, k + j = n * m → E 1 M_G_translate 6 [(0, .ref 1), (1, .long (lN S)), (3, .int (nI g)), (4, .long (lN (imS (fun x => gA n m x g) S k))), (6, .int (nI k))] [] w (qL 1 K) := by
  have ok := hG.1
  have hv := ok.2.2
  intro j
  induction j with
  | zero =>
    intro k hk
    refine w_G_translate_6 ?_
    rw [hG.2.2.2.1]
    refine pk_le (n * m) k (fun _ => ?_) (fun c => by omega)
    rw [show k = n * m by omega]
    exact h
  | succ j ih =>
    intro k hk
    refine w_G_translate_6 ?_
    rw [hG.2.2.2.1]
    refine pk_le (n * m) k (fun c => by omega) (fun c => ?_)
    refine t_holds hS (by omega) ?_
    have ih1 := ih (k + 1) (by omega)
    refine ⟨fun hb a3 e3 => ?_, fun hb => t_plus hG (by omega) hg (fun b6 e6 a7 e7 => ?_)⟩
    · rw [i1, nI_add] at e3
      subst e3
      rw [imS, if_neg (by rw [hb]; decide), Nat.or_zero] at ih1
      exact ih1
    · rw [i1, nI_add] at e7
      subst e7
      rw [l_pow (by have := gA_lt ok k g; omega), fb_orL] at e6
      subst e6
      rw [imS, if_pos hb] at ih1
      exact ih1
theorem t_translate {n m S g : Nat} {w : Wd} {K : Int64 → Wd → Prop} (hG : Ga n m w) (hS : S < 2 ^ 63) (hg : g < n * m) (h : K (lN (trS n m S g)) w) : RunL 1 M_G_translate [.ref 1, .long (lN S), .int (nI g)] w K :=
  r_G_translate (t_translate_l hG hS hg h (n * m) 0 (by omega))
