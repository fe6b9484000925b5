/-- membership in the list of automorphisms -/
theorem auI_in {n m z u : Nat} (h : isAut n m u z = true) : ∀ {k : Nat}, u < k → (u, z) ∈ auI n m z k
  | 0, hk => absurd hk (Nat.not_lt_zero u)
  | k + 1, hk => by
    rw [auI, List.mem_append]
    rcases Nat.lt_or_ge u k with h1 | h1
    · exact Or.inl (auI_in h h1)
    · have : u = k := by omega
      subst this
      rw [if_pos h]
      exact Or.inr (List.mem_singleton.mpr rfl)
theorem auO_in {n m z u : Nat} (h : isAut n m u z = true) (hu : u < n * m) : ∀ {k : Nat}, z < k → (u, z) ∈ auO n m k
  | 0, hk => absurd hk (Nat.not_lt_zero z)
  | k + 1, hk => by
    rw [auO, List.mem_append]
    rcases Nat.lt_or_ge z k with h1 | h1
    · exact Or.inl (auO_in h hu h1)
    · have : z = k := by omega
      subst this
      exact Or.inr (auI_in h hu)
theorem aut_mem {n m u z : Nat} (hu : u < n * m) (hz : z < n * m) (h : isAut n m u z = true) : ∃ k, k < nAut n m ∧ aU n m k = u ∧ aZ n m k = z := by
  have h1 : (u, z) ∈ autL n m := auO_in h hu hz
  obtain ⟨k, hk, e⟩ := List.mem_iff_getElem.mp h1
  refine ⟨k, hk, ?_, ?_⟩
  · unfold aU
    rw [List.getD_eq_getElem?_getD, List.getElem?_eq_getElem hk, e]
    rfl
  · unfold aZ
    rw [List.getD_eq_getElem?_getD, List.getElem?_eq_getElem hk, e]
    rfl
/-- the identity -/
theorem gF_id {n m x : Nat} (ok : GOK n m) (hx : x < n * m) : gF n m m (1 % m) x = x := by
  have hm := ok.m0
  have hxn := el_div hx
  have hxm := Nat.mod_lt x hm
  have h1 : 1 % m < m := Nat.mod_lt 1 hm
  apply el_ext (m := m)
  · unfold gF
    rw [gA_div ok, gM_div ok, gM_div ok, Nat.div_self hm, Nat.mul_one, Nat.div_eq_of_lt h1, Nat.mul_zero, Nat.zero_mod, Nat.add_zero, Nat.mod_mod, Nat.mod_eq_of_lt hxn]
  · unfold gF
    rw [gA_mod ok, gM_mod ok, gM_mod ok, Nat.mod_self, Nat.mul_zero, Nat.zero_mod, Nat.zero_add, Nat.mod_mod, Nat.mod_mod, Nat.mul_mod_mod, Nat.mul_one, Nat.mod_mod]
theorem id_aut {n m : Nat} (ok : GOK n m) : isAut n m m (1 % m) = true := by
  have hm := ok.m0
  have hmv : m < n * m := by have := ok.mv; omega
  have h1 : 1 % m < m := Nat.mod_lt 1 hm
  simp only [isAut, Bool.and_eq_true, decide_eq_true_eq]
  refine ⟨?_, ?_, ?_⟩
  · unfold gM
    rw [Nat.div_self hm, Nat.mul_one, Nat.mod_self n, Nat.mod_self m, Nat.mul_zero, Nat.mul_zero, Nat.zero_mod]
  · unfold gM
    rw [Nat.div_eq_of_lt h1, Nat.mul_zero, Nat.zero_mod, Nat.mul_zero, Nat.zero_add, Nat.mul_mod_right]
  · rw [imS_cong (ψ := fun x => x) (fun x hx => gF_id ok hx), imS_id (by have := Nat.two_pow_pos (n * m); omega)]
theorem nAut_pos {n m : Nat} (ok : GOK n m) : 0 < nAut n m := by
  obtain ⟨k, hk, -⟩ := aut_mem (by have := ok.mv; have := ok.m0; omega) (Nat.lt_of_lt_of_le (Nat.mod_lt 1 ok.m0) (by have := ok.mv; omega)) (id_aut ok)
  omega
theorem nAut_480 {n m : Nat} (ok : GOK n m) : nAut n m ≤ 480 := aut480 ok
section AU
variable {n m : Nat} {w : Wd} {K : Bool → Wd → Prop}
theorem t_auT {k : Nat} (hG : Gd n m w) (hk : k < nAut n m) (h : K true w) : RunZ 1 M_A_isAutomorphism [.ref 0, .int (nI k)] w K := by
  have h4 := nAut_480 hG.1.1
  refine r_A_isAutomorphism ?_
  rw [show w.1 1 5 = nI (nAut n m) from hG.2.2.2.2.1]
  exact ⟨fun c => absurd c (nI_pos (by omega)), fun _ => pk_le (nAut n m) k (fun c => by omega) (fun _ => h)⟩
theorem t_auF {x : Int32} (hG : Gd n m w) (hb : rng 0 (nAut n m - 1) x = false) (h : K false w) : RunZ 1 M_A_isAutomorphism [.ref 0, .int x] w K := by
  have h4 := nAut_480 hG.1.1
  have h0 := nAut_pos hG.1.1
  refine r_A_isAutomorphism ?_
  rw [show w.1 1 5 = nI (nAut n m) from hG.2.2.2.2.1]
  refine ⟨fun _ => h, fun c => ⟨fun _ => h, fun c2 => ?_⟩⟩
  exfalso
  rcases pk_ix x (n := nAut n m) (by omega) with h1 | h1 | ⟨j, hj, rfl⟩
  · exact c h1
  · exact c2 h1
  · rw [rng_t (Nat.zero_le j) (by omega) (by omega)] at hb
    cases hb
theorem u_auT {s : Sg} {k : Nat} (hG : mG s w) (hk : k < nAut (sN s) (sM s)) (h : K true w) : RunZ 1 M_B_isNumber [.ref 39, .int (nI k)] w K := by
  have h4 := nAut_480 hG.1.1
  refine r_B_isNumber ?_
  rw [show w.1 39 11 = nI (nAut (sN s) (sM s)) from hG.2.1, i1, pk_sub (by omega)]
  exact u_inT rfl rfl rfl (Nat.zero_le k) (by omega) (by omega) h
theorem u_auF {s : Sg} {x : Int32} (hG : mG s w) (hb : rng 0 (nAut (sN s) (sM s) - 1) x = false) (h : K false w) : RunZ 1 M_B_isNumber [.ref 39, .int x] w K := by
  have h0 := nAut_pos hG.1.1
  refine r_B_isNumber ?_
  rw [show w.1 39 11 = nI (nAut (sN s) (sM s)) from hG.2.1, i1, pk_sub (by omega)]
  exact u_inF rfl rfl rfl hb h
end AU
theorem au_or {n m : Nat} (ok : GOK n m) (x : Int32) : rng 0 (nAut n m - 1) x = false ∨ ∃ j, j < nAut n m ∧ x = nI j := by
  have h4 := nAut_480 ok
  have h0 := nAut_pos ok
  rcases rg_or 0 (nAut n m - 1) (by decide) (by omega) x with h | ⟨j, -, hj, e⟩
  · exact Or.inl h
  · exact Or.inr ⟨j, by omega, e⟩
theorem op_multiple : Op_multiple INV := by
  rintro a1 a2 w ⟨s, hs⟩
  have hC := hs.2.1
  have ok := hs.1.1
  rcases el_or ok a1 with h1 | ⟨x, hx, rfl⟩
  · exact glueI (val := -1) (nx := s) hs (r_A_multiple (t_elF hC.1.1 h1 (zf (sameA hC)))) (fun w1 hM => r_B_multiple (u_elF hM.1.1 h1 (zf (sameB hM)))) hs.1
  rcases rg_or 0 1000 (by decide) (by decide) a2 with h2 | ⟨t, -, ht, rfl⟩
  · exact glueI (val := -1) (nx := s) hs (r_A_multiple (t_elT hC.1.1 hx (zt (t_wiF rfl rfl h2 (zf' (sameA hC)))))) (fun w1 hM => r_B_multiple (u_elT hM.1.1 hx (zt (u_inF rfl rfl rfl h2 (zf (sameB hM)))))) hs.1
  exact glueI (val := nI (gM (sN s) (sM s) t x)) (nx := s) hs (r_A_multiple (t_elT hC.1.1 hx (zt (t_wiT rfl rfl (Nat.zero_le t) ht (by decide) (zt' (t_times hC.1.1 hx (by omega) (sameA hC))))))) (fun w1 hM => r_B_multiple (u_elT hM.1.1 hx (zt (u_inT rfl rfl rfl (Nat.zero_le t) ht (by decide) (zt (u_times hM.1.1 ht hx (sameB hM))))))) hs.1
theorem op_orderOf : Op_orderOf INV := by
  rintro a1 w ⟨s, hs⟩
  have hC := hs.2.1
  have ok := hs.1.1
  have hv := ok.2.2
  rcases el_or ok a1 with h1 | ⟨x, hx, rfl⟩
  · exact glueI (val := -1) (nx := s) hs (r_A_orderOf (t_elF hC.1.1 h1 (zf' (sameA hC)))) (fun w1 hM => r_B_orderOf (u_elF hM.1.1 h1 (zf' (sameB hM)))) hs.1
  refine glueI (val := nI (ordG (sN s) (sM s) x)) (nx := s) hs (r_A_orderOf (t_elT hC.1.1 hx (zt' ⟨vp_in_nI (by omega) (by decide), ?_, hC, Mo.rf _ _ _⟩))) (fun w1 hM => r_B_orderOf (u_elT hM.1.1 hx (zt' (u_ord_l hM.1.1 hx (sameB hM) (ordG (sN s) (sM s) x - 1) 1 (by have := ord_pos (sN s) (sM s) x; omega) (Nat.le_refl 1))))) hs.1
  rw [nI_clamp (by omega)]
  exact hC.1.2.2.2.1 x hx
theorem op_image : Op_image INV := by
  rintro a1 a2 w ⟨s, hs⟩
  have hC := hs.2.1
  have ok := hs.1.1
  have h4 := nAut_480 ok
  rcases au_or ok a1 with h1 | ⟨k, hk, rfl⟩
  · exact glueI (val := -1) (nx := s) hs (r_A_image (t_auF hC.1 h1 (zf (sameA hC)))) (fun w1 hM => r_B_image (u_auF hM.1 h1 (zf (sameB hM)))) hs.1
  rcases el_or ok a2 with h2 | ⟨x, hx, rfl⟩
  · exact glueI (val := -1) (nx := s) hs (r_A_image (t_auT hC.1 hk (zt (t_elF hC.1.1 h2 (zf' (sameA hC)))))) (fun w1 hM => r_B_image (u_auT hM.1 hk (zt (u_elF hM.1.1 h2 (zf (sameB hM)))))) hs.1
  refine glueI (val := nI (gF (sN s) (sM s) (aU (sN s) (sM s) k) (aZ (sN s) (sM s) k) x)) (nx := s) hs (r_A_image (t_auT hC.1 hk (zt (t_elT hC.1.1 hx (zt' (t_imageBy hC.1 hk hx (sameA hC))))))) (fun w1 hM => r_B_image (u_auT hM.1 hk (zt (u_elT hM.1.1 hx (zt ⟨vp_in_nI (by omega) (by decide), vp_in_nI (by omega) (by decide), ?_⟩))))) hs.1
  have ha := aut_at hk
  rw [nI_clamp (by omega), (hM.1.2.2 k hk).1, (hM.1.2.2 k hk).2]
  exact u_maps hM.1.1 ha.1 ha.2.1 hx (sameB hM)
theorem op_block : Op_block INV := by
  rintro a1 w ⟨s, hs⟩
  have hC := hs.2.1
  rcases rg_or 0 5 (by decide) (by decide) a1 with h1 | ⟨k, -, hk, rfl⟩
  · exact glueL (val := -1) (nx := s) hs (r_A_block (t_blF h1 (zf' ⟨rfl, hC, Mo.rf _ _ _⟩))) (fun w1 hM => r_B_block (u_blF h1 (zf ⟨rfl, hM, Mo.rf _ _ _⟩))) hs.1
  refine glueL (val := lN (sBl s k)) (nx := s) hs (r_A_block (t_blT (by omega) (zt' ⟨vp_in_nI (by omega) (by decide), ?_, hC, Mo.rf _ _ _⟩))) (fun w1 hM => r_B_block (u_blT (by omega) (zt ⟨vp_in_nI (by omega) (by decide), ?_, hM, Mo.rf _ _ _⟩))) hs.1
  · rw [nI_clamp (by omega)]
    exact hC.2.2.1 k (by omega)
  · rw [nI_clamp (by omega)]
    exact hM.2.2.1 k (by omega)
theorem op_searchSteps : Op_searchSteps INV := by
  rintro w ⟨s, hs⟩
  exact glueI (val := nI (sSc s)) (nx := s) hs (r_A_searchSteps ⟨hs.2.1.2.2.2.2.2.2.1.2.1, hs.2.1, Mo.rf _ _ _⟩) (fun w1 h1 => r_B_searchSteps ⟨h1.2.2.2.2.2.1.2.1, h1, Mo.rf _ _ _⟩) hs.1
theorem op_candidates : Op_candidates INV := by
  rintro w ⟨s, hs⟩
  exact glueI (val := nI (sCc s)) (nx := s) hs (r_A_candidates ⟨hs.2.1.2.2.2.2.2.2.1.1, hs.2.1, Mo.rf _ _ _⟩) (fun w1 h1 => r_B_candidates ⟨h1.2.2.2.2.2.1.1, h1, Mo.rf _ _ _⟩) hs.1
