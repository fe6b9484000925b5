theorem u_lst {s : Sg} {p4 u z : Nat} {w0 : Wd} {K : Wd → Prop} (hs : WF s) (hM : MW s w0) (hp : p4 = 49 ∨ p4 = 50) (hu : u < sN s * sM s) (hz : z < sN s * sM s) (h : ∀ w, MW s w → Mo [p4] [19] w0 w → w.1 39 19 = nI (usN s 6) → lW p4 (liS s (gF (sN s) (sM s) u z)) w → K w) : RunV 1 M_B_lists [.ref 39, .ref 40, .int 0, .int (nI u), .int (nI z), .ref p4] w0 K := by
  rw [← liS_n s (gF (sN s) (sM s) u z)] at h
  rcases hp with rfl | rfl
  · exact u_lists (b := 0) (n0 := 6) rfl (by decide) (by decide) (by decide) rfl (by decide) (by decide) (by decide) (by decide) hM.1.1 hu hz (fun k hk => ⟨by rw [Nat.zero_add]; exact hM.2.2.1 k hk, hs.bl hk⟩) (fun w hm h19 hL => h w (hM.mo (hm.mono (by decide) (by decide))) hm h19 hL)
  · exact u_lists (b := 0) (n0 := 6) rfl (by decide) (by decide) (by decide) rfl (by decide) (by decide) (by decide) (by decide) hM.1.1 hu hz (fun k hk => ⟨by rw [Nat.zero_add]; exact hM.2.2.1 k hk, hs.bl hk⟩) (fun w hm h19 hL => h w (hM.mo (hm.mono (by decide) (by decide))) hm h19 hL)
theorem idU {n m : Nat} (ok : GOK n m) : m % (n * m) = m ∧ m < n * m ∧ 1 % m < n * m := by
  have h1 := ok.mv
  have h2 := ok.m0
  have h3 := Nat.mod_lt 1 h2
  have h4 : m < n * m := by omega
  exact ⟨Nat.mod_eq_of_lt h4, h4, by omega⟩
theorem rem_id {n m : Nat} (ok : GOK n m) : nI m - nI m / nI (n * m) * nI (n * m) = nI m := by
  have hv := ok.2.2
  have h := idU ok
  rw [pk_rem (by omega) ok.v0 (by omega), h.1]
theorem rem_1 {n m : Nat} (ok : GOK n m) : (1 : Int32) - 1 / nI m * nI m = nI (1 % m) := by
  have hm := ok.m40
  rw [i1, pk_rem (by decide) ok.m0 (by omega)]
theorem u_asIs {s : Sg} {w0 : Wd} {K : Wd → Prop} (hs : WF s) (hM : MW s w0) (h : ∀ w, MW s w → Mo [50] [19] w0 w → w.1 39 19 = nI (usN s 6) → lW 50 (liS s iD) w → K w) : RunV 1 M_B_listsAsItIs [.ref 39] w0 K := by
  have ok := hs.1
  have hv := ok.2.2
  have hi := idU ok
  have e1 : liS s (gF (sN s) (sM s) (sM s) (1 % sM s)) = liS s iD := liF_cong (fun x hx => gF_id ok hx) 6
  refine r_B_listsAsItIs ?_
  rw [hM.1.1.2.2.2, hM.1.1.2.2.1, rem_id ok, rem_1 ok]
  refine ⟨nI_ne0 ok.v0 (by omega), nI_ne0 ok.m0 (by have := ok.m40; omega), u_lst hs hM (Or.inr rfl) hi.2.1 hi.2.2 (fun w hMw hm h19 hL => h w hMw hm h19 (e1 ▸ hL))⟩
theorem MW.au {s : Sg} {w : Wd} (h : MW s w) {k : Nat} (hk : k < nAut (sN s) (sM s)) : w.1 45 k = nI (aU (sN s) (sM s) k) ∧ w.1 46 k = nI (aZ (sN s) (sM s) k) := h.1.2.2 k hk
theorem u_symm {s : Sg} {w0 : Wd} {K : Int32 → Wd → Prop} (hs : WF s) (hM : MW s w0) (h : ∀ w, MW s w → Mo [49, 50] [19] w0 w → K (nI (syN s (nAut (sN s) (sM s)))) w) : RunI 1 M_B_symmetries [.ref 39] w0 K := by
  have ok := hs.1
  have n480 := nAut_480 ok
  have hu6 := usN_6 s
  have key : ∀ j k w, k + j = nAut (sN s) (sM s) → MW s w → Mo [49, 50] [19] w0 w → lW 50 (liS s iD) w → E 1 M_B_symmetries 8 [(0, .ref 39), (1, .int (nI (syN s k))), (2, .int (nI k))] [] w (qI 1 K) := by
    intro j
    induction j with
    | zero =>
      intro k w hk hMw hm hL
      refine w_B_symmetries_8 ?_
      rw [hMw.na]
      refine pk_le (nAut (sN s) (sM s)) k (fun _ => ?_) (fun c => by omega)
      rw [show k = nAut (sN s) (sM s) by omega]
      exact h w hMw hm
    | succ j ih =>
      intro k w hk hMw hm hL
      have hkn : k < nAut (sN s) (sM s) := by omega
      have ih1 := ih (k + 1)
      rw [syN_s] at ih1
      have hat := aut_at hkn
      have hφ : ∀ x, x < sN s * sM s → fK s k x < sN s * sM s := fun x _ => gF_lt ok _ _ x
      refine w_B_symmetries_8 ?_
      rw [hMw.na, nI_clamp (by omega), (hMw.au hkn).1, (hMw.au hkn).2]
      refine pk_le (nAut (sN s) (sM s)) k (fun c => by omega) (fun _ => ⟨vp_in_nI (by omega) (by decide), vp_in_nI (by omega) (by decide), u_lst hs hMw (Or.inl rfl) hat.1 hat.2.1 (fun w2 hM2 hm2 h19 hL2 => ?_)⟩)
      have hL50 : lW 50 (liS s iD) w2 := fun i hi => by
        rw [(hm2.pl 50 (by decide) (by decide)).2]
        exact hL i hi
      refine u_compare (F := (liS s (fK s k)).2) (G := (liS s iD).2) rfl (by decide) rfl (by decide) hu6 h19 (fun i hi => ⟨hL2 i (by rw [liS_n]; exact hi), liS_62 hs hφ i⟩) (fun i hi => ⟨hL50 i (by rw [liS_n]; exact hi), liS_62 hs (fun x hx => hx) i⟩) ?_
      rw [cpv_0]
      refine ⟨fun c a6 e6 a7 e7 => ?_, fun c a7 e7 a8 e8 => ?_⟩
      · rw [i0, nI_add, Nat.add_zero] at e6
        rw [i1, nI_add] at e7
        subst e6
        subst e7
        rw [if_neg c, Nat.add_zero] at ih1
        exact ih1 w2 (by omega) hM2 (hm.tr (hm2.mono (by decide) (by decide))) hL50
      · rw [i1, nI_add] at e7 e8
        subst e7
        subst e8
        rw [if_pos c] at ih1
        exact ih1 w2 (by omega) hM2 (hm.tr (hm2.mono (by decide) (by decide))) hL50
  exact r_B_symmetries (u_asIs hs hM (fun w1 hM1 hm1 _ hL1 => key (nAut (sN s) (sM s)) 0 w1 (by omega) hM1 (hm1.mono (by decide) (by decide)) hL1))
theorem op_symmetries : Op_symmetries INV := by
  rintro w ⟨s, hs⟩
  exact glueI (val := nI (syN s (nAut (sN s) (sM s)))) (nx := s) hs (r_A_symmetries (t_symm hs.1 hs.2.1 (fun w2 h2 m2 => ⟨rfl, h2, m2.mono (by decide) (fun _ c => absurd c List.not_mem_nil)⟩))) (fun w1 hM => u_symm hs.1 hM (fun w2 h2 m2 => ⟨rfl, h2, m2.mono (by decide) (fun _ _ => Or.inr (by decide))⟩)) hs.1
