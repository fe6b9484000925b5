/-- the reference's canonical list, of any six sets -/
abbrev lgK (s : Sg) (f : Nat → Nat) (k : Nat) : Nat → Nat := (liF (sN s) (sM s) (fK s k) f 6).2
abbrev cF6 (f : Nat → Nat) : Nat := fb_ct (fun k => decide (f k ≠ 0)) 6
theorem lgK_62 {s : Sg} (hs : WF s) (f : Nat → Nat) (k i : Nat) : lgK s f k i < 2 ^ 62 := by
  have h1 := liF_lt (f := f) hs.1 (fK_lt hs k) 6 i
  have h40 := pow40 hs.1.2.2
  show (liF _ _ _ _ _).2 i < _
  omega
theorem mnG_62 {s : Sg} (hs : WF s) {c : Nat} {f F0 : Nat → Nat} (h0 : ∀ i, F0 i < 2 ^ 62) : ∀ k i, mnL c F0 (lgK s f) k i < 2 ^ 62
  | 0, i => h0 i
  | k + 1, i => by
    rw [mnL]
    split
    · exact lgK_62 hs f k i
    · exact mnG_62 hs h0 k i
theorem u_cpy {p0 n0 p2 c k : Nat} {x2 : Int32} {L : Nat → Nat} {w0 : Wd} {K : Wd → Prop} (hk0 : kd p0 = .inl (1, n0)) (hp0 : p0 < Nf 1) (hk2 : kd p2 = .inl (1, 6)) (hp2 : p2 < Nf 1) (h29 : p2 ≠ 49) (hc : c ≤ 6) (h19 : w0.1 39 19 = nI c) (hL : ∀ i, i < c → w0.2 49 i = lN (L i)) (h : ∀ w, OnL p2 w0 w → (∀ i, i < c → w.2 p2 i = lN (L i)) → E 1 M_B_canonicalOf 3 [(0, .ref 39), (1, .ref p0), (2, .int x2), (3, .ref p2), (4, .int (nI (k + 1)))] [] w (qV 1 K)) :
    ∀ j a w, a + j = c → OnL p2 w0 w → (∀ i, i < a → w.2 p2 i = lN (L i)) → E 1 M_B_canonicalOf 56 [(0, .ref 39), (1, .ref p0), (2, .int x2), (3, .ref p2), (4, .int (nI k)), (5, .int (nI a))] [] w (qV 1 K) := by
  intro j
  induction j with
  | zero =>
    intro a w ha hm hd
    refine w_B_canonicalOf_56 hk0 hp0 hk2 hp2 ?_
    rw [hm.2, h19]
    refine pk_le c a (fun _ a1 e1 => ?_) (fun c => by omega)
    rw [i1, nI_add] at e1
    subst e1
    exact h w hm (fun i hi => hd i (by omega))
  | succ j ih =>
    intro a w ha hm hd
    refine w_B_canonicalOf_56 hk0 hp0 hk2 hp2 ?_
    rw [hm.2, h19, nI_clamp (by omega), hm.1 49 (fun c => h29 c.symm), hL a (by omega)]
    refine pk_le c a (fun c => by omega) (fun _ => ⟨vp_in_nI (by omega) (by decide), vp_in_nI (by omega) (by decide), fun w2 e2 a3 e3 => ?_⟩)
    rw [i1, nI_add] at e3
    subst e3
    refine ih (a + 1) w2 (by omega) (by rw [e2]; exact hm.up _ _) (fun i hi => ?_)
    by_cases e : i = a
    · rw [e2, e, upL_eq]
    · rw [e2, upL_ne (by omega)]
      exact hd i (by omega)
theorem u_canonOf {s : Sg} {p0 n0 p2 b : Nat} {f : Nat → Nat} {w0 : Wd} {K : Wd → Prop} (hs : WF s) (hM : MW s w0) (hk0 : kd p0 = .inl (1, n0)) (hp0 : p0 < Nf 1) (hn0 : n0 < 2 ^ 30) (hb : b + 6 ≤ n0) (h0 : p0 = 40 ∨ p0 = 42) (h2 : p2 = 50 ∨ p2 = 51) (hf : ∀ k, k < 6 → w0.2 p0 (b + k) = lN (f k) ∧ f k < 2 ^ (sN s * sM s)) (h : ∀ w, MW s w → Mo [49, p2] [19] w0 w → w.1 39 19 = nI (cF6 f) → (∀ i, i < cF6 f → w.2 p2 i = lN (mnL (cF6 f) (lgK s f 0) (lgK s f) (nAut (sN s) (sM s)) i)) → K w) : RunV 1 M_B_canonicalOf [.ref 39, .ref p0, .int (nI b), .ref p2] w0 K := by
  have ok := hs.1
  have n480 := nAut_480 ok
  have n0p := nAut_pos ok
  have hk2 : kd p2 = .inl (1, 6) := by rcases h2 with rfl | rfl <;> rfl
  have hp2 : p2 < Nf 1 := by rcases h2 with rfl | rfl <;> decide
  have hc6 : cF6 f ≤ 6 := fb_ct_le _ 6
  have hsub : ∀ q ∈ [49, p2], q ∈ scB := by rcases h2 with rfl | rfl <;> decide
  have hn049 : p0 ∉ [49, p2] := by rcases h0 with rfl | rfl <;> rcases h2 with rfl | rfl <;> decide
  have h239 : p2 ≠ 39 := by rcases h2 with rfl | rfl <;> decide
  have h249 : p2 ≠ 49 := by rcases h2 with rfl | rfl <;> decide
  have h039 : p0 ≠ 39 := by rcases h0 with rfl | rfl <;> decide
  have h049 : p0 ≠ 49 := by rcases h0 with rfl | rfl <;> decide
  have mwo : ∀ {w : Wd}, Mo [49, p2] [19] w0 w → MW s w := fun hm => hM.mo (hm.mono hsub (fun k hk => Or.inl (by rw [List.mem_singleton.mp hk]; decide)))
  have key : ∀ j k w, k + j = nAut (sN s) (sM s) → Mo [49, p2] [19] w0 w → (k ≠ 0 → w.1 39 19 = nI (cF6 f) ∧ ∀ i, i < cF6 f → w.2 p2 i = lN (mnL (cF6 f) (lgK s f 0) (lgK s f) k i)) → E 1 M_B_canonicalOf 3 [(0, .ref 39), (1, .ref p0), (2, .int (nI b)), (3, .ref p2), (4, .int (nI k))] [] w (qV 1 K) := by
    intro j
    induction j with
    | zero =>
      intro k w hk hm hL
      refine w_B_canonicalOf_3 hk0 hp0 hk2 hp2 ?_
      rw [(mwo hm).na]
      have hLk := hL (by omega)
      rw [show k = nAut (sN s) (sM s) by omega] at hLk
      exact pk_le (nAut (sN s) (sM s)) k (fun _ => h w (mwo hm) hm hLk.1 hLk.2) (fun c => by omega)
    | succ j ih =>
      intro k w hk hm hL
      have hkn : k < nAut (sN s) (sM s) := by omega
      have hMw := mwo hm
      have hat := aut_at hkn
      have ih1 := ih (k + 1)
      refine w_B_canonicalOf_3 hk0 hp0 hk2 hp2 ?_
      rw [hMw.na, nI_clamp (by omega), (hMw.au hkn).1, (hMw.au hkn).2]
      refine pk_le (nAut (sN s) (sM s)) k (fun c => by omega) (fun _ => ⟨vp_in_nI (by omega) (by decide), vp_in_nI (by omega) (by decide), u_lists (f := f) hk0 hp0 hn0 hb rfl (by decide) (by decide) h049 h039 hMw.1.1 hat.1 hat.2.1 (fun q hq => ⟨by rw [(hm.pl p0 hn049 h039).2]; exact (hf q hq).1, (hf q hq).2⟩) (fun w1 hm1 h19 hL1 => ?_)⟩)
      have h19' : w1.1 39 19 = nI (cF6 f) := by rw [h19, liF_n]
      have hL1' : ∀ i, i < cF6 f → w1.2 49 i = lN (lgK s f k i) := fun i hi => hL1 i (by rw [liF_n]; exact hi)
      have m1 : Mo [49, p2] [19] w0 w1 := hm.tr (hm1.mono (fun q hq => by rw [List.mem_singleton.mp hq]; exact List.mem_cons_self ..) (fun q hq => Or.inl hq))
      have copy : (∀ i, i < cF6 f → lgK s f k i = mnL (cF6 f) (lgK s f 0) (lgK s f) (k + 1) i) → E 1 M_B_canonicalOf 56 [(0, .ref 39), (1, .ref p0), (2, .int (nI b)), (3, .ref p2), (4, .int (nI k)), (5, .int (nI 0))] [] w1 (qV 1 K) := by
        intro heq
        refine u_cpy (L := lgK s f k) hk0 hp0 hk2 hp2 h249 hc6 h19' hL1' (fun w3 hm3 hd3 => ?_) (cF6 f) 0 w1 (by omega) (OnL.rf _ _) (fun i hi => absurd hi (Nat.not_lt_zero i))
        refine ih1 w3 (by omega) (m1.tr (hm3.mo.mono (fun q hq => by rw [List.mem_singleton.mp hq]; exact List.mem_cons_of_mem _ (List.mem_cons_self ..)) (fun _ c => absurd c List.not_mem_nil))) (fun _ => ⟨by rw [hm3.2]; exact h19', fun i hi => ?_⟩)
        rw [hd3 i hi, heq i hi]
      by_cases hk0z : k = 0
      · subst hk0z
        refine ⟨fun _ => copy (fun i _ => ?_), fun c => absurd rfl c⟩
        rw [mnL]
        split <;> rfl
      · refine ⟨fun c => absurd (nI_z (by omega) c) hk0z, fun _ => ?_⟩
        obtain ⟨_, hLk⟩ := hL hk0z
        have hp21 : p2 ∉ [49] := fun c => h249 (List.mem_singleton.mp c)
        have hLk1 : ∀ i, i < cF6 f → w1.2 p2 i = lN (mnL (cF6 f) (lgK s f 0) (lgK s f) k i) := fun i hi => by
          rw [(hm1.pl p2 hp21 h239).2]
          exact hLk i hi
        refine u_compare (F := lgK s f k) (G := mnL (cF6 f) (lgK s f 0) (lgK s f) k) rfl (by decide) hk2 hp2 hc6 h19' (fun i hi => ⟨hL1' i hi, lgK_62 hs f k i⟩) (fun i hi => ⟨hLk1 i hi, mnG_62 hs (lgK_62 hs f 0) k i⟩) ?_
        rw [cpv_n (cpr_3 _ _ _ _)]
        refine ⟨fun c a4 e4 => ?_, fun c => copy (fun i _ => ?_)⟩
        · rw [i1, nI_add] at e4
          subst e4
          refine ih1 w1 (by omega) m1 (fun _ => ⟨h19', fun i hi => ?_⟩)
          rw [mnL, if_neg c]
          exact hLk1 i hi
        · rw [mnL, if_pos (Decidable.byContradiction (fun c2 => c c2))]
  exact r_B_canonicalOf hk0 hp0 hk2 hp2 (key (nAut (sN s) (sM s)) 0 w0 (by omega) (Mo.rf _ _ _) (fun c => absurd rfl c))
