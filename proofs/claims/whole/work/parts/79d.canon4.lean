theorem id_k {s : Sg} (hs : WF s) : ∃ k, k < nAut (sN s) (sM s) ∧ ∀ x, x < sN s * sM s → fK s k x = x := by
  have ok := hs.1
  have hi := idU ok
  obtain ⟨k, hk, e1, e2⟩ := aut_mem hi.2.1 hi.2.2 (id_aut ok)
  refine ⟨k, hk, fun x hx => ?_⟩
  show gF _ _ (aU _ _ k) (aZ _ _ k) x = x
  rw [e1, e2]
  exact gF_id ok hx
theorem cnA_eq {s : Sg} (hs : WF s) : ∀ i, i < usN s 6 → cnA s i = mnL (usN s 6) (lsK s 0) (lsK s) (nAut (sN s) (sM s)) i := by
  obtain ⟨k, hk, e⟩ := id_k hs
  have e1 : (liS s iD).2 = lsK s k := by
    show (liF _ _ iD _ 6).2 = (liF _ _ (fK s k) _ 6).2
    rw [liF_cong (φ := iD) (ψ := fK s k) (fun x hx => (e x hx).symm) 6]
  intro i hi
  show mnL (usN s 6) (liS s iD).2 (lsK s) (nAut (sN s) (sM s)) i = _
  rw [e1]
  exact mnL_eq hk (nAut_pos hs.1) i hi
theorem u_canon {s : Sg} {w0 : Wd} {K : Wd → Prop} (hs : WF s) (hM : MW s w0) (h : ∀ w, MW s w → Mo [49, 51] [19] w0 w → w.1 39 19 = nI (usN s 6) → (∀ i, i < usN s 6 → w.2 51 i = lN (cnA s i)) → K w) : RunV 1 M_B_canonicalOf [.ref 39, .ref 40, .int 0, .ref 51] w0 K := by
  refine u_canonOf (b := 0) (n0 := 6) (f := sBl s) hs hM rfl (by decide) (by decide) (by decide) (Or.inl rfl) (Or.inr rfl) (fun k hk => ⟨by rw [Nat.zero_add]; exact hM.2.2.1 k hk, hs.bl hk⟩) (fun w hMw hm h19 hL => h w hMw hm h19 (fun i hi => ?_))
  rw [cnA_eq hs i hi]
  exact hL i hi
theorem le0 (a : Int32) : (¬ 0 ≤ a) ∨ ∃ j, j < 2 ^ 31 ∧ a = nI j := by
  by_cases h : 0 ≤ a
  · refine Or.inr ⟨a.toInt.toNat, ?_, ?_⟩
    · have := Int32.toInt_lt a
      omega
    · rw [Int32.le_iff_toInt_le] at h
      have e0 : (0 : Int32).toInt = 0 := by decide
      rw [e0] at h
      have h3 := Int32.toInt_lt a
      apply Int32.toInt_inj.mp
      rw [nI_toInt (by omega)]
      omega
  · exact Or.inl h
theorem op_canonical : Op_canonical INV := by
  rintro a1 w ⟨s, hs⟩
  have hC := hs.2.1
  have hu6 := usN_6 s
  rcases le0 a1 with h1 | ⟨j, hj, rfl⟩
  · exact glueL (val := -1) (nx := s) hs (r_A_canonical ⟨fun c => absurd c h1, fun _ => ⟨rfl, hC, Mo.rf _ _ _⟩⟩) (fun w1 hM => r_B_canonical ⟨fun c => absurd c h1, fun _ => ⟨rfl, hM, Mo.rf _ _ _⟩⟩) hs.1
  have hle : (0 : Int32) ≤ nI j := nI_le (a := 0) (Nat.zero_le j) hj
  by_cases hju : j < usN s 6
  · refine glueL (val := lN (cnA s j)) (nx := s) hs (r_A_canonical ⟨fun _ => t_findLeast hs.1 hC (fun w2 h2 m2 d2 => ?_), fun c => absurd hle c⟩) (fun w1 hM => r_B_canonical ⟨fun _ => u_canon hs.1 hM (fun w2 h2 m2 h19 d2 => ?_), fun c => absurd hle c⟩) hs.1
    · rw [nI_clamp (by omega)]
      exact pk_le (usN s 6) j (fun c => by omega) (fun _ => ⟨vp_in_nI (by omega) (by decide), d2 j hju, h2, m2.mono (by decide) (fun _ c => absurd c List.not_mem_nil)⟩)
    · rw [nI_clamp (by omega), h19]
      exact pk_le (usN s 6) j (fun c => by omega) (fun _ => ⟨vp_in_nI (by omega) (by decide), d2 j hju, h2, m2.mono (by decide) (fun _ _ => Or.inr (by decide))⟩)
  · refine glueL (val := -4) (nx := s) hs (r_A_canonical ⟨fun _ => t_findLeast hs.1 hC (fun w2 h2 m2 d2 => ?_), fun c => absurd hle c⟩) (fun w1 hM => r_B_canonical ⟨fun _ => u_canon hs.1 hM (fun w2 h2 m2 h19 d2 => ?_), fun c => absurd hle c⟩) hs.1
    · exact pk_le (usN s 6) j (fun _ => ⟨rfl, h2, m2.mono (by decide) (fun _ c => absurd c List.not_mem_nil)⟩) (fun c => by omega)
    · rw [h19]
      exact pk_le (usN s 6) j (fun _ => ⟨rfl, h2, m2.mono (by decide) (fun _ _ => Or.inr (by decide))⟩) (fun c => by omega)
