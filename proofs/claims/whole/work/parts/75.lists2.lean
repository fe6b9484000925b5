theorem u_lists {n m p0 n0 p4 b u z : Nat} {f : Nat → Nat} {w0 : Wd} {K : Wd → Prop} (hk0 : kd p0 = .inl (1, n0)) (hp0 : p0 < Nf 1) (hn0 : n0 < 2 ^ 30) (hb : b + 6 ≤ n0) (hk4 : kd p4 = .inl (1, 6)) (hp4 : p4 < Nf 1) (h49 : p4 ≠ 39) (hne : p0 ≠ p4) (h09 : p0 ≠ 39) (hB : Bg n m w0) (hu : u < n * m) (hz : z < n * m) (hf : ∀ k, k < 6 → w0.2 p0 (b + k) = lN (f k) ∧ f k < 2 ^ (n * m)) (h : ∀ w, Mo [p4] [19] w0 w → w.1 39 19 = nI (liF n m (gF n m u z) f 6).1 → lW p4 (liF n m (gF n m u z) f 6) w → K w) : RunV 1 M_B_lists [.ref 39, .ref p0, .int (nI b), .int (nI u), .int (nI z), .ref p4] w0 K := by
  have ok := hB.1
  have hv := ok.2.2
  have h40 := pow40 hv
  have hφ : ∀ x, x < n * m → gF n m u z x < n * m := fun x _ => gF_lt ok u z x
  have h4n : p0 ∉ [p4] := fun c => hne (List.mem_singleton.mp c)
  have h39 : (39 : Nat) ∉ [p4] := fun c => h49 (List.mem_singleton.mp c).symm
  have key : ∀ j k w, k + j = 6 → Mo [p4] [19] w0 w → w.1 39 19 = nI (liF n m (gF n m u z) f k).1 → lW p4 (liF n m (gF n m u z) f k) w → E 1 M_B_lists 8 [(0, .ref 39), (1, .ref p0), (2, .int (nI b)), (3, .int (nI u)), (4, .int (nI z)), (5, .ref p4), (6, .int (nI k))] [] w (qV 1 K) := by
    intro j
    induction j with
    | zero =>
      intro k w hk hm h19 hL
      refine w_B_lists_8 hk0 hp0 hk4 hp4 (pk_le 6 k (fun _ => ?_) (fun c => by omega))
      rw [show k = 6 by omega] at hL h19
      exact h w hm h19 hL
    | succ j ih =>
      intro k w hk hm h19 hL
      have hfk := hf k (by omega)
      have hlen := liF_len n m (gF n m u z) f k
      have hlt := liF_lt (f := f) ok hφ k
      have ih1 := ih (k + 1)
      rw [liF] at ih1
      refine w_B_lists_8 hk0 hp0 hk4 hp4 ?_
      rw [nI_add, nI_clamp (by omega), (hm.pl p0 h4n h09).2, hfk.1, lN_0 (by omega)]
      refine pk_le 6 k (fun c => by omega) (fun _ => ⟨vp_in_nI (by omega) (by omega), fun c a1 e1 => ?_, fun c => ⟨vp_in_nI (by omega) (by omega), ?_⟩⟩)
      · rw [i1, nI_add] at e1
        subst e1
        rw [if_pos c] at ih1
        exact ih1 w (by omega) hm h19 hL
      · rw [if_neg c] at ih1
        have hBw : Bg n m w := ⟨ok, by rw [(hm.sl 0 h39 (by decide)).1]; exact hB.2.1, by rw [(hm.sl 1 h39 (by decide)).1]; exact hB.2.2.1, by rw [(hm.sl 2 h39 (by decide)).1]; exact hB.2.2.2⟩
        have him : imS (gF n m u z) (f k) (n * m) < 2 ^ (n * m) := imS_lt hφ
        have hnf := nfS_lt him
        refine u_imageOf hBw (by omega) hu hz (u_normal hBw him (fun a6 e6 => ?_))
        rw [h19] at e6
        subst e6
        refine u_ins (w0 := w) (c := (liF n m (gF n m u z) f k).1) hk0 hp0 hk4 hp4 h49 (by omega) (by omega) h19 (liF n m (gF n m u z) f k).1 (liF n m (gF n m u z) f k).2 w (Nat.le_refl _) (fun i => by have := hlt i; omega) (fun i hi hne2 => hL i (by omega)) (OnL.rf _ _) (fun w2 hm2 h192 hd2 => ?_)
        exact ih1 w2 (by omega) (hm.tr hm2) h192 (fun i hi => hd2 i (Nat.le_of_lt_succ hi))
  refine r_B_lists hk0 hp0 hk4 hp4 (fun w1 e1 => key 6 0 w1 (by decide) ?_ ?_ (fun i hi => absurd hi (Nat.not_lt_zero i)))
  · rw [e1]
    exact (Mo.rf _ _ w0).upI _ (Or.inr (by decide))
  · rw [e1, upI_eq]
    rfl
/-- two lists compared: 0 where they are the same, 1 where the first is greater, 2 where it is less -/
def cpr (F G : Nat → Nat) : Nat → Nat → Nat
  | 0, _ => 0
  | j + 1, a => if F a = G a then cpr F G j (a + 1) else if G a ≤ F a then 1 else 2
def cpv : Nat → Int32
  | 0 => 0
  | 1 => 1
  | _ => -1
theorem t_compare {p0 p1 c : Nat} {F G : Nat → Nat} {w : Wd} {K : Int32 → Wd → Prop} (hk0 : kd p0 = .inl (1, 6)) (hp0 : p0 < Nf 1) (hk1 : kd p1 = .inl (1, 6)) (hp1 : p1 < Nf 1) (hc : c ≤ 6) (hF : ∀ i, i < c → w.2 p0 i = lN (F i) ∧ F i < 2 ^ 62) (hG : ∀ i, i < c → w.2 p1 i = lN (G i) ∧ G i < 2 ^ 62) (h : K (cpv (cpr F G c 0)) w) : RunI 1 M_K_compareLists [.ref p0, .ref p1, .int (nI c)] w K := by
  have key : ∀ j a, a + j = c → K (cpv (cpr F G j a)) w → E 1 M_K_compareLists 2 [(0, .ref p0), (1, .ref p1), (2, .int (nI c)), (3, .int (nI a))] [] w (qI 1 K) := by
    intro j
    induction j with
    | zero =>
      intro a ha hK
      exact w_K_compareLists_2 hk0 hp0 hk1 hp1 (pk_le c a (fun _ => hK) (fun c => by omega))
    | succ j ih =>
      intro a ha hK
      have hFa := hF a (by omega)
      have hGa := hG a (by omega)
      refine w_K_compareLists_2 hk0 hp0 hk1 hp1 ?_
      rw [nI_clamp (by omega), hFa.1, hGa.1, fb_lN_inj (by omega) (by omega)]
      rw [cpr] at hK
      refine pk_le c a (fun c => by omega) (fun _ => ⟨vp_in_nI (by omega) (by decide), vp_in_nI (by omega) (by decide), fun e a1 e1 => ?_, fun e => ⟨vp_in_nI (by omega) (by decide), vp_in_nI (by omega) (by decide), r_J_compare ?_⟩⟩)
      · rw [i1, nI_add] at e1
        subst e1
        rw [if_pos e] at hK
        exact ih (a + 1) (by omega) hK
      · rw [if_neg e] at hK
        rw [lN_lE (by omega) (by omega), fb_lN_inj (by omega) (by omega)]
        refine ⟨fun c => ⟨fun _ => ?_, fun c2 => absurd c2 e⟩, fun c => ?_⟩
        · rw [if_pos c] at hK
          exact hK
        · rw [if_neg c] at hK
          exact hK
  exact r_K_compareLists hk0 hp0 hk1 hp1 (key c 0 (by omega) h)
theorem u_compare {p0 p1 c : Nat} {F G : Nat → Nat} {w : Wd} {K : Int32 → Wd → Prop} (hk0 : kd p0 = .inl (1, 6)) (hp0 : p0 < Nf 1) (hk1 : kd p1 = .inl (1, 6)) (hp1 : p1 < Nf 1) (hc : c ≤ 6) (h19 : w.1 39 19 = nI c) (hF : ∀ i, i < c → w.2 p0 i = lN (F i) ∧ F i < 2 ^ 62) (hG : ∀ i, i < c → w.2 p1 i = lN (G i) ∧ G i < 2 ^ 62) (h : K (cpv (cpr F G c 0)) w) : RunI 1 M_B_compared [.ref 39, .ref p0, .ref p1] w K := by
  have key : ∀ j a, a + j = c → K (cpv (cpr F G j a)) w → E 1 M_B_compared 2 [(0, .ref 39), (1, .ref p0), (2, .ref p1), (3, .int (nI a))] [] w (qI 1 K) := by
    intro j
    induction j with
    | zero =>
      intro a ha hK
      refine w_B_compared_2 hk0 hp0 hk1 hp1 ?_
      rw [h19]
      exact pk_le c a (fun _ => hK) (fun c => by omega)
    | succ j ih =>
      intro a ha hK
      have hFa := hF a (by omega)
      have hGa := hG a (by omega)
      refine w_B_compared_2 hk0 hp0 hk1 hp1 ?_
      rw [h19, nI_clamp (by omega), hFa.1, hGa.1, fb_lN_inj (by omega) (by omega), lN_lE (by omega) (by omega)]
      rw [cpr] at hK
      refine pk_le c a (fun c => by omega) (fun _ => ⟨vp_in_nI (by omega) (by decide), vp_in_nI (by omega) (by decide), fun e a1 e1 => ?_, fun e => ⟨vp_in_nI (by omega) (by decide), vp_in_nI (by omega) (by decide), fun c => ?_, fun c => ?_⟩⟩)
      · rw [i1, nI_add] at e1
        subst e1
        rw [if_pos e] at hK
        exact ih (a + 1) (by omega) hK
      · rw [if_neg e, if_pos c] at hK
        exact hK
      · rw [if_neg e, if_neg c] at hK
        exact hK
  exact r_B_compared hk0 hp0 hk1 hp1 (key c 0 (by omega) h)
