/-- an ordered list: a set put in from place p downwards -/
def upF (F : Nat → Nat) (p T : Nat) : Nat → Nat := fun i => if i = p then T else F i
def ins (T : Nat) : Nat → (Nat → Nat) → (Nat → Nat)
  | 0, F => upF F 0 T
  | p + 1, F => if F p ≤ T then upF F (p + 1) T else ins T p (upF F (p + 1) (F p))
theorem lN_lE {a b : Nat} (ha : a < 2 ^ 63) (hb : b < 2 ^ 63) : lN a ≤ lN b ↔ a ≤ b := by
  rw [Int64.le_iff_toInt_le, lN_ti (by omega), lN_ti (by omega), if_pos ha, if_pos hb]
  omega
theorem ins_lt {T v : Nat} (hT : T < v) : ∀ p F, (∀ i, F i < v) → ∀ i, ins T p F i < v
  | 0, F, h, i => by
    show (if i = 0 then T else F i) < v
    split
    · exact hT
    · exact h i
  | p + 1, F, h, i => by
    rw [ins]
    split
    · show (if i = p + 1 then T else F i) < v
      split
      · exact hT
      · exact h i
    · refine ins_lt hT p _ (fun j => ?_) i
      show (if j = p + 1 then F p else F j) < v
      split
      · exact h p
      · exact h j
theorem t_ins {p0 c T : Nat} {w0 : Wd} {K : Wd → Prop} (hk0 : kd p0 = .inl (1, 6)) (hp0 : p0 < Nf 1) (hc : c < 6) (hT : T < 2 ^ 63) : ∀ p F w, p ≤ c → (∀ i, F i < 2 ^ 63) → (∀ i, i ≤ c → i ≠ p → w.2 p0 i = lN (F i)) → OnL p0 w0 w → (∀ w', OnL p0 w0 w' → (∀ i, i ≤ c → w'.2 p0 i = lN (ins T p F i)) → K w') → E 1 M_K_insertAscending 3 [(0, .ref p0), (2, .long (lN T)), (4, .int (nI p))] [] w (qV 1 K) := by
  intro p
  induction p with
  | zero =>
    intro F w hp hF hw hm h
    refine w_K_insertAscending_3 hk0 hp0 ⟨fun _ => ⟨vp_in_nI (by omega) (by decide), fun w1 e1 => ?_⟩, fun c => absurd (by decide) c⟩
    rw [nI_clamp (by omega)] at e1
    refine h w1 (by rw [e1]; exact hm.up _ _) (fun i hi => ?_)
    show w1.2 p0 i = lN (if i = 0 then T else F i)
    by_cases e : i = 0
    · rw [if_pos e, e1, e, upL_eq]
    · rw [if_neg e, e1, upL_ne (by omega)]
      exact hw i hi e
  | succ p ih =>
    intro F w hp hF hw hm h
    refine w_K_insertAscending_3 hk0 hp0 ?_
    rw [i1, pk_sub (by omega), Nat.add_sub_cancel, nI_clamp (by omega), nI_clamp (by omega), hw p (by omega) (by omega), lN_lE (hF p) hT, i0]
    refine pk_le (p + 1) 0 (fun c => by omega) (fun _ => ⟨vp_in_nI (by omega) (by decide), fun c => ⟨vp_in_nI (by omega) (by decide), fun w1 e1 => ?_⟩, fun c => ⟨vp_in_nI (by omega) (by decide), vp_in_nI (by omega) (by decide), fun w3 e3 a4 e4 => ?_⟩⟩)
    · refine h w1 (by rw [e1]; exact hm.up _ _) (fun i hi => ?_)
      rw [ins, if_pos c]
      show w1.2 p0 i = lN (if i = p + 1 then T else F i)
      by_cases e : i = p + 1
      · rw [if_pos e, e1, e, upL_eq]
      · rw [if_neg e, e1, upL_ne (by omega)]
        exact hw i hi e
    · have e5 : a4 = nI p := by
        rw [e4, ← Int32.sub_eq_add_neg, pk_sub (by omega), Nat.add_sub_cancel]
      subst e5
      rw [ins, if_neg c] at h
      refine ih (upF F (p + 1) (F p)) w3 (by omega) (fun i => ?_) (fun i hi hne => ?_) (by rw [e3]; exact hm.up _ _) h
      · show (if i = p + 1 then F p else F i) < _
        split
        · exact hF p
        · exact hF i
      · show w3.2 p0 i = lN (if i = p + 1 then F p else F i)
        by_cases e : i = p + 1
        · rw [if_pos e, e3, e, upL_eq]
        · rw [if_neg e, e3, upL_ne (by omega)]
          exact hw i hi e
/-- the list of the normal forms of the images -/
def liF (n m : Nat) (φ f : Nat → Nat) : Nat → Dl
  | 0 => (0, fun _ => 0)
  | k + 1 => if f k = 0 then liF n m φ f k else ((liF n m φ f k).1 + 1, ins (nfS n m (imS φ (f k) (n * m))) (liF n m φ f k).1 (liF n m φ f k).2)
theorem liF_len (n m : Nat) (φ f : Nat → Nat) : ∀ k, (liF n m φ f k).1 ≤ k
  | 0 => Nat.le_refl 0
  | k + 1 => by
    have := liF_len n m φ f k
    rw [liF]
    split
    · omega
    · show (liF n m φ f k).1 + 1 ≤ k + 1
      omega
theorem liF_lt {n m : Nat} {φ f : Nat → Nat} (ok : GOK n m) (hφ : ∀ x, x < n * m → φ x < n * m) : ∀ k i, (liF n m φ f k).2 i < 2 ^ (n * m)
  | 0, _ => Nat.two_pow_pos _
  | k + 1, i => by
    rw [liF]
    split
    · exact liF_lt ok hφ k i
    · exact ins_lt (nfS_lt (imS_lt hφ)) _ _ (liF_lt ok hφ k) i
theorem liF_cong {n m : Nat} {φ ψ f : Nat → Nat} (h : ∀ x, x < n * m → φ x = ψ x) : ∀ k, liF n m φ f k = liF n m ψ f k
  | 0 => rfl
  | k + 1 => by rw [liF, liF, liF_cong h k, imS_cong h]
def lW (p : Nat) (L : Dl) (w : Wd) : Prop := ∀ i, i < L.1 → w.2 p i = lN (L.2 i)
theorem t_listImage {n m p0 p1 : Nat} {φ f : Nat → Nat} {w0 : Wd} {K : Int32 → Wd → Prop} (hk0 : kd p0 = .inl (1, 6)) (hp0 : p0 < Nf 1) (hk1 : kd p1 = .inl (1, 6)) (hp1 : p1 < Nf 1) (hne : p0 ≠ p1) (hg : ∀ p ∈ [1, 2, 3, 4, 5, 6, 7], p ∉ [p1]) (h15n : 15 ≠ p1) (h39 : p1 ≠ 39) (h039 : p0 ≠ 39) (hG : Gd n m w0) (hφ : ∀ x, x < n * m → φ x < n * m) (h15 : ∀ x, x < n * m → w0.1 15 x = nI (φ x)) (hf : ∀ k, k < 6 → w0.2 p0 k = lN (f k) ∧ f k < 2 ^ (n * m)) (h : ∀ w, OnL p1 w0 w → lW p1 (liF n m φ f 6) w → K (nI (liF n m φ f 6).1) w) : RunI 1 M_K_listImage [.ref 14, .ref p0, .ref p1] w0 K := by
  have ok := hG.1.1
  have hv := ok.2.2
  have h40 := pow40 hv
  have key : ∀ j k w, k + j = 6 → OnL p1 w0 w → lW p1 (liF n m φ f k) w → E 1 M_K_listImage 5 [(0, .ref 14), (1, .ref p0), (2, .ref p1), (3, .int (nI (liF n m φ f k).1)), (4, .int (nI k))] [] w (qI 1 K) := by
    intro j
    induction j with
    | zero =>
      intro k w hk hm hL
      refine w_K_listImage_5 hk0 hp0 hk1 hp1 (pk_le 6 k (fun _ => ?_) (fun c => by omega))
      rw [show k = 6 by omega] at hL ⊢
      exact h w hm hL
    | succ j ih =>
      intro k w hk hm hL
      have hfk := hf k (by omega)
      have hlen := liF_len n m φ f k
      have hlt := liF_lt (f := f) ok hφ k
      have ih1 := ih (k + 1)
      rw [liF] at ih1
      refine w_K_listImage_5 hk0 hp0 hk1 hp1 (pk_le 6 k (fun c => by omega) (fun _ => ⟨vp_in_nI (by omega) (by decide), ?_⟩))
      rw [nI_clamp (by omega), hm.1 p0 hne, hfk.1, lN_0 (by omega)]
      refine ⟨fun c a1 e1 => ?_, fun c => ⟨vp_in_nI (by omega) (by decide), ?_⟩⟩
      · rw [i1, nI_add] at e1
        subst e1
        rw [if_pos c] at ih1
        exact ih1 w (by omega) hm hL
      · rw [if_neg c] at ih1
        have hGw : Gd n m w := hG.mo hm.mo hg
        have him : imS φ (f k) (n * m) < 2 ^ (n * m) := imS_lt hφ
        have hnf := nfS_lt him
        refine t_mapped (φ := φ) rfl (by decide) hGw.1 (by omega) (fun x hx => ⟨by rw [hm.2]; exact h15 x hx, Nat.lt_of_lt_of_le (hφ x hx) (by omega)⟩) (t_least hGw him (r_K_insertAscending hk1 hp1 ?_))
        refine t_ins (w0 := w0) (c := (liF n m φ f k).1) hk1 hp1 (by omega) (by omega) (liF n m φ f k).1 (liF n m φ f k).2 w (Nat.le_refl _) (fun i => by have := hlt i; omega) (fun i hi hne2 => hL i (by omega)) hm (fun w2 hm2 hd2 a7 e7 a8 e8 => ?_)
        rw [i1, nI_add] at e7 e8
        subst e7
        subst e8
        exact ih1 w2 (by omega) hm2 (fun i hi => hd2 i (Nat.le_of_lt_succ hi))
  exact r_K_listImage hk0 hp0 hk1 hp1 (key 6 0 w0 (by decide) (OnL.rf _ _) (fun i hi => absurd hi (Nat.not_lt_zero i)))
/-- the reference's list -/
theorem u_ins {p0 n0 p4 c T k : Nat} {x2 x3 x4 : Int32} {w0 : Wd} {K : Wd → Prop} (hk0 : kd p0 = .inl (1, n0)) (hp0 : p0 < Nf 1) (hk4 : kd p4 = .inl (1, 6)) (hp4 : p4 < Nf 1) (h49 : p4 ≠ 39) (hc : c < 6) (hT : T < 2 ^ 63) (h19 : w0.1 39 19 = nI c) : ∀ p F w, p ≤ c → (∀ i, F i < 2 ^ 63) → (∀ i, i ≤ c → i ≠ p → w.2 p4 i = lN (F i)) → OnL p4 w0 w → (∀ w', Mo [p4] [19] w0 w' → w'.1 39 19 = nI (c + 1) → (∀ i, i ≤ c → w'.2 p4 i = lN (ins T p F i)) → E 1 M_B_lists 8 [(0, .ref 39), (1, .ref p0), (2, .int x2), (3, .int x3), (4, .int x4), (5, .ref p4), (6, .int (nI (k + 1)))] [] w' (qV 1 K)) → E 1 M_B_lists 51 [(0, .ref 39), (1, .ref p0), (2, .int x2), (3, .int x3), (4, .int x4), (5, .ref p4), (6, .int (nI k)), (7, .long (lN T)), (9, .int (nI p))] [] w (qV 1 K) := by
  intro p
  induction p with
  | zero =>
    intro F w hp hF hw hm h
    refine w_B_lists_51 hk0 hp0 hk4 hp4 ⟨fun _ => ⟨vp_in_nI (by omega) (by decide), fun w1 e1 w2 e2 a3 e3 => ?_⟩, fun c => absurd (by decide) c⟩
    rw [nI_clamp (by omega)] at e1
    have q1 : w1.1 39 19 = nI c := by rw [e1, upL_1, hm.2]; exact h19
    rw [q1, i1, nI_add] at e2
    rw [i1, nI_add] at e3
    subst e3
    refine h w2 ?_ (by rw [e2, upI_eq]) (fun i hi => ?_)
    · rw [e2, e1]
      exact ((hm.mo.mono (fun _ h => h) (fun _ c => absurd c List.not_mem_nil)).upL _ (Or.inl (List.mem_singleton.mpr rfl))).upI _ (Or.inr (by decide))
    · show w2.2 p4 i = lN (if i = 0 then T else F i)
      rw [e2, upI_2]
      by_cases e : i = 0
      · rw [if_pos e, e1, e, upL_eq]
      · rw [if_neg e, e1, upL_ne (by omega)]
        exact hw i hi e
  | succ p ih =>
    intro F w hp hF hw hm h
    refine w_B_lists_51 hk0 hp0 hk4 hp4 ?_
    rw [show nI (p + 1) - 1 = nI p by rw [i1, pk_sub (by omega), Nat.add_sub_cancel], nI_clamp (by omega), nI_clamp (by omega), hw p (by omega) (by omega), lN_lE (hF p) hT, i0]
    refine pk_le (p + 1) 0 (fun c => by omega) (fun _ => ⟨vp_in_nI (by omega) (by decide), fun cc => ⟨vp_in_nI (by omega) (by decide), fun w1 e1 w2 e2 a3 e3 => ?_⟩, fun cc => ⟨vp_in_nI (by omega) (by decide), vp_in_nI (by omega) (by decide), fun w3 e3 a4 e4 => ?_⟩⟩)
    · have q1 : w1.1 39 19 = nI c := by rw [e1, upL_1, hm.2]; exact h19
      rw [q1, i1, nI_add] at e2
      rw [i1, nI_add] at e3
      subst e3
      refine h w2 ?_ (by rw [e2, upI_eq]) (fun i hi => ?_)
      · rw [e2, e1]
        exact ((hm.mo.mono (fun _ h => h) (fun _ c => absurd c List.not_mem_nil)).upL _ (Or.inl (List.mem_singleton.mpr rfl))).upI _ (Or.inr (by decide))
      · rw [ins, if_pos cc]
        show w2.2 p4 i = lN (if i = p + 1 then T else F i)
        rw [e2, upI_2]
        by_cases e : i = p + 1
        · rw [if_pos e, e1, e, upL_eq]
        · rw [if_neg e, e1, upL_ne (by omega)]
          exact hw i hi e
    · have e5 : a4 = nI p := by
        rw [e4, ← Int32.sub_eq_add_neg, i1, pk_sub (by omega), Nat.add_sub_cancel]
      subst e5
      rw [ins, if_neg cc] at h
      refine ih (upF F (p + 1) (F p)) w3 (by omega) (fun i => ?_) (fun i hi hne => ?_) (by rw [e3]; exact hm.up _ _) h
      · show (if i = p + 1 then F p else F i) < _
        split
        · exact hF p
        · exact hF i
      · show w3.2 p4 i = lN (if i = p + 1 then F p else F i)
        by_cases e : i = p + 1
        · rw [if_pos e, e3, e, upL_eq]
        · rw [if_neg e, e3, upL_ne (by omega)]
          exact hw i hi e
