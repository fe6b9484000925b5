/-- the developed design: a length and its sets -/
abbrev Dl : Type := Nat × (Nat → Nat)
def lsd (f : Nat → Nat) (T : Nat) : Nat → Nat → Bool
  | 0, _ => false
  | j + 1, a => if f a = T then true else lsd f T j (a + 1)
def dvp (L : Dl) (T : Nat) : Dl := (L.1 + 1, fun i => if i = L.1 then T else L.2 i)
def dvA (n m S : Nat) (L0 : Dl) : Nat → Dl
  | 0 => L0
  | g + 1 => if lsd (dvA n m S L0 g).2 (trS n m S g) ((dvA n m S L0 g).1 - L0.1) L0.1 = true then dvA n m S L0 g else dvp (dvA n m S L0 g) (trS n m S g)
def dv (s : Sg) : Nat → Dl
  | 0 => (0, fun _ => 0)
  | k + 1 => if sBl s k = 0 then dv s k else dvA (sN s) (sM s) (sBl s k) (dv s k) (sN s * sM s)
theorem dvA_len (n m S : Nat) (L0 : Dl) : ∀ g, L0.1 ≤ (dvA n m S L0 g).1 ∧ (dvA n m S L0 g).1 ≤ L0.1 + g
  | 0 => ⟨Nat.le_refl _, Nat.le_refl _⟩
  | g + 1 => by
    have h := dvA_len n m S L0 g
    rw [dvA]
    split
    · exact ⟨h.1, by omega⟩
    · show L0.1 ≤ (dvA n m S L0 g).1 + 1 ∧ (dvA n m S L0 g).1 + 1 ≤ L0.1 + (g + 1)
      omega
theorem dv_len (s : Sg) : ∀ k, (dv s k).1 ≤ k * (sN s * sM s)
  | 0 => Nat.zero_le _
  | k + 1 => by
    have h := dv_len s k
    rw [Nat.succ_mul, dv]
    split
    · omega
    · have := (dvA_len (sN s) (sM s) (sBl s k) (dv s k) (sN s * sM s)).2
      omega
theorem dvA_lt {n m S : Nat} {L0 : Dl} (ok : GOK n m) (h0 : ∀ i, L0.2 i < 2 ^ (n * m)) : ∀ g i, (dvA n m S L0 g).2 i < 2 ^ (n * m)
  | 0, i => h0 i
  | g + 1, i => by
    have h := dvA_lt (S := S) ok h0 g
    rw [dvA]
    split
    · exact h i
    · show (if i = (dvA n m S L0 g).1 then _ else _) < _
      split
      · exact trS_lt ok S g
      · exact h i
theorem dv_lt {s : Sg} (ok : GOK (sN s) (sM s)) : ∀ k i, (dv s k).2 i < 2 ^ (sN s * sM s)
  | 0, _ => Nat.two_pow_pos _
  | k + 1, i => by
    rw [dv]
    split
    · exact dv_lt ok k i
    · exact dvA_lt ok (dv_lt ok k) _ i
/-- the object's design -/
def dW (L : Dl) (w : Wd) : Prop := w.1 19 2 = nI L.1 ∧ ∀ i, i < L.1 → w.2 20 i = lN (L.2 i)
theorem t_listed {L : Dl} {a T : Nat} {w : Wd} {K : Bool → Wd → Prop} (hL : dW L w) (h240 : L.1 ≤ 240) (hlt : ∀ i, L.2 i < 2 ^ 63) (hT : T < 2 ^ 63) : ∀ j a, a + j = L.1 → K (lsd L.2 T j a) w → E 1 M_D_isListedFrom 3 [(0, .ref 19), (2, .long (lN T)), (4, .int (nI a))] [] w (qZ 1 K) := by
  intro j
  induction j with
  | zero =>
    intro a ha h
    refine w_D_isListedFrom_3 ?_
    rw [hL.1]
    exact pk_le L.1 a (fun _ => h) (fun c => by omega)
  | succ j ih =>
    intro a ha h
    refine w_D_isListedFrom_3 ?_
    rw [hL.1, nI_clamp (by omega), hL.2 a (by omega), fb_lN_inj (hlt a) hT]
    rw [lsd] at h
    refine pk_le L.1 a (fun c => by omega) (fun _ => ⟨vp_in_nI (by omega) (by decide), fun c a1 e1 => ?_, fun c => ?_⟩)
    · rw [i1, nI_add] at e1
      subst e1
      rw [if_neg c] at h
      exact ih (a + 1) (by omega) h
    · rw [if_pos c] at h
      exact h
theorem t_addT {n m S : Nat} {L0 : Dl} {w0 : Wd} {K : Wd → Prop} (hG : Gd n m w0) (hS : S < 2 ^ (n * m)) (hL0 : dW L0 w0) (h200 : L0.1 + n * m ≤ 240) (hlt : ∀ i, L0.2 i < 2 ^ (n * m)) (h : ∀ w, Mo [19, 20] [] w0 w → dW (dvA n m S L0 (n * m)) w → K w) : RunV 1 M_D_addTranslates [.ref 19, .long (lN S)] w0 K := by
  have ok := hG.1.1
  have hv := ok.2.2
  have h40 := pow40 hv
  have key : ∀ j g w, g + j = n * m → Mo [19, 20] [] w0 w → dW (dvA n m S L0 g) w → E 1 M_D_addTranslates 11 [(0, .ref 19), (3, .int (nI L0.1)), (4, .long (lN (trS n m S (g % (n * m))))), (6, .int (nI g))] [] w (qV 1 K) := by
    intro j
    induction j with
    | zero =>
      intro g w hg hm hL
      refine w_D_addTranslates_11 ?_
      rw [(hm.pl 1 (by decide) (by decide)).1, hG.1.2.2.2.1]
      refine pk_le (n * m) g (fun _ => h w hm ?_) (fun c => by omega)
      rw [show g = n * m by omega] at hL
      exact hL
    | succ j ih =>
      intro g w hg hm hL
      have hlen := dvA_len n m S L0 g
      have hl2 := dvA_lt (S := S) ok hlt g
      have htr := trS_lt ok S g
      have ih1 := ih (g + 1)
      rw [dvA] at ih1
      rw [Nat.mod_eq_of_lt (by omega)]
      refine w_D_addTranslates_11 ?_
      rw [(hm.pl 1 (by decide) (by decide)).1, hG.1.2.2.2.1]
      refine pk_le (n * m) g (fun c => by omega) (fun _ => r_D_isListedFrom (t_listed (a := 0) hL (by omega) (fun i => by have := hl2 i; omega) (by omega) ((dvA n m S L0 g).1 - L0.1) L0.1 (by omega) ?_))
      cases hb : lsd (dvA n m S L0 g).2 (trS n m S g) ((dvA n m S L0 g).1 - L0.1) L0.1 with
      | true =>
        rw [hb, if_pos rfl] at ih1
        refine zt' (t_onward (hG.mo hm (by decide)) (by omega) (fun a5 e5 => ?_))
        rw [i1, nI_add] at e5
        subst e5
        exact ih1 w (by omega) hm hL
      | false =>
        rw [hb, if_neg (by decide)] at ih1
        rw [hL.1]
        refine zf' ⟨vp_in_nI (by omega) (by decide), fun w6 e6 w7 e7 => ?_⟩
        rw [nI_clamp (by omega)] at e6
        have q6 : w6.1 19 2 = nI (dvA n m S L0 g).1 := by rw [e6, upL_1]; exact hL.1
        rw [q6, i1, nI_add] at e7
        have hm7 : Mo [19, 20] [] w0 w7 := by rw [e7, e6]; exact (hm.upL _ (Or.inl (by decide))).upI _ (Or.inl (by decide))
        refine t_onward (hG.mo hm7 (by decide)) (by omega) (fun a5 e5 => ?_)
        rw [i1, nI_add] at e5
        subst e5
        refine ih1 w7 (by omega) hm7 ⟨?_, fun i hi => ?_⟩
        · rw [e7, upI_eq]
          rfl
        · have hi2 : i < (dvA n m S L0 g).1 + 1 := hi
          rw [e7, upI_2, e6]
          show _ = lN (if i = (dvA n m S L0 g).1 then _ else (dvA n m S L0 g).2 i)
          by_cases e : i = (dvA n m S L0 g).1
          · rw [if_pos e, e, upL_eq]
          · rw [if_neg e, upL_ne (by omega)]
            exact hL.2 i (by omega)
  refine r_D_addTranslates (fun a1 e1 => ?_)
  rw [hL0.1] at e1
  subst e1
  have h0 := key (n * m) 0 w0 (by omega) (Mo.rf _ _ _) hL0
  rw [Nat.zero_mod, trS_0 ok hS] at h0
  exact h0
theorem t_develop {s : Sg} {w0 : Wd} {K : Wd → Prop} (hs : WF s) (hC : CW s w0) (h : ∀ w, CW s w → Mo [19, 20] [] w0 w → dW (dv s 6) w → K w) : RunV 1 M_D_develop [.ref 19, .ref 10] w0 K := by
  have ok := hs.1
  have hv := ok.2.2
  have h40 := pow40 hv
  have key : ∀ j k w, k + j = 6 → Mo [19, 20] [] w0 w → dW (dv s k) w → E 1 M_D_develop 7 [(0, .ref 19), (1, .ref 10), (2, .int (nI k))] [] w (qV 1 K) := by
    intro j
    induction j with
    | zero =>
      intro k w hk hm hL
      refine w_D_develop_7 (pk_le 6 k (fun _ => ?_) (fun c => by omega))
      rw [show k = 6 by omega] at hL
      exact h w (hC.mo (hm.mono (by decide) (fun _ c => absurd c List.not_mem_nil))) hm hL
    | succ j ih =>
      intro k w hk hm hL
      have hb := hs.bl (k := k) (by omega)
      have hlen := dv_len s k
      have hkm : k * (sN s * sM s) ≤ 5 * (sN s * sM s) := Nat.mul_le_mul_right _ (by omega)
      have ih1 := ih (k + 1)
      rw [dv] at ih1
      refine w_D_develop_7 (pk_le 6 k (fun c => by omega) (fun _ => ⟨vp_in_nI (by omega) (by decide), ?_⟩))
      rw [nI_clamp (by omega), (hm.pl 10 (by decide) (by decide)).2, hC.2.2.1 k (by omega), lN_0 (by omega)]
      refine ⟨fun c a1 e1 => ?_, fun c => ⟨vp_in_nI (by omega) (by decide), t_addT (hC.1.mo hm (by decide)) hb hL (by omega) (dv_lt ok k) (fun w2 hm2 hL2 a3 e3 => ?_)⟩⟩
      · rw [i1, nI_add] at e1
        subst e1
        rw [if_pos c] at ih1
        exact ih1 w (by omega) hm hL
      · rw [i1, nI_add] at e3
        subst e3
        rw [if_neg c] at ih1
        exact ih1 w2 (by omega) (hm.tr hm2) hL2
  refine r_D_develop (fun w1 e1 => key 6 0 w1 (by decide) ?_ ⟨?_, fun i hi => absurd hi (Nat.not_lt_zero i)⟩)
  · rw [e1]
    exact (Mo.rf _ _ w0).upI _ (Or.inl (by decide))
  · rw [e1, upI_eq]
    rfl
/-- the reference's design -/
def eW (L : Dl) (w : Wd) : Prop := w.1 39 23 = nI L.1 ∧ ∀ i, i < L.1 → w.2 52 i = lN (L.2 i)
theorem u_dev_l {L : Dl} {T k g x2 : Nat} {w : Wd} {K : Wd → Prop} (hL : eW L w) (h240 : L.1 ≤ 240) (hlt : ∀ i, L.2 i < 2 ^ 63) (hT : T < 2 ^ 63) : ∀ j a, a + j = L.1 →
    ((if lsd L.2 T j a = true then E 1 M_B_develops 20 [(0, .ref 39), (1, .int (nI k)), (2, .int (nI x2)), (3, .int (nI (g + 1)))] [] w (qV 1 K) else vp_in (nI L.1) 240 ∧ ∀ w2 : Wd, w2 = upL w 52 L.1 (lN T) → ∀ w3 : Wd, w3 = upI w2 39 23 (nI (L.1 + 1)) → E 1 M_B_develops 20 [(0, .ref 39), (1, .int (nI k)), (2, .int (nI x2)), (3, .int (nI (g + 1)))] [] w3 (qV 1 K)) → E 1 M_B_develops 58 [(0, .ref 39), (1, .int (nI k)), (2, .int (nI x2)), (3, .int (nI g)), (4, .long (lN T)), (6, .int 1), (7, .int (nI a))] [] w (qV 1 K))
    ∧ (E 1 M_B_develops 20 [(0, .ref 39), (1, .int (nI k)), (2, .int (nI x2)), (3, .int (nI (g + 1)))] [] w (qV 1 K) → E 1 M_B_develops 58 [(0, .ref 39), (1, .int (nI k)), (2, .int (nI x2)), (3, .int (nI g)), (4, .long (lN T)), (6, .int 0), (7, .int (nI a))] [] w (qV 1 K)) := by
  intro j
  induction j with
  | zero =>
    intro a ha
    refine ⟨fun h => ?_, fun h => ?_⟩
    · refine w_B_develops_58 ?_
      rw [hL.1]
      refine pk_le L.1 a (fun _ => ⟨fun c => absurd c (by decide), fun _ => ?_⟩) (fun c => by omega)
      have h2 : vp_in (nI L.1) 240 ∧ _ := h
      refine ⟨h2.1, fun w2 e2 w3 e3 a4 e4 => ?_⟩
      rw [nI_clamp (by omega)] at e2
      have q2 : w2.1 39 23 = nI L.1 := by rw [e2, upL_1]; exact hL.1
      rw [q2, i1, nI_add] at e3
      rw [i1, nI_add] at e4
      subst e4
      exact h2.2 w2 e2 w3 e3
    · refine w_B_develops_58 ?_
      rw [hL.1]
      refine pk_le L.1 a (fun _ => ⟨fun _ a4 e4 => ?_, fun c => absurd rfl c⟩) (fun c => by omega)
      rw [i1, nI_add] at e4
      subst e4
      exact h
  | succ j ih =>
    intro a ha
    have ih1 := ih (a + 1) (by omega)
    refine ⟨fun h => ?_, fun h => ?_⟩
    · refine w_B_develops_58 ?_
      rw [hL.1, nI_clamp (by omega), nI_clamp (by omega), hL.2 a (by omega), fb_lN_inj (hlt a) hT]
      rw [lsd] at h
      refine pk_le L.1 a (fun c => by omega) (fun _ => ⟨fun c => absurd c (by decide), fun _ => ⟨vp_in_nI (by omega) (by decide), fun c a6 e6 => ?_, fun c a6 e6 => ?_⟩⟩)
      · rw [i1, nI_add] at e6
        subst e6
        rw [if_pos c, if_pos rfl] at h
        exact ih1.2 h
      · rw [i1, nI_add] at e6
        subst e6
        rw [if_neg c] at h
        exact ih1.1 h
    · refine w_B_develops_58 ?_
      rw [hL.1]
      refine pk_le L.1 a (fun c => by omega) (fun _ => ⟨fun _ a6 e6 => ?_, fun c => absurd rfl c⟩)
      rw [i1, nI_add] at e6
      subst e6
      exact ih1.2 h
theorem u_dev_g {s : Sg} {k : Nat} {L0 : Dl} {w0 : Wd} {K : Wd → Prop} (hs : WF s) (hM : MW s w0) (hk : k < 6) (h0 : sBl s k ≠ 0) (h200 : L0.1 + sN s * sM s ≤ 240) (hlt : ∀ i, L0.2 i < 2 ^ (sN s * sM s)) (h : ∀ w, Mo [52] [23] w0 w → eW (dvA (sN s) (sM s) (sBl s k) L0 (sN s * sM s)) w → E 1 M_B_develops 7 [(0, .ref 39), (1, .int (nI (k + 1)))] [] w (qV 1 K)) :
    ∀ j g w, g + j = sN s * sM s → Mo [52] [23] w0 w → eW (dvA (sN s) (sM s) (sBl s k) L0 g) w → E 1 M_B_develops 20 [(0, .ref 39), (1, .int (nI k)), (2, .int (nI L0.1)), (3, .int (nI g))] [] w (qV 1 K) := by
  have ok := hs.1
  have hv := ok.2.2
  have h40 := pow40 hv
  have hb := hs.bl hk
  intro j
  induction j with
  | zero =>
    intro g w hg hm hL
    refine w_B_develops_20 ?_
    rw [(hm.sl 2 (by decide) (by decide)).1, hM.1.1.2.2.2]
    refine pk_le (sN s * sM s) g (fun _ a1 e1 => ?_) (fun c => by omega)
    rw [i1, nI_add] at e1
    subst e1
    rw [show g = sN s * sM s by omega] at hL
    exact h w hm hL
  | succ j ih =>
    intro g w hg hm hL
    have hlen := dvA_len (sN s) (sM s) (sBl s k) L0 g
    have hl2 := dvA_lt (S := sBl s k) ok hlt g
    have htr := trS_lt ok (sBl s k) g
    have ih1 := ih (g + 1)
    rw [dvA] at ih1
    have hMw : MW s w := hM.mo (hm.mono (by decide) (by decide))
    refine w_B_develops_20 ?_
    rw [hMw.1.1.2.2.2, nI_clamp (by omega), hMw.2.2.1 k hk, lN_0 (by omega)]
    refine pk_le (sN s * sM s) g (fun c => by omega) (fun _ => ⟨vp_in_nI hk (by decide), fun c => absurd c h0, fun _ => ⟨vp_in_nI hk (by decide), u_translate hMw.1.1 (by omega) (by omega) ?_⟩⟩)
    refine (u_dev_l (T := trS (sN s) (sM s) (sBl s k) g) hL (by omega) (fun i => by have := hl2 i; omega) (by omega) ((dvA (sN s) (sM s) (sBl s k) L0 g).1 - L0.1) L0.1 (by omega)).1 ?_
    cases hbb : lsd (dvA (sN s) (sM s) (sBl s k) L0 g).2 (trS (sN s) (sM s) (sBl s k) g) ((dvA (sN s) (sM s) (sBl s k) L0 g).1 - L0.1) L0.1 with
    | true =>
      rw [hbb, if_pos rfl] at ih1
      rw [if_pos rfl]
      exact ih1 w (by omega) hm hL
    | false =>
      rw [hbb, if_neg (by decide)] at ih1
      rw [if_neg (by decide)]
      refine ⟨vp_in_nI (by omega) (by decide), fun w2 e2 w3 e3 => ih1 w3 (by omega) ?_ ⟨?_, fun i hi => ?_⟩⟩
      · rw [e3, e2]
        exact (hm.upL _ (Or.inl (by decide))).upI _ (Or.inr (by decide))
      · rw [e3, upI_eq]
        rfl
      · have hi2 : i < (dvA (sN s) (sM s) (sBl s k) L0 g).1 + 1 := hi
        rw [e3, upI_2, e2]
        show _ = lN (if i = (dvA (sN s) (sM s) (sBl s k) L0 g).1 then _ else (dvA (sN s) (sM s) (sBl s k) L0 g).2 i)
        by_cases e : i = (dvA (sN s) (sM s) (sBl s k) L0 g).1
        · rw [if_pos e, e, upL_eq]
        · rw [if_neg e, upL_ne (by omega)]
          exact hL.2 i (by omega)
theorem u_develop {s : Sg} {w0 : Wd} {K : Wd → Prop} (hs : WF s) (hM : MW s w0) (h : ∀ w, MW s w → Mo [52] [23] w0 w → eW (dv s 6) w → K w) : RunV 1 M_B_develops [.ref 39] w0 K := by
  have ok := hs.1
  have hv := ok.2.2
  have h40 := pow40 hv
  have hv0 := ok.v0
  have key : ∀ j k w, k + j = 6 → Mo [52] [23] w0 w → eW (dv s k) w → E 1 M_B_develops 7 [(0, .ref 39), (1, .int (nI k))] [] w (qV 1 K) := by
    intro j
    induction j with
    | zero =>
      intro k w hk hm hL
      refine w_B_develops_7 (pk_le 6 k (fun _ => ?_) (fun c => by omega))
      rw [show k = 6 by omega] at hL
      exact h w (hM.mo (hm.mono (by decide) (by decide))) hm hL
    | succ j ih =>
      intro k w hk hm hL
      have hb := hs.bl (k := k) (by omega)
      have hlen := dv_len s k
      have hkm : k * (sN s * sM s) ≤ 5 * (sN s * sM s) := Nat.mul_le_mul_right _ (by omega)
      have hMw : MW s w := hM.mo (hm.mono (by decide) (by decide))
      have ih1 := ih (k + 1)
      rw [dv] at ih1
      refine w_B_develops_7 (pk_le 6 k (fun c => by omega) (fun _ a1 e1 => ?_))
      rw [hL.1] at e1
      subst e1
      by_cases h0 : sBl s k = 0
      · rw [if_pos h0] at ih1
        refine w_B_develops_20 ?_
        rw [hMw.1.1.2.2.2, nI_clamp (by omega), hMw.2.2.1 k (by omega), lN_0 (by omega)]
        refine pk_le (sN s * sM s) 0 (fun c => by omega) (fun _ => ⟨vp_in_nI (by omega) (by decide), fun _ a2 e2 => ?_, fun c => absurd h0 c⟩)
        rw [i1, nI_add] at e2
        subst e2
        exact ih1 w (by omega) hm hL
      · rw [if_neg h0] at ih1
        exact u_dev_g hs hMw (by omega) h0 (by omega) (dv_lt ok k) (fun w2 hm2 hL2 => ih1 w2 (by omega) (hm.tr hm2) hL2) (sN s * sM s) 0 w (by omega) (Mo.rf _ _ _) hL
  refine r_B_develops (fun w1 e1 => key 6 0 w1 (by decide) ?_ ⟨?_, fun i hi => absurd hi (Nat.not_lt_zero i)⟩)
  · rw [e1]
    exact (Mo.rf _ _ w0).upI _ (Or.inr (by decide))
  · rw [e1, upI_eq]
    rfl
theorem op_designBlocks : Op_designBlocks INV := by
  rintro w ⟨s, hs⟩
  have hC := hs.2.1
  exact glueI (val := nI (dv s 6).1) (nx := s) hs (r_A_designBlocks (t_develop hs.1 hC (fun w2 h2 m2 d2 => ⟨d2.1, h2, m2.mono (by decide) (fun _ c => absurd c List.not_mem_nil)⟩))) (fun w1 hM => r_B_designBlocks (u_develop hs.1 hM (fun w2 h2 m2 d2 => ⟨d2.1, h2, m2.mono (by decide) (fun _ _ => Or.inr (by decide))⟩))) hs.1
