/-- when two families are alike -/
def sameL (c : Nat) (F G : Nat → Nat) : Prop := ∀ i, i < c → F i = G i
theorem sameL.le {c : Nat} {F G : Nat → Nat} (h : sameL c F G) : leL c F G := by
  have : cpr F G c 0 = 0 := (cpr_0 c 0).mpr (fun i _ hi => h i (by omega))
  unfold leL
  rw [this]
  decide
theorem fK_hom {s : Sg} (hs : WF s) {k : Nat} (hk : k < nAut (sN s) (sM s)) (x y : Nat) : fK s k (gA (sN s) (sM s) x y) = gA (sN s) (sM s) (fK s k x) (fK s k y) := by
  have kz := isAut_z (aut_at hk).2.2
  exact gF_hom hs.1 kz.1 kz.2 x y
theorem push {s : Sg} (hs : WF s) {φ ψ f g : Nat → Nat} {k : Nat} (hk : k < nAut (sN s) (sM s)) (hφ : ∀ x, x < sN s * sM s → φ x < sN s * sM s) (hψ : ∀ x, x < sN s * sM s → ψ x < sN s * sM s) (hc : cF6 f = cF6 g) (h : sameL (cF6 f) (liF (sN s) (sM s) φ f 6).2 (liF (sN s) (sM s) ψ g 6).2) : sameL (cF6 f) (liF (sN s) (sM s) (fun x => fK s k (φ x)) f 6).2 (liF (sN s) (sM s) (fun x => fK s k (ψ x)) g 6).2 :=
  liF_push hs.1 hφ hψ (fK_lt hs k) (fun x y _ _ => fK_hom hs hk x y) hc h
theorem mn_in {c N : Nat} {l : Nat → Nat → Nat} (hN : 0 < N) : ∃ a, a < N ∧ mnL c (l 0) l N = l a := by
  rcases mnL_in (c := c) (F0 := l 0) (l := l) N with h | ⟨i, hi, h⟩
  · exact ⟨0, hN, h⟩
  · exact ⟨i, hi, h⟩
theorem alike {s : Sg} (hs : WF s) {f g : Nat → Nat} (hc : cF6 f = cF6 g) :
    (∃ k, k < nAut (sN s) (sM s) ∧ sameL (cF6 f) (lgK s f k) (liF (sN s) (sM s) iD g 6).2) ↔ sameL (cF6 f) (mnL (cF6 f) (lgK s f 0) (lgK s f) (nAut (sN s) (sM s))) (mnL (cF6 f) (lgK s g 0) (lgK s g) (nAut (sN s) (sM s))) := by
  have n0 := nAut_pos hs.1
  obtain ⟨a, ha, ea⟩ := mn_in (c := cF6 f) (l := lgK s f) n0
  obtain ⟨b, hb, eb⟩ := mn_in (c := cF6 f) (l := lgK s g) n0
  have lf := (mnL_le (c := cF6 f) (F0 := lgK s f 0) (l := lgK s f) (nAut (sN s) (sM s))).2
  have lg := (mnL_le (c := cF6 f) (F0 := lgK s g 0) (l := lgK s g) (nAut (sN s) (sM s))).2
  constructor
  · rintro ⟨k, hk, h⟩
    have to : ∀ l, l < nAut (sN s) (sM s) → ∃ r, r < nAut (sN s) (sM s) ∧ sameL (cF6 f) (lgK s f r) (lgK s g l) := by
      intro l hl
      obtain ⟨r, hr, er⟩ := aut_comp hs hl hk
      refine ⟨r, hr, ?_⟩
      have h2 := push hs hl (fK_lt hs k) (fun x hx => hx) hc h
      show sameL (cF6 f) (liF (sN s) (sM s) (fK s r) f 6).2 _
      rw [liF_cong (φ := fK s r) (ψ := fun x => fK s l (fK s k x)) (fun x _ => er x) 6]
      exact h2
    have fro : ∀ l, l < nAut (sN s) (sM s) → ∃ r, r < nAut (sN s) (sM s) ∧ sameL (cF6 f) (lgK s f l) (lgK s g r) := by
      intro l hl
      obtain ⟨i, hi, ei⟩ := aut_inv hs hk
      obtain ⟨r, hr, er⟩ := aut_comp hs hl hi
      refine ⟨r, hr, ?_⟩
      have h2 := push hs hr (fK_lt hs k) (fun x hx => hx) hc h
      show sameL (cF6 f) (liF (sN s) (sM s) (fK s l) f 6).2 _
      rw [liF_cong (φ := fK s l) (ψ := fun x => fK s r (fK s k x)) (fun x hx => by rw [er, ei x hx]) 6]
      exact h2
    refine leL.anti ?_ ?_
    · obtain ⟨r, hr, er⟩ := to b hb
      rw [eb]
      exact cpr_tr _ _ (lf r hr) er.le
    · obtain ⟨r, hr, er⟩ := fro a ha
      rw [ea]
      exact cpr_tr _ _ (lg r hr) (sameL.le (fun i hi => (er i hi).symm))
  · intro h
    rw [ea, eb] at h
    obtain ⟨i, hi, ei⟩ := aut_inv hs hb
    obtain ⟨r, hr, er⟩ := aut_comp hs hi ha
    refine ⟨r, hr, ?_⟩
    have h2 := push hs hi (fK_lt hs a) (fK_lt hs b) hc h
    show sameL (cF6 f) (liF (sN s) (sM s) (fK s r) f 6).2 _
    rw [liF_cong (φ := fK s r) (ψ := fun x => fK s i (fK s a x)) (fun x _ => er x) 6, liF_cong (φ := iD) (ψ := fun x => fK s i (fK s b x)) (fun x hx => (ei x hx).symm) 6]
    exact h2
/-- the answer -/
def eqB (s : Sg) (g : Nat → Nat) : Bool := decide (cF6 (sBl s) = cF6 g) && decide (cpr (mnL (cF6 g) (lgK s (sBl s) 0) (lgK s (sBl s)) (nAut (sN s) (sM s))) (mnL (cF6 g) (lgK s g 0) (lgK s g) (nAut (sN s) (sM s))) (cF6 g) 0 = 0)
theorem t_alike {s : Sg} {p : Nat} {g : Nat → Nat} {w0 : Wd} {K : Bool → Wd → Prop} (hs : WF s) (hC : CW s w0) (hp : p = 36 ∨ p = 38) (hg : ∀ k, k < 6 → w0.2 p k = lN (g k) ∧ g k < 2 ^ (sN s * sM s)) (h : ∀ w, CW s w → Mo [15, 16, 17] [] w0 w → K (eqB s g) w) : RunZ 1 M_K_areAlike [.ref 14, .ref 10, .ref p] w0 K := by
  have ok := hs.1
  have n480 := nAut_480 ok
  have hk : kd p = .inl (1, 6) := by rcases hp with rfl | rfl <;> rfl
  have hpN : p < Nf 1 := by rcases hp with rfl | rfl <;> decide
  have hc6 : cF6 g ≤ 6 := fb_ct_le _ 6
  have e1 : liF (sN s) (sM s) (gM (sN s) (sM s) 1) g 6 = liF (sN s) (sM s) iD g 6 := liF_cong (fun x hx => gM_1 ok hx) 6
  have hg62 : ∀ i, (liF (sN s) (sM s) iD g 6).2 i < 2 ^ 62 := fun i => by
    have h1 := liF_lt (f := g) ok (φ := iD) (fun x hx => hx) 6 i
    have h40 := pow40 ok.2.2
    omega
  refine r_K_areAlike hk hpN (r_K_listSame hk hpN rfl (by decide) (t_fillMul (t := 1) rfl (by decide) hC.1.1 (by decide) (by decide) (fun w1 hm1 h15 => ?_)))
  have hC1 := hC.on15 hm1
  have hm1o := hm1.mo
  refine t_listImage (f := g) hk hpN rfl (by decide) (by rcases hp with rfl | rfl <;> decide) (by decide) (by decide) (by decide) (by rcases hp with rfl | rfl <;> decide) hC1.1 (fun x _ => gM_lt ok 1 x) h15 (fun k hk => ⟨by rw [(hm1o.pl p (by rcases hp with rfl | rfl <;> decide) (by rcases hp with rfl | rfl <;> decide)).2]; exact (hg k hk).1, (hg k hk).2⟩) (fun w2 hm2 hL2 => ?_)
  have hC2 : CW s w2 := hC1.mo (hm2.mo.mono (by decide) (fun _ c => absurd c List.not_mem_nil))
  have m02 : Mo [15, 16, 17] [] w0 w2 := (hm1o.mono (by decide) (fun _ c => absurd c List.not_mem_nil)).tr (hm2.mo.mono (by decide) (fun _ c => absurd c List.not_mem_nil))
  rw [liF_n]
  refine t_same hs hC2 (Or.inr (Or.inl rfl)) (fun w3 hC3 hm3 hL3 => ?_)
  have m03 : Mo [15, 16, 17] [] w0 w3 := m02.tr (hm3.mono (by decide) (fun _ c => absurd c List.not_mem_nil))
  have h16 : ∀ i, i < cF6 g → w3.2 16 i = lN ((liF (sN s) (sM s) iD g 6).2 i) := fun i hi => by
    rw [(hm3.pl 16 (by decide) (by decide)).2, hL2 i (by rw [liF_n]; exact hi), e1]
  have hu6 := usN_6 s
  refine ⟨fun c => ?_, fun c => ?_⟩
  · have hc : cF6 (sBl s) = cF6 g := nI_inj (by show usN s 6 < _; omega) (by omega) c
    have hN : eqB s g = decide (∃ k, k < nAut (sN s) (sM s) ∧ cpr (lgK s (sBl s) k) (liF (sN s) (sM s) iD g 6).2 (cF6 g) 0 = 0) := by
      unfold eqB
      rw [decide_eq_true hc, Bool.true_and]
      have ha := alike hs hc
      rw [hc] at ha
      apply Bool.eq_iff_iff.mpr
      rw [decide_eq_true_eq, decide_eq_true_eq, cpr_0]
      constructor
      · intro h1
        obtain ⟨k, hk, h2⟩ := ha.mpr (fun i hi => h1 i (Nat.zero_le i) (by omega))
        exact ⟨k, hk, (cpr_0 _ _).mpr (fun i _ hi => h2 i (by omega))⟩
      · rintro ⟨k, hk, h2⟩ i - hi
        exact ha.mp ⟨k, hk, fun i hi => (cpr_0 _ _).mp h2 i (Nat.zero_le i) (by omega)⟩ i (by omega)
    have key : ∀ j k w, k + j = nAut (sN s) (sM s) → CW s w → Mo [15, 16, 17] [] w0 w → (∀ i, i < cF6 g → w.2 16 i = lN ((liF (sN s) (sM s) iD g 6).2 i)) → (∀ i, i < k → cpr (lgK s (sBl s) i) (liF (sN s) (sM s) iD g 6).2 (cF6 g) 0 ≠ 0) → E 1 M_K_areAlike 28 [(0, .ref 14), (1, .ref 10), (3, .int (nI (cF6 g))), (4, .int (nI k))] [] w (qZ 1 K) := by
      intro j
      induction j with
      | zero =>
        intro k w hk hCw hm h16 hno
        refine w_K_areAlike_28 (p1 := 36) rfl (by decide) ?_
        rw [hCw.na]
        refine pk_le (nAut (sN s) (sM s)) k (fun _ => ?_) (fun c => by omega)
        have hf : eqB s g = false := by
          rw [hN]
          exact decide_eq_false (fun ⟨i, hi, e⟩ => hno i (by omega) e)
        rw [← hf]
        exact h w hCw hm
      | succ j ih =>
        intro k w hk hCw hm h16 hno
        refine w_K_areAlike_28 (p1 := 36) rfl (by decide) ?_
        rw [hCw.na]
        refine pk_le (nAut (sN s) (sM s)) k (fun c => by omega) (fun _ => t_fillAut rfl (by decide) hCw.1 (by decide) (by omega) (fun w1 hm1 h15 => t_img hs (hCw.on15 hm1) (Or.inr (Or.inl rfl)) (fK_lt hs k) h15 (fun w2 hC2 hm2 hL2 => ?_)))
        have m2 : Mo [15, 17] [] w w2 := (hm1.mo.mono (by decide) (fun _ c => absurd c List.not_mem_nil)).tr (hm2.mo.mono (by decide) (fun _ c => absurd c List.not_mem_nil))
        have m02 : Mo [15, 16, 17] [] w0 w2 := hm.tr (m2.mono (by decide) (fun _ c => absurd c List.not_mem_nil))
        have h162 : ∀ i, i < cF6 g → w2.2 16 i = lN ((liF (sN s) (sM s) iD g 6).2 i) := fun i hi => by
          rw [(m2.pl 16 (by decide) (by decide)).2]
          exact h16 i hi
        refine t_compare (F := lgK s (sBl s) k) (G := (liF (sN s) (sM s) iD g 6).2) rfl (by decide) rfl (by decide) hc6 (fun i hi => ⟨hL2 i (by rw [liF_n]; exact Nat.lt_of_lt_of_eq hi hc.symm), lgK_62 hs _ k i⟩) (fun i hi => ⟨h162 i hi, hg62 i⟩) ?_
        rw [cpv_0]
        refine ⟨fun c a6 e6 => ?_, fun c => ?_⟩
        · rw [i1, nI_add] at e6
          subst e6
          refine ih (k + 1) w2 (by omega) hC2 m02 h162 (fun i hi => ?_)
          by_cases e : i = k
          · rw [e]; exact c
          · exact hno i (by omega)
        · have hf : eqB s g = true := by
            rw [hN]
            exact decide_eq_true ⟨k, by omega, c⟩
          rw [← hf]
          exact h w2 hC2 m02
    exact key (nAut (sN s) (sM s)) 0 w3 (by omega) hC3 m03 h16 (fun i hi => absurd hi (Nat.not_lt_zero i))
  · have hf : eqB s g = false := by
      unfold eqB
      rw [decide_eq_false (show ¬ cF6 (sBl s) = cF6 g from fun e => c (show nI (usN s 6) = _ from congrArg nI e)), Bool.false_and]
    rw [← hf]
    exact h w3 hC3 m03
theorem op_isEquivalent : Op_isEquivalent INV := by
  rintro a1 w ⟨s, hs⟩
  have hC := hs.2.1
  have ok := hs.1.1
  rcases rg_or 0 1 (by decide) (by decide) a1 with h1 | ⟨q, -, hq, rfl⟩
  · exact glueI (val := -1) (nx := s) hs (r_A_isEquivalent (slF h1 (zf' (sameA hC)))) (fun w1 hM => r_B_isEquivalent (u_inF rfl rfl rfl h1 (zf' (sameB hM)))) hs.1
  have hq2 : q < 2 := by omega
  have hw := hs.1.2.2.2.2.2.2.2.2.2.2.2.2.2 q hq2
  by_cases hf : sFi s q = 0
  · refine glueI (val := -3) (nx := s) hs (r_A_isEquivalent (slT hq2 (zt' ?_))) (fun w1 hM => r_B_isEquivalent (u_inT rfl rfl rfl (Nat.zero_le q) hq (by decide) (zt' ⟨vp_in_nI (by omega) (by decide), ?_⟩))) hs.1
    · rcases (show q = 0 ∨ q = 1 by omega) with rfl | rfl
      · refine sl0 (p35 ⟨fun c => absurd ?_ c, fun _ => sameA hC⟩)
        rw [hC.2.2.2.2.1.1, hf]
        rfl
      · refine sl1 (p37 ⟨fun c => absurd ?_ c, fun _ => sameA hC⟩)
        rw [hC.2.2.2.2.2.1.1, hf]
        rfl
    · rw [nI_clamp (by omega), (hM.2.2.2.2.1 q hq2).1, hf]
      exact ⟨fun c => absurd rfl c, fun _ => sameB hM⟩
  · obtain ⟨hf1, hkh, hkb⟩ := hw.resolve_left hf
    have hu6 := usN_6 s
    have hc6 : cF6 (sKb s q) ≤ 6 := fb_ct_le _ 6
    have fin : ∀ {P : Int32 → Wd → Prop} {w2 : Wd} (z : Bool), (∀ r, r = (if z then 1 else 0 : Int32) → P r w2) → (z = false → P 0 w2) ∧ (z = true → P 1 w2) := fun z hP => ⟨fun e => hP 0 (by rw [e]; rfl), fun e => hP 1 (by rw [e]; rfl)⟩
    refine glueI (val := if eqB s (sKb s q) then 1 else 0) (nx := s) hs (r_A_isEquivalent (slT hq2 (zt' ?_))) (fun w1 hM => r_B_isEquivalent (u_inT rfl rfl rfl (Nat.zero_le q) hq (by decide) (zt' ⟨vp_in_nI (by omega) (by decide), ?_⟩))) hs.1
    · rcases (show q = 0 ∨ q = 1 by omega) with rfl | rfl
      · have hS := hC.2.2.2.2.1
        refine sl0 (p35 ⟨fun _ => sl0 (p35 (t_alike (g := sKb s 0) hs.1 hC (Or.inl rfl) (fun k hk => ⟨(hS.2 hf1).2 k hk, hkb k hk⟩) (fun w2 h2 m2 => fin (P := fun r w1 => r = _ ∧ CW s w1 ∧ Mo allA [] w w1) _ (fun r hr => ⟨hr, h2, m2.mono (by decide) (fun _ c => absurd c List.not_mem_nil)⟩)))), fun c => ?_⟩)
        rw [hS.1, hf1] at c
        exact absurd c (by decide)
      · have hS := hC.2.2.2.2.2.1
        refine sl1 (p37 ⟨fun _ => sl1 (p37 (t_alike (g := sKb s 1) hs.1 hC (Or.inr rfl) (fun k hk => ⟨(hS.2 hf1).2 k hk, hkb k hk⟩) (fun w2 h2 m2 => fin (P := fun r w1 => r = _ ∧ CW s w1 ∧ Mo allA [] w w1) _ (fun r hr => ⟨hr, h2, m2.mono (by decide) (fun _ c => absurd c List.not_mem_nil)⟩)))), fun c => ?_⟩)
        rw [hS.1, hf1] at c
        exact absurd c (by decide)
    · have hS := hM.2.2.2.2.1 q hq2
      rw [nI_clamp (by omega), hS.1, hf1]
      refine ⟨fun _ => u_canon hs.1 hM (fun w3 h3 m3 h19 d3 a4 e4 => ?_), fun c => absurd c (by decide)⟩
      have e7 : (7 : Int32) * nI q = nI (7 * q) := by
        rcases (show q = 0 ∨ q = 1 by omega) with rfl | rfl <;> rfl
      rw [h19] at e4
      subst e4
      rw [e7]
      refine u_canonOf (b := 7 * q) (n0 := 14) (f := sKb s q) hs.1 h3 rfl (by decide) (by decide) (by omega) (Or.inr rfl) (Or.inl rfl) (fun k hk => ⟨?_, hkb k hk⟩) (fun w5 h5 m5 h195 d5 => ?_)
      · rw [(m3.pl 42 (by decide) (by decide)).2]
        exact (hS.2 hf1).2 k hk
      · have m15 : Mo allB [] w1 w5 := (m3.mono (by decide) (fun _ _ => Or.inr (by decide))).tr (m5.mono (by decide) (fun _ _ => Or.inr (by decide)))
        rw [h195]
        refine ⟨fun c => ⟨?_, h5, m15⟩, fun c => ?_⟩
        · unfold eqB
          rw [decide_eq_false (show ¬ cF6 (sBl s) = cF6 (sKb s q) from fun e => c (show nI (usN s 6) = _ from congrArg nI e)), Bool.false_and]
          rfl
        · have hc : cF6 (sBl s) = cF6 (sKb s q) := nI_inj (by show usN s 6 < _; omega) (by omega) c
          refine u_compare (F := mnL (cF6 (sKb s q)) (lgK s (sBl s) 0) (lgK s (sBl s)) (nAut (sN s) (sM s))) (G := mnL (cF6 (sKb s q)) (lgK s (sKb s q) 0) (lgK s (sKb s q)) (nAut (sN s) (sM s))) rfl (by decide) rfl (by decide) hc6 h195 (fun i hi => ⟨?_, mnG_62 hs.1 (lgK_62 hs.1 _ 0) _ i⟩) (fun i hi => ⟨d5 i hi, mnG_62 hs.1 (lgK_62 hs.1 _ 0) _ i⟩) ?_
          · rw [(m5.pl 51 (by decide) (by decide)).2, d3 i (by rw [show usN s 6 = _ from hc]; exact hi), cnA_eq hs.1 i (by rw [show usN s 6 = _ from hc]; exact hi), ← hc]
            rfl
          · rw [cpv_0]
            unfold eqB
            rw [decide_eq_true hc, Bool.true_and]
            refine ⟨fun c2 => ⟨?_, h5, m15⟩, fun c2 => ⟨?_, h5, m15⟩⟩
            · rw [decide_eq_false c2]
              rfl
            · rw [decide_eq_true c2]
              rfl
