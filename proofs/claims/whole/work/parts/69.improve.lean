/-- improve: the trials in their order -/
abbrev tS (s : Sg) (k S : Nat) : Sg := st2 s 0 (bk s k S)
abbrev xS (s : Sg) (k x y : Nat) : Nat := ((sBl s k) ^^^ 2 ^ x) ^^^ 2 ^ y
def imT (s : Sg) (t k x y : Nat) (b : Nat × Nat × Nat) : Nat × Nat × Nat := if (sBl s k).testBit y = true then b else if b.1 ≤ lk (tS s k (xS s k x y)) t then b else (lk (tS s k (xS s k x y)) t, k + 1, xS s k x y)
def imY (s : Sg) (t k x : Nat) (b : Nat × Nat × Nat) : Nat → Nat × Nat × Nat
  | 0 => b
  | y + 1 => imT s t k x y (imY s t k x b y)
def imX (s : Sg) (t k : Nat) (b : Nat × Nat × Nat) : Nat → Nat × Nat × Nat
  | 0 => b
  | x + 1 => if (sBl s k).testBit x = true then imY s t k x (imX s t k b x) (sN s * sM s) else imX s t k b x
def imK (s : Sg) (t : Nat) : Nat → Nat × Nat × Nat
  | 0 => (lk s t, 0, 0)
  | k + 1 => imX s t k (imK s t k) (sN s * sM s)
def okB (s : Sg) (t : Nat) (b : Nat × Nat × Nat) : Prop := (b.2.1 = 0 ∧ b.1 = lk s t) ∨ (b.2.1 ≠ 0 ∧ b.1 < lk s t ∧ b.2.1 ≤ 6 ∧ b.2.2 < 2 ^ (sN s * sM s))
theorem okB.le {s : Sg} {t : Nat} {b : Nat × Nat × Nat} (h : okB s t b) : b.1 ≤ lk s t := by
  rcases h with h | h
  · exact Nat.le_of_eq h.2
  · exact Nat.le_of_lt h.2.1
theorem xS_lt {s : Sg} (h : WF s) {k x y : Nat} (hk : k < 6) (hx : x < sN s * sM s) (hy : y < sN s * sM s) : xS s k x y < 2 ^ (sN s * sM s) := xor_lt (xor_lt (h.bl hk) hx) hy
theorem imT_ok {s : Sg} {t k x y : Nat} {b : Nat × Nat × Nat} (hs : WF s) (hk : k < 6) (hx : x < sN s * sM s) (hy : y < sN s * sM s) (h : okB s t b) : okB s t (imT s t k x y b) := by
  unfold imT
  split
  · exact h
  · split
    · exact h
    · have := h.le
      refine Or.inr ⟨Nat.succ_ne_zero k, ?_, by show k + 1 ≤ 6; omega, xS_lt hs hk hx hy⟩
      show lk (tS s k (xS s k x y)) t < lk s t
      omega
theorem imY_ok {s : Sg} {t k x : Nat} {b : Nat × Nat × Nat} (hs : WF s) (hk : k < 6) (hx : x < sN s * sM s) (h : okB s t b) : ∀ y, y ≤ sN s * sM s → okB s t (imY s t k x b y)
  | 0, _ => h
  | y + 1, hy => imT_ok hs hk hx (by omega) (imY_ok hs hk hx h y (by omega))
theorem imX_ok {s : Sg} {t k : Nat} {b : Nat × Nat × Nat} (hs : WF s) (hk : k < 6) (h : okB s t b) : ∀ x, x ≤ sN s * sM s → okB s t (imX s t k b x)
  | 0, _ => h
  | x + 1, hx => by
    have h1 := imX_ok hs hk h x (by omega)
    rw [imX]
    split
    · exact imY_ok hs hk (by omega) h1 _ (Nat.le_refl _)
    · exact h1
theorem imK_ok {s : Sg} {t : Nat} (hs : WF s) : ∀ k, k ≤ 6 → okB s t (imK s t k)
  | 0, _ => Or.inl ⟨rfl, rfl⟩
  | k + 1, hk => imX_ok hs (by omega) (imK_ok hs k (by omega)) _ (Nat.le_refl _)
theorem lkD_le {ho t B : Nat} {c : Nat → Nat} (h : ∀ d, c d ≤ B) (ht : t ≤ B) (k : Nat) : lkD ho t c k ≤ B := by
  have := h k
  unfold lkD
  split
  · exact Nat.zero_le B
  · split
    · exact this
    · split <;> omega
theorem lkF_le {ho t B : Nat} {c : Nat → Nat} (h : ∀ d, c d ≤ B) (ht : t ≤ B) : ∀ k, lkF ho t c k ≤ k * B
  | 0 => Nat.zero_le _
  | k + 1 => by
    have h1 := lkF_le (ho := ho) h ht k
    have h2 := lkD_le (ho := ho) h ht k
    rw [lkF, Nat.succ_mul]
    omega
theorem lk_le {s : Sg} (hs : WF s) {t : Nat} (ht : t ≤ 20) : lk s t ≤ 9600 := by
  have h1 := lkF_le (ho := sHo s) (t := t) (B := 240) (c := cn s) (cn_le hs) (by omega) (sN s * sM s)
  have := hs.1.2.2
  show lkF _ _ _ _ ≤ _
  omega
theorem WF.tr {s : Sg} (h : WF s) {k S : Nat} (hS : S < 2 ^ (sN s * sM s)) : WF (tS s k S) := by
  have hb := bk_lt h (k := k) hS
  obtain ⟨a, b, c, d, e, f1, g, i, j, k1, l, m, n, o⟩ := h
  exact ⟨a, b, c, d, e, f1, g, i, j, hb, l, m, n, wS.eq (s := s) o (fun q hq => ⟨rfl, rfl, st2_ne (by omega)⟩) rfl rfl⟩
theorem ctF_bk_lo {n m k S d : Nat} {s : Sg} : ∀ c, c ≤ k → ctF n m (bk s k S) c d = ctF n m (sBl s) c d
  | 0, _ => rfl
  | c + 1, hc => by
    rw [ctF, ctF, ctF_bk_lo c (by omega), show bk s k S c = sBl s c from if_neg (by omega)]
theorem ctF_bk {n m k S d : Nat} {s : Sg} : ∀ c, k < c → ctF n m (bk s k S) c d + dc n m (sBl s k) d (n * m) = ctF n m (sBl s) c d + dc n m S d (n * m)
  | 0, hc => absurd hc (Nat.not_lt_zero k)
  | c + 1, hc => by
    rw [ctF, ctF]
    rcases Nat.lt_or_ge k c with h | h
    · have := ctF_bk (n := n) (m := m) (S := S) (d := d) (s := s) c h
      rw [show bk s k S c = sBl s c from if_neg (by omega)]
      omega
    · have e : c = k := by omega
      subst e
      rw [ctF_bk_lo c (Nat.le_refl c), show bk s c S c = S from if_pos rfl]
      omega
theorem dc_ctF {n m k d : Nat} {f : Nat → Nat} : ∀ c, k < c → dc n m (f k) d (n * m) ≤ ctF n m f c d
  | 0, hc => absurd hc (Nat.not_lt_zero k)
  | c + 1, hc => by
    rw [ctF]
    rcases Nat.lt_or_ge k c with h | h
    · have := dc_ctF (n := n) (m := m) (d := d) (f := f) c h
      omega
    · have e : c = k := by omega
      subst e
      omega
theorem nI_m1 {a b : Nat} (h : b ≤ a) : nI a + (-1) * nI b = nI (a - b) := by
  rw [← pk_sub h, Int32.sub_eq_add_neg, Int32.neg_mul, Int32.one_mul]
/-- the object's side -/
def XW (b : Nat × Nat × Nat) (w : Wd) : Prop := w.1 13 4 = nI b.1 ∧ (b.2.1 ≠ 0 → w.1 13 2 = nI (b.2.1 - 1) ∧ w.2 13 3 = lN b.2.2)
def cR (s : Sg) (k d : Nat) : Nat := cn s d - dc (sN s) (sM s) (sBl s k) d (sN s * sM s)
theorem or_xor {A y : Nat} (h : A.testBit y = false) : A ||| 2 ^ y = A ^^^ 2 ^ y := by
  apply Nat.eq_of_testBit_eq
  intro i
  rw [Nat.testBit_or, Nat.testBit_xor, Nat.testBit_two_pow]
  by_cases e : y = i
  · subst e
    rw [h, decide_eq_true rfl]
    rfl
  · rw [decide_eq_false e]
    cases A.testBit i <;> rfl
theorem t_tryFor {s : Sg} {t k x : Nat} {b0 : Nat × Nat × Nat} {w0 : Wd} {K : Wd → Prop} (hs : WF s) (hC : CW s w0) (ht : t ≤ 20) (hk : k < 6) (hx : x < sN s * sM s) (hbx : (sBl s k).testBit x = true) (hb0 : okB s t b0) (h9 : ∀ d, d < 40 → w0.1 9 d = nI (cR s k d)) (hX0 : XW b0 w0) (h : ∀ w, Mo [13] [] w0 w → XW (imY s t k x b0 (sN s * sM s)) w → K w) :
    RunV 1 M_X_tryFor [.ref 13, .int (nI k), .long (lN (sBl s k ^^^ 2 ^ x)), .long (lN (sBl s k)), .long (lN (sHo s)), .int (nI t)] w0 K := by
  have ok := hs.1
  have hv := ok.2.2
  have h40 := pow40 hv
  have hb := hs.bl hk
  have key : ∀ j y w, y + j = sN s * sM s → Mo [13] [] w0 w → XW (imY s t k x b0 y) w → E 1 M_X_tryFor 3 [(0, .ref 13), (1, .int (nI k)), (2, .long (lN (sBl s k ^^^ 2 ^ x))), (4, .long (lN (sBl s k))), (6, .long (lN (sHo s))), (8, .int (nI t)), (9, .int (nI y))] [] w (qV 1 K) := by
    intro j
    induction j with
    | zero =>
      intro y w hy hm hX
      refine w_X_tryFor_3 ?_
      rw [(hm.pl 1 (by decide) (by decide)).1, hC.1.1.2.2.2.1]
      refine pk_le (sN s * sM s) y (fun _ => h w hm ?_) (fun c => by omega)
      rw [show y = sN s * sM s by omega] at hX
      exact hX
    | succ j ih =>
      intro y w hy hm hX
      have hyv : y < sN s * sM s := by omega
      have okb := imY_ok hs hk hx hb0 y (by omega)
      have hle := okb.le
      have hlk := lk_le hs ht
      have hxl := xS_lt hs hk hx hyv
      have hlk2 := lk_le (s := tS s k (xS s k x y)) (hs.tr hxl) ht
      have ih1 := ih (y + 1)
      rw [imY] at ih1
      unfold imT at ih1
      refine w_X_tryFor_3 ?_
      rw [(hm.pl 1 (by decide) (by decide)).1, hC.1.1.2.2.2.1]
      refine pk_le (sN s * sM s) y (fun c => by omega) (fun _ => t_holds (by omega) (by omega) ?_)
      cases hby : (sBl s k).testBit y with
      | true =>
        rw [hby, if_pos rfl] at ih1
        refine zt' (fun a3 e3 => ?_)
        rw [i1, nI_add] at e3
        subst e3
        exact ih1 w (by omega) hm hX
      | false =>
        rw [hby, if_neg (by decide)] at ih1
        have hxy : x ≠ y := fun e => by rw [e, hby] at hbx; cases hbx
        have hor : (sBl s k ^^^ 2 ^ x) ||| 2 ^ y = xS s k x y := by
          refine or_xor ?_
          rw [Nat.testBit_xor, hby, Nat.testBit_two_pow, decide_eq_false hxy]
          rfl
        rw [l_pow (by omega), fb_orL, hor]
        refine zf' (t_lackW (S := xS s k x y) (c := cR s k) hs (hC.1.mo hm (by decide)) hxl (by omega) (fun d hd => ⟨by rw [(hm.pl 9 (by decide) (by decide)).1]; exact h9 d hd, by have := cn_le hs d; unfold cR; omega⟩) ?_)
        rw [lkF_cong (c' := cn (tS s k (xS s k x y))) (fun d _ _ => ?_), hX.1]
        · refine pk_le (imY s t k x b0 y).1 (lk (tS s k (xS s k x y)) t) (fun c a6 e6 => ?_) (fun c w7 e7 w8 e8 w9 e9 a10 e10 => ?_)
          · rw [i1, nI_add] at e6
            subst e6
            rw [if_pos c] at ih1
            exact ih1 w (by omega) hm hX
          · rw [i1, nI_add] at e10
            subst e10
            rw [if_neg (by omega)] at ih1
            refine ih1 w9 (by omega) ?_ ⟨?_, fun _ => ⟨?_, ?_⟩⟩
            · rw [e9, e8, e7]
              exact ((hm.upI _ (Or.inl (by decide))).upI _ (Or.inl (by decide))).upL _ (Or.inl (by decide))
            · rw [e9, upL_1, e8, upI_ne (by decide), e7, upI_eq]
              rfl
            · rw [e9, upL_1, e8, upI_eq]
              rfl
            · rw [e9, upL_eq]
        · have h1 := ctF_bk (n := sN s) (m := sM s) (S := xS s k x y) (d := d) (s := s) 6 hk
          have h2 := dc_ctF (n := sN s) (m := sM s) (d := d) (f := sBl s) 6 hk
          show ctF (sN s) (sM s) (sBl s) 6 d - dc (sN s) (sM s) (sBl s k) d (sN s * sM s) + dc (sN s) (sM s) (xS s k x y) d (sN s * sM s) = ctF (sN s) (sM s) (bk s k (xS s k x y)) 6 d
          omega
  exact r_X_tryFor (key (sN s * sM s) 0 w0 (by omega) (Mo.rf _ _ _) hX0)
theorem t_tryAll {s : Sg} {t k : Nat} {b0 : Nat × Nat × Nat} {w0 : Wd} {K : Wd → Prop} (hs : WF s) (hC : CW s w0) (ht : t ≤ 20) (hk : k < 6) (hb0 : okB s t b0) (h9 : ∀ d, d < 40 → w0.1 9 d = nI (cR s k d)) (hX0 : XW b0 w0) (h : ∀ w, Mo [13] [] w0 w → XW (imX s t k b0 (sN s * sM s)) w → K w) :
    RunV 1 M_X_tryAll [.ref 13, .int (nI k), .long (lN (sBl s k)), .long (lN (sHo s)), .int (nI t)] w0 K := by
  have ok := hs.1
  have hv := ok.2.2
  have h40 := pow40 hv
  have hb := hs.bl hk
  have key : ∀ j x w, x + j = sN s * sM s → Mo [13] [] w0 w → XW (imX s t k b0 x) w → E 1 M_X_tryAll 3 [(0, .ref 13), (1, .int (nI k)), (2, .long (lN (sBl s k))), (4, .long (lN (sHo s))), (6, .int (nI t)), (7, .int (nI x))] [] w (qV 1 K) := by
    intro j
    induction j with
    | zero =>
      intro x w hx hm hX
      refine w_X_tryAll_3 ?_
      rw [(hm.pl 1 (by decide) (by decide)).1, hC.1.1.2.2.2.1]
      refine pk_le (sN s * sM s) x (fun _ => h w hm ?_) (fun c => by omega)
      rw [show x = sN s * sM s by omega] at hX
      exact hX
    | succ j ih =>
      intro x w hx hm hX
      have hxv : x < sN s * sM s := by omega
      have okb := imX_ok hs hk hb0 x (by omega)
      have ih1 := ih (x + 1)
      rw [imX] at ih1
      refine w_X_tryAll_3 ?_
      rw [(hm.pl 1 (by decide) (by decide)).1, hC.1.1.2.2.2.1]
      refine pk_le (sN s * sM s) x (fun c => by omega) (fun _ => t_holds (by omega) (by omega) ?_)
      cases hbx : (sBl s k).testBit x with
      | false =>
        rw [hbx, if_neg (by decide)] at ih1
        refine zf (fun a3 e3 => ?_)
        rw [i1, nI_add] at e3
        subst e3
        exact ih1 w (by omega) hm hX
      | true =>
        rw [hbx, if_pos rfl] at ih1
        rw [l_pow (by omega), l_xor1, fb_andL, clr_bit (by omega) (by omega) hbx]
        refine zt (t_tryFor hs (hC.mo (hm.mono (by decide) (fun _ c => absurd c List.not_mem_nil))) ht hk hxv hbx okb (fun d hd => by rw [(hm.pl 9 (by decide) (by decide)).1]; exact h9 d hd) hX (fun w4 hm4 hX4 a5 e5 => ?_))
        rw [i1, nI_add] at e5
        subst e5
        exact ih1 w4 (by omega) (hm.tr hm4) hX4
  exact r_X_tryAll (key (sN s * sM s) 0 w0 (by omega) (Mo.rf _ _ _) hX0)
theorem t_findBest {s : Sg} {t : Nat} {w0 : Wd} {K : Bool → Wd → Prop} (hs : WF s) (hC : CW s w0) (ht : t ≤ 20) (h : ∀ w, Mo [9, 13] [] w0 w → XW (imK s t 6) w → K (decide ((imK s t 6).2.1 ≠ 0)) w) :
    RunZ 1 M_X_findBest [.ref 13, .ref 10, .long (lN (sHo s)), .int (nI t)] w0 K := by
  have ok := hs.1
  have hv := ok.2.2
  have h40 := pow40 hv
  have hlk := lk_le hs ht
  have key : ∀ j k w, k + j = 6 → Mo [9, 13] [] w0 w → (∀ d, d < 40 → w.1 9 d = nI (cn s d)) → XW (imK s t k) w → E 1 M_X_findBest 29 [(0, .ref 13), (1, .ref 10), (2, .long (lN (sHo s))), (4, .int (nI t)), (5, .int (nI (lk s t))), (6, .int (nI k))] [] w (qZ 1 K) := by
    intro j
    induction j with
    | zero =>
      intro k w hk hm h9 hX
      rw [show k = 6 by omega] at hX
      have okb := imK_ok (t := t) hs 6 (Nat.le_refl 6)
      have hle := okb.le
      have hfin := h w hm hX
      refine w_X_findBest_29 (pk_le 6 k (fun _ => ?_) (fun c => by omega))
      rw [hX.1]
      refine pk_le (lk s t) (imK s t 6).1 (fun c => ?_) (fun c => ?_)
      · rcases okb with h1 | h1
        · rw [decide_eq_false (fun c2 => c2 h1.1)] at hfin
          exact hfin
        · omega
      · rcases okb with h1 | h1
        · omega
        · rw [decide_eq_true h1.1] at hfin
          exact hfin
    | succ j ih =>
      intro k w hk hm h9 hX
      have hk6 : k < 6 := by omega
      have hb := hs.bl hk6
      have okb := imK_ok (t := t) hs k (by omega)
      have hCw : CW s w := hC.mo (hm.mono (by decide) (fun _ c => absurd c List.not_mem_nil))
      refine w_X_findBest_29 (pk_le 6 k (fun c => by omega) (fun _ => ⟨vp_in_nI hk6 (by decide), ?_⟩))
      rw [nI_clamp (by omega), hCw.2.2.1 k hk6]
      refine t_addC hCw.1 hb (fun w1 hm1 h91 => ⟨vp_in_nI hk6 (by decide), ?_⟩)
      have hCw1 : CW s w1 := hCw.mo (hm1.mo.mono (by decide) (fun _ c => absurd c List.not_mem_nil))
      rw [hCw1.2.2.1 k hk6]
      refine t_tryAll hs hCw1 ht hk6 okb (fun d hd => ?_) ?_ (fun w2 hm2 hX2 => ⟨vp_in_nI hk6 (by decide), ?_⟩)
      · rw [h91 d hd, h9 d hd, nI_m1 (dc_ctF 6 hk6)]
        rfl
      · have k13 : w1.1 13 = w.1 13 := hm1.1 13 (by decide)
        unfold XW
        rw [k13, hm1.2]
        exact hX
      · have hCw2 : CW s w2 := hCw1.mo (hm2.mono (by decide) (fun _ c => absurd c List.not_mem_nil))
        rw [hCw2.2.2.1 k hk6]
        refine t_addC hCw2.1 hb (fun w3 hm3 h93 a4 e4 => ?_)
        rw [i1, nI_add] at e4
        subst e4
        refine ih (k + 1) w3 (by omega) (((hm.tr (hm1.mo.mono (by decide) (fun _ c => absurd c List.not_mem_nil))).tr (hm2.mono (by decide) (fun _ c => absurd c List.not_mem_nil))).tr (hm3.mo.mono (by decide) (fun _ c => absurd c List.not_mem_nil))) (fun d hd => ?_) ?_
        · have h2 : dc (sN s) (sM s) (sBl s k) d (sN s * sM s) ≤ cn s d := dc_ctF (n := sN s) (m := sM s) (d := d) (f := sBl s) 6 hk6
          rw [h93 d hd, (hm2.pl 9 (by decide) (by decide)).1, h91 d hd, h9 d hd, nI_m1 h2, i1, pk_mul, Nat.one_mul, nI_add, Nat.sub_add_cancel h2]
        · have k13 : w3.1 13 = w2.1 13 := hm3.1 13 (by decide)
          unfold XW
          rw [k13, hm3.2]
          exact hX2
  refine r_X_findBest (t_tally hs hC.1 hC.2.2.1 (fun w1 hm1 h91 => ?_))
  have hC1 : CW s w1 := (hC.on9 hm1).1
  have h0 := t_lack (K := fun r3 w2 => ∀ w4 : Wd, w4 = upI w2 13 4 r3 → E 1 M_X_findBest 29 [(0, .ref 13), (1, .ref 10), (2, .long (lN (sHo s))), (4, .int (nI t)), (5, .int r3), (6, .int 0)] [] w4 (qZ 1 K)) hs hC1 h91 (t := t) (by omega) (fun w4 e4 => ?_)
  · rw [hC1.2.1] at h0
    exact h0
  · refine key 6 0 w4 (by decide) ?_ (fun d hd => ?_) ⟨?_, fun c => absurd rfl c⟩
    · rw [e4]
      exact (hm1.mo.mono (by decide) (fun _ c => absurd c List.not_mem_nil)).upI _ (Or.inl (by decide))
    · rw [e4, upI_ne (by omega)]
      exact h91 d hd
    · rw [e4, upI_eq]
      rfl
