/-- limits, lists that may go on, and lists that are solutions -/
def lmF (ho L d : Nat) : Nat := if ho.testBit d then 0 else L
def ftB (n m ho L : Nat) (f : Nat → Nat) (l : Nat) : Bool := decide (∀ d, d < n * m → d ≠ 0 → ctF n m f l d ≤ lmF ho L d)
def cmB (n m ho L : Nat) (f : Nat → Nat) (l : Nat) : Bool := decide (∀ d, d < n * m → d ≠ 0 → ctF n m f l d = lmF ho L d)
theorem lmF_le (ho L d : Nat) : lmF ho L d ≤ L := by
  unfold lmF
  split <;> omega
theorem ctF_cong {n m : Nat} {f g : Nat → Nat} {d : Nat} : ∀ {k : Nat}, (∀ i, i < k → f i = g i) → ctF n m f k d = ctF n m g k d
  | 0, _ => rfl
  | k + 1, h => by rw [ctF, ctF, ctF_cong (fun i hi => h i (by omega)), h k (by omega)]
theorem upF_eq (F : Nat → Nat) (p T : Nat) : upF F p T p = T := if_pos rfl
theorem upF_ne {F : Nat → Nat} {p T i : Nat} (h : i ≠ p) : upF F p T i = F i := if_neg h
theorem ctF_up {n m : Nat} {f : Nat → Nat} {a x d k : Nat} (h : k ≤ a) : ctF n m (upF f a x) k d = ctF n m f k d := ctF_cong (fun i hi => upF_ne (by omega))
/-- the search: length + 1, next tries, chosen sets, steps, solutions, the first one -/
def srR (n m ho L N c S : Nat) (cd : Nat → Nat) : Nat → Nat → (Nat → Nat) → (Nat → Nat) → Nat → Nat → (Nat → Nat) → Nat × Nat × (Nat → Nat)
  | 0, _, _, _, md, so, fs => (md, so, fs)
  | _ + 1, 0, _, _, md, so, fs => (md, so, fs)
  | f + 1, a + 1, nx, ch, md, so, fs =>
    if S ≤ md then (md, so, fs)
    else if N ≤ nx a then srR n m ho L N c S cd f a nx ch md so fs
    else if ftB n m ho L (upF ch a (cd (nx a))) (a + 1) then
      if c ≤ a + 1 then
        if cmB n m ho L (upF ch a (cd (nx a))) (a + 1) then srR n m ho L N c S cd f (a + 1) (upF nx a (nx a + 1)) (upF ch a (cd (nx a))) (md + 1) (so + 1) (if so = 0 then upF ch a (cd (nx a)) else fs)
        else srR n m ho L N c S cd f (a + 1) (upF nx a (nx a + 1)) (upF ch a (cd (nx a))) (md + 1) so fs
      else srR n m ho L N c S cd f (a + 2) (upF (upF nx a (nx a + 1)) (a + 1) (nx a)) (upF ch a (cd (nx a))) (md + 1) so fs
    else srR n m ho L N c S cd f (a + 1) (upF nx a (nx a + 1)) (upF ch a (cd (nx a))) (md + 1) so fs
/-- what always holds on the way -/
def SI (n m N c S B : Nat) (l : Nat) (nx ch : Nat → Nat) (md so : Nat) (fs : Nat → Nat) : Prop :=
  l ≤ c ∧ md ≤ S ∧ so ≤ md ∧ (∀ i, i < l → nx i ≤ N) ∧ (∀ i, i + 1 < l → ch i ≠ 0 ∧ ch i < B) ∧ (0 < so → ∀ i, i < c → fs i ≠ 0 ∧ fs i < B)
section SR
variable {n m ho L N c S B : Nat} {cd : Nat → Nat}
theorem SI.back {a md so : Nat} {nx ch fs : Nat → Nat} (h : SI n m N c S B (a + 1) nx ch md so fs) : SI n m N c S B a nx ch md so fs := by
  obtain ⟨h1, h2, h3, h4, h5, h6⟩ := h
  exact ⟨by omega, h2, h3, fun i hi => h4 i (by omega), fun i hi => h5 i (by omega), h6⟩
theorem SI.stay {a md so : Nat} {nx ch fs : Nat → Nat} (h : SI n m N c S B (a + 1) nx ch md so fs) (hS : md < S) (hN : nx a < N) (x : Nat) : SI n m N c S B (a + 1) (upF nx a (nx a + 1)) (upF ch a x) (md + 1) so fs := by
  obtain ⟨h1, h2, h3, h4, h5, h6⟩ := h
  refine ⟨h1, by omega, by omega, fun i hi => ?_, fun i hi => ?_, h6⟩
  · by_cases e : i = a
    · rw [e, upF_eq]
      omega
    · rw [upF_ne e]
      exact h4 i hi
  · rw [upF_ne (by omega)]
    exact h5 i hi
theorem SI.found {a md so : Nat} {nx ch fs : Nat → Nat} (h : SI n m N c S B (a + 1) nx ch md so fs) (hS : md < S) (hN : nx a < N) {x : Nat} (hx : x ≠ 0) (hxB : x < B) (hc : c ≤ a + 1) : SI n m N c S B (a + 1) (upF nx a (nx a + 1)) (upF ch a x) (md + 1) (so + 1) (if so = 0 then upF ch a x else fs) := by
  obtain ⟨h1, h2, h3, h4, h5, h6⟩ := h
  obtain ⟨g1, g2, g3, g4, g5, g6⟩ := SI.stay (n := n) (m := m) ⟨h1, h2, h3, h4, h5, h6⟩ hS hN x
  refine ⟨g1, g2, by omega, g4, g5, fun _ i hi => ?_⟩
  by_cases s0 : so = 0
  · rw [if_pos s0]
    by_cases e : i = a
    · rw [e, upF_eq]
      exact ⟨hx, hxB⟩
    · rw [upF_ne e]
      exact h5 i (by omega)
  · rw [if_neg s0]
    exact h6 (by omega) i hi
theorem SI.down {a md so : Nat} {nx ch fs : Nat → Nat} (h : SI n m N c S B (a + 1) nx ch md so fs) (hS : md < S) (hN : nx a < N) {x : Nat} (hx : x ≠ 0) (hxB : x < B) (hc : a + 1 < c) : SI n m N c S B (a + 2) (upF (upF nx a (nx a + 1)) (a + 1) (nx a)) (upF ch a x) (md + 1) so fs := by
  obtain ⟨h1, h2, h3, h4, h5, h6⟩ := h
  obtain ⟨g1, g2, g3, g4, g5, g6⟩ := SI.stay (n := n) (m := m) ⟨h1, h2, h3, h4, h5, h6⟩ hS hN x
  refine ⟨by omega, g2, g3, fun i hi => ?_, fun i hi => ?_, g6⟩
  · by_cases e : i = a + 1
    · rw [e, upF_eq]
      omega
    · rw [upF_ne e]
      exact g4 i (by omega)
  · by_cases e : i = a
    · rw [e, upF_eq]
      exact ⟨hx, hxB⟩
    · rw [upF_ne e]
      exact h5 i (by omega)
theorem srR_ok (hcd : ∀ i, i < N → cd i ≠ 0 ∧ cd i < B) : ∀ f l nx ch md so fs, SI n m N c S B l nx ch md so fs → (srR n m ho L N c S cd f l nx ch md so fs).1 ≤ S ∧ (srR n m ho L N c S cd f l nx ch md so fs).2.1 ≤ S ∧ (0 < (srR n m ho L N c S cd f l nx ch md so fs).2.1 → ∀ i, i < c → (srR n m ho L N c S cd f l nx ch md so fs).2.2 i ≠ 0 ∧ (srR n m ho L N c S cd f l nx ch md so fs).2.2 i < B)
  | 0, l, nx, ch, md, so, fs, h => by
    rw [srR]
    exact ⟨h.2.1, Nat.le_trans h.2.2.1 h.2.1, h.2.2.2.2.2⟩
  | f + 1, 0, nx, ch, md, so, fs, h => by
    rw [srR]
    exact ⟨h.2.1, Nat.le_trans h.2.2.1 h.2.1, h.2.2.2.2.2⟩
  | f + 1, a + 1, nx, ch, md, so, fs, h => by
    rw [srR]
    by_cases c1 : S ≤ md
    · rw [if_pos c1]
      exact ⟨h.2.1, Nat.le_trans h.2.2.1 h.2.1, h.2.2.2.2.2⟩
    · rw [if_neg c1]
      by_cases c2 : N ≤ nx a
      · rw [if_pos c2]
        exact srR_ok hcd f a nx ch md so fs h.back
      · rw [if_neg c2]
        have hx := hcd (nx a) (by omega)
        cases c3 : ftB n m ho L (upF ch a (cd (nx a))) (a + 1)
        · rw [if_neg (by decide)]
          exact srR_ok hcd f _ _ _ _ _ _ (h.stay (by omega) (by omega) _)
        · rw [if_pos rfl]
          by_cases c4 : c ≤ a + 1
          · rw [if_pos c4]
            cases c5 : cmB n m ho L (upF ch a (cd (nx a))) (a + 1)
            · rw [if_neg (by decide)]
              exact srR_ok hcd f _ _ _ _ _ _ (h.stay (by omega) (by omega) _)
            · rw [if_pos rfl]
              exact srR_ok hcd f _ _ _ _ _ _ (h.found (by omega) (by omega) hx.1 hx.2 c4)
          · rw [if_neg c4]
            exact srR_ok hcd f _ _ _ _ _ _ (h.down (by omega) (by omega) hx.1 hx.2 (by omega))
end SR
/-- a set of two elements has a difference -/
theorem dc_two {n m S : Nat} (ok : GOK n m) (hS : S < 2 ^ (n * m)) (hp : 2 ≤ pop S) : ∃ d, d < n * m ∧ d ≠ 0 ∧ 1 ≤ dc n m S d (n * m) := by
  rw [pop_v hS ok.2.2] at hp
  obtain ⟨i0, h0, b0, r0⟩ := fb_ct_kth (p := fun i => S.testBit i) (k := 0) (n := n * m) (by omega)
  obtain ⟨i1, h1, b1, r1⟩ := fb_ct_kth (p := fun i => S.testBit i) (k := 1) (n := n * m) (by omega)
  have hne : i0 ≠ i1 := fun e => by
    rw [e] at r0
    omega
  have hd := gS_lt ok i0 i1
  refine ⟨gS n m i0 i1, hd, fun e => hne (gS_z ok h0 h1 e), ?_⟩
  unfold dc
  rw [if_pos ⟨fun e => hne (gS_z ok h0 h1 e), hd⟩]
  refine fb_ct_pos.mpr ⟨i0, h0, ?_⟩
  unfold dq
  rw [(gS_sw ok h0 h1 hd).mp rfl]
  show (S.testBit i0 && S.testBit i1) = true
  rw [show S.testBit i0 = true from b0, show S.testBit i1 = true from b1]
  rfl
theorem cmF_back {ho : Nat} {c : Nat → Nat} : ∀ k x, cmF ho c k = some x → ∀ d, d < k → d ≠ 0 → (ho.testBit d = true → c d = 0) ∧ (ho.testBit d = false → c d = x ∧ x ≠ 0)
  | 0, x, _, d, hd, _ => absurd hd (Nat.not_lt_zero d)
  | k + 1, x, e, d, hd, d0 => by
    cases hk : cmF ho c k with
    | none =>
      have := cmF_none hk 1
      rw [this] at e
      cases e
    | some y =>
      by_cases k0 : k = 0
      · omega
      · rw [cmF_s hk k0] at e
        have ih := cmF_back k y hk
        cases hb : ho.testBit k
        · rw [hb, if_neg (by decide)] at e
          by_cases c0 : c k = 0
          · rw [if_pos c0] at e
            cases e
          · rw [if_neg c0] at e
            by_cases c1 : y = 0 ∨ c k = y
            · rw [if_pos c1] at e
              have ex : c k = x := Option.some.inj e
              by_cases ed : d = k
              · rw [ed]
                exact ⟨fun c2 => (by rw [hb] at c2; cases c2), fun _ => ⟨ex, by omega⟩⟩
              · have := ih d (by omega) d0
                refine ⟨this.1, fun c2 => ?_⟩
                have h3 := this.2 c2
                rcases c1 with c1 | c1
                · exact absurd c1 h3.2
                · exact ⟨by omega, by omega⟩
            · rw [if_neg c1] at e
              cases e
        · rw [hb, if_pos rfl] at e
          by_cases c0 : c k = 0
          · rw [if_pos c0] at e
            have ex : y = x := Option.some.inj e
            subst ex
            by_cases ed : d = k
            · rw [ed]
              exact ⟨fun _ => c0, fun c2 => (by rw [hb] at c2; cases c2)⟩
            · exact ih d (by omega) d0
          · rw [if_neg c0] at e
            cases e
theorem cmF_forth {ho L : Nat} {c : Nat → Nat} (hL : L ≠ 0) : ∀ k, (∀ d, d < k → d ≠ 0 → c d = lmF ho L d) → ∃ x, cmF ho c k = some x ∧ (x = 0 ∨ x = L) ∧ ((∃ d, d < k ∧ d ≠ 0 ∧ ho.testBit d = false) → x = L)
  | 0, _ => ⟨0, rfl, Or.inl rfl, fun ⟨d, hd, _⟩ => absurd hd (Nat.not_lt_zero d)⟩
  | k + 1, h => by
    obtain ⟨y, hy, h1, h2⟩ := cmF_forth hL k (fun d hd => h d (by omega))
    by_cases k0 : k = 0
    · subst k0
      exact ⟨0, rfl, Or.inl rfl, fun ⟨d, hd, d0, _⟩ => absurd hd (by omega)⟩
    · rw [cmF_s hy k0]
      have hk := h k (by omega) k0
      unfold lmF at hk
      cases hb : ho.testBit k
      · rw [hb, if_neg (by decide)] at hk
        rw [if_neg (by decide), hk, if_neg hL, if_pos (by rcases h1 with h1 | h1 <;> omega)]
        exact ⟨L, rfl, Or.inr rfl, fun _ => rfl⟩
      · rw [hb, if_pos rfl] at hk
        rw [if_pos rfl, if_pos hk]
        refine ⟨y, rfl, h1, fun ⟨d, hd, d0, hbd⟩ => h2 ⟨d, ?_, d0, hbd⟩⟩
        have : d ≠ k := fun e => by rw [e, hb] at hbd; cases hbd
        omega
theorem cm_iff {n m ho L l : Nat} {f : Nat → Nat} (ok : GOK n m) (hl : l ≤ 6) (hL : L ≠ 0) (hL9 : L ≤ 9) (hf : f 0 < 2 ^ (n * m)) (hp : 2 ≤ pop (f 0)) (h0 : 0 < l) (hft : ftB n m ho L f l = true) : cmW (cmF ho (ctF n m f l) (n * m)) = nI L ↔ cmB n m ho L f l = true := by
  have hft2 := of_decide_eq_true hft
  obtain ⟨d, hd, d0, h1⟩ := dc_two ok hf hp
  have hc1 : ∀ k, 0 < k → 1 ≤ ctF n m f k d := by
    intro k
    induction k with
    | zero => intro c; omega
    | succ k ih =>
      intro _
      rw [ctF]
      by_cases c : k = 0
      · subst c
        omega
      · have := ih (by omega)
        omega
  have hnb : ho.testBit d = false := by
    have h2 := hft2 d hd d0
    have h3 := hc1 l h0
    unfold lmF at h2
    cases hb : ho.testBit d
    · rfl
    · rw [hb, if_pos rfl] at h2
      omega
  have hB : ∀ k, ctF n m f l k ≤ 240 := fun k => by
    have h1 := ctF_le n m f k l
    have h2 := Nat.mul_le_mul hl ok.2.2
    omega
  constructor
  · intro e
    cases hc : cmF ho (ctF n m f l) (n * m) with
    | none =>
      rw [hc] at e
      have : nI 0 = nI L := e
      exact absurd (nI_inj (by decide) (by omega) this).symm hL
    | some x =>
      rw [hc] at e
      have hx := cmF_le hB _ _ hc
      have ex : x = L := nI_inj (by omega) (by omega) e
      subst ex
      refine decide_eq_true (fun e he e0 => ?_)
      have h4 := cmF_back _ _ hc e he e0
      unfold lmF
      cases hb : ho.testBit e
      · rw [if_neg (by decide)]
        exact (h4.2 hb).1
      · rw [if_pos rfl]
        exact h4.1 hb
  · intro e
    obtain ⟨x, hx, -, h2⟩ := cmF_forth hL (n * m) (fun e2 he e0 => of_decide_eq_true e e2 he e0)
    rw [hx, h2 ⟨d, hd, d0, hnb⟩]
    rfl
