/-- what may have changed: the places of C, and the slots D of the place 39 -/
def Mo (C D : List Nat) (w w' : Wd) : Prop := ∀ p k, p ∉ C → (p = 39 → k ∉ D) → w'.1 p k = w.1 p k ∧ w'.2 p k = w.2 p k
theorem Mo.rf (C D : List Nat) (w : Wd) : Mo C D w w := fun _ _ _ _ => ⟨rfl, rfl⟩
theorem Mo.tr {C D : List Nat} {w w1 w2 : Wd} (h : Mo C D w w1) (h2 : Mo C D w1 w2) : Mo C D w w2 := fun p k a b => ⟨(h2 p k a b).1.trans (h p k a b).1, (h2 p k a b).2.trans (h p k a b).2⟩
theorem Mo.mono {C D C' D' : List Nat} {w w1 : Wd} (h : Mo C D w w1) (hC : ∀ p ∈ C, p ∈ C') (hD : ∀ k ∈ D, k ∈ D' ∨ 39 ∈ C') : Mo C' D' w w1 := fun p k a b => h p k (fun c => a (hC p c)) (fun e c => by
  subst e
  rcases hD k c with h1 | h1
  · exact b rfl h1
  · exact a h1)
theorem Mo.upI {C D : List Nat} {w w1 : Wd} (h : Mo C D w w1) {q j : Nat} (x : Int32) (hq : q ∈ C ∨ (q = 39 ∧ j ∈ D)) : Mo C D w (upI w1 q j x) := fun p k a b => by
  refine ⟨?_, (h p k a b).2⟩
  rw [upI_ne (fun e => ?_)]
  · exact (h p k a b).1
  · obtain ⟨rfl, rfl⟩ := e
    rcases hq with h1 | h1
    · exact a h1
    · exact b h1.1 h1.2
theorem Mo.upL {C D : List Nat} {w w1 : Wd} (h : Mo C D w w1) {q j : Nat} (x : Int64) (hq : q ∈ C ∨ (q = 39 ∧ j ∈ D)) : Mo C D w (upL w1 q j x) := fun p k a b => by
  refine ⟨(h p k a b).1, ?_⟩
  rw [upL_ne (fun e => ?_)]
  · exact (h p k a b).2
  · obtain ⟨rfl, rfl⟩ := e
    rcases hq with h1 | h1
    · exact a h1
    · exact b h1.1 h1.2
theorem Mo.cp {C D : List Nat} {w w1 : Wd} (h : Mo C D w w1) {q0 q1 : Nat} (sp dp c : Nat) (hq : q1 ∈ C) : Mo C D w (cpL w1 q0 q1 sp dp c) := fun p k a b => by
  refine ⟨(h p k a b).1, ?_⟩
  show (if p = q1 then _ else w1.2 p) k = _
  rw [if_neg (fun e => a (by rw [e]; exact hq))]
  exact (h p k a b).2
theorem OnI.mo {p : Nat} {w w1 : Wd} (h : OnI p w w1) : Mo [p] [] w w1 := fun q k a _ => by
  rw [h.1 q (fun e => a (by rw [e]; exact List.mem_singleton.mpr rfl)), h.2]
  exact ⟨rfl, rfl⟩
theorem OnL.mo {p : Nat} {w w1 : Wd} (h : OnL p w w1) : Mo [p] [] w w1 := fun q k a _ => by
  rw [h.1 q (fun e => a (by rw [e]; exact List.mem_singleton.mpr rfl)), h.2]
  exact ⟨rfl, rfl⟩
theorem Mo.pl {C D : List Nat} {w w1 : Wd} (h : Mo C D w w1) (p : Nat) (hp : p ∉ C) (h9 : p ≠ 39) : w1.1 p = w.1 p ∧ w1.2 p = w.2 p :=
  ⟨funext fun k => (h p k hp (fun e => absurd e h9)).1, funext fun k => (h p k hp (fun e => absurd e h9)).2⟩
theorem Mo.sl {C D : List Nat} {w w1 : Wd} (h : Mo C D w w1) (k : Nat) (hC : 39 ∉ C) (hk : k ∉ D) : w1.1 39 k = w.1 39 k ∧ w1.2 39 k = w.2 39 k := h 39 k hC (fun _ => hk)
theorem ChG.mo {w w1 : Wd} (h : ChG w w1) : Mo [1, 2, 3, 4, 5, 6, 7] [] w w1 := fun p k a _ => by
  have := h p (fun e => a (by
    have : p = 1 ∨ p = 2 ∨ p = 3 ∨ p = 4 ∨ p = 5 ∨ p = 6 ∨ p = 7 := by omega
    rcases this with rfl | rfl | rfl | rfl | rfl | rfl | rfl <;> decide))
  rw [this.1, this.2]
  exact ⟨rfl, rfl⟩
theorem ChI.mob {w w1 : Wd} (h : ChI PAb w w1) : Mo [45, 46] [11] w w1 := fun p k a b => by
  rw [h.2]
  refine ⟨h.1 p k (fun e => ?_), rfl⟩
  rcases e with rfl | rfl | ⟨rfl, rfl⟩
  · exact a (by decide)
  · exact a (by decide)
  · exact b rfl (by decide)
/-- the state: numbers, and rows of numbers -/
abbrev Sg : Type := (Nat → Nat) × (Nat → Nat → Nat)
abbrev sN (s : Sg) : Nat := s.1 0
abbrev sM (s : Sg) : Nat := s.1 1
abbrev sHo (s : Sg) : Nat := s.1 2
abbrev sHs (s : Sg) : Nat := s.1 3
abbrev sTl (s : Sg) : Nat := s.1 4
abbrev sSc (s : Sg) : Nat := s.1 5
abbrev sCc (s : Sg) : Nat := s.1 6
abbrev sNs (s : Sg) : Nat := s.1 7
abbrev sSn (s : Sg) : Nat := s.1 8
abbrev sFi (s : Sg) (q : Nat) : Nat := s.1 (9 + q)
abbrev sKh (s : Sg) (q : Nat) : Nat := s.1 (11 + q)
abbrev sBl (s : Sg) : Nat → Nat := s.2 0
abbrev sHh (s : Sg) : Nat → Nat := s.2 1
abbrev sTx (s : Sg) : Nat → Nat := s.2 2
abbrev sFs (s : Sg) : Nat → Nat := s.2 3
abbrev sKb (s : Sg) (q : Nat) : Nat → Nat := s.2 (4 + q)

def st1 (s : Sg) (i v : Nat) : Sg := (fun j => if j = i then v else s.1 j, s.2)
def st2 (s : Sg) (i : Nat) (f : Nat → Nat) : Sg := (s.1, fun j => if j = i then f else s.2 j)
/-- which states can be -/
def WF (s : Sg) : Prop := GOK (sN s) (sM s) ∧ sHo s < 2 ^ (sN s * sM s) ∧ sHs s ≤ 5 ∧ sTl s ≤ 160 ∧ sSc s < 2 ^ 20 ∧ sCc s < 2 ^ 20 ∧ sNs s < 2 ^ 20 ∧ sSn s ≤ 4 ∧ (sNs s = 0 ↔ sSn s = 0) ∧ (∀ k, k < 6 → sBl s k < 2 ^ (sN s * sM s)) ∧ (∀ i, i < 6 * sHs s → sHh s i < 2 ^ (sN s * sM s)) ∧ (∀ i, i < sTl s → 32 ≤ sTx s i ∧ sTx s i ≤ 126) ∧ (0 < sNs s → ∀ k, (k < sSn s → sFs s k ≠ 0) ∧ (sSn s ≤ k → sFs s k = 0) ∧ sFs s k < 2 ^ (sN s * sM s)) ∧ (∀ q, q < 2 → sFi s q = 0 ∨ (sFi s q = 1 ∧ sKh s q < 2 ^ (sN s * sM s) ∧ ∀ k, k < 6 → sKb s q k < 2 ^ (sN s * sM s)))
/-- the object's world -/
def cH (s : Sg) (w : Wd) : Prop := w.2 0 12 = lN (sHo s)
def cB (s : Sg) (w : Wd) : Prop := ∀ k, k < 6 → w.2 10 k = lN (sBl s k)
def cY (s : Sg) (w : Wd) : Prop := w.1 11 1 = nI (sHs s) ∧ ∀ i, i < 6 * sHs s → w.2 12 i = lN (sHh s i)
def cS (s : Sg) (q p : Nat) (w : Wd) : Prop := w.1 p 2 = nI (sFi s q) ∧ (sFi s q = 1 → w.2 p 1 = lN (sKh s q) ∧ ∀ k, k < 6 → w.2 (p + 1) k = lN (sKb s q k))
def cF (s : Sg) (w : Wd) : Prop := w.1 24 8 = nI (sCc s) ∧ w.1 24 9 = nI (sSc s) ∧ w.1 24 10 = nI (sNs s) ∧ (0 < sNs s → ∀ k, k < 6 → w.2 31 k = lN (sFs s k)) ∧ ∀ d, d < 40 → w.1 28 d = 0
def cT (s : Sg) (w : Wd) : Prop := w.1 32 3 = nI (sTl s) ∧ ∀ i, i < sTl s → w.1 33 i = nI (sTx s i)
def CW (s : Sg) (w : Wd) : Prop := Gd (sN s) (sM s) w ∧ cH s w ∧ cB s w ∧ cY s w ∧ cS s 0 35 w ∧ cS s 1 37 w ∧ cF s w ∧ cT s w
theorem Gd.mo {n m : Nat} {C D : List Nat} {w w1 : Wd} (h : Gd n m w) (hm : Mo C D w w1) (hC : ∀ p ∈ [1, 2, 3, 4, 5, 6, 7], p ∉ C) : Gd n m w1 := by
  obtain ⟨⟨a1, a2, a3, a4, a5⟩, h2, h3, h4, h5, h6⟩ := h
  have k1 := hm.pl 1 (hC 1 (by decide)) (by decide)
  have k2 := hm.pl 2 (hC 2 (by decide)) (by decide)
  have k3 := hm.pl 3 (hC 3 (by decide)) (by decide)
  have k4 := hm.pl 4 (hC 4 (by decide)) (by decide)
  have k6 := hm.pl 6 (hC 6 (by decide)) (by decide)
  have k7 := hm.pl 7 (hC 7 (by decide)) (by decide)
  refine ⟨⟨a1, by rw [k1.1]; exact a2, by rw [k1.1]; exact a3, by rw [k1.1]; exact a4, fun x hx => by rw [k2.1, k3.1]; exact a5 x hx⟩, by rw [k1.2]; exact h2, by rw [k1.2]; exact h3, fun x hx => by rw [k4.1]; exact h4 x hx, by rw [k1.1]; exact h5, fun k hk => by rw [k6.1, k7.1]; exact h6 k hk⟩
theorem cH.mo {s : Sg} {C D : List Nat} {w w1 : Wd} (h : cH s w) (hm : Mo C D w w1) (hC : 0 ∉ C) : cH s w1 := by
  unfold cH
  rw [(hm.pl 0 hC (by decide)).2]
  exact h
theorem cB.mo {s : Sg} {C D : List Nat} {w w1 : Wd} (h : cB s w) (hm : Mo C D w w1) (hC : 10 ∉ C) : cB s w1 := fun k hk => by
  rw [(hm.pl 10 hC (by decide)).2]
  exact h k hk
theorem cY.mo {s : Sg} {C D : List Nat} {w w1 : Wd} (h : cY s w) (hm : Mo C D w w1) (hC : 11 ∉ C) (hC2 : 12 ∉ C) : cY s w1 := by
  refine ⟨?_, fun i hi => ?_⟩
  · rw [(hm.pl 11 hC (by decide)).1]; exact h.1
  · rw [(hm.pl 12 hC2 (by decide)).2]; exact h.2 i hi
theorem cS.mo {s : Sg} {q p : Nat} {C D : List Nat} {w w1 : Wd} (h : cS s q p w) (hm : Mo C D w w1) (hp : p ∉ C) (hp2 : p + 1 ∉ C) (h1 : p < 38) : cS s q p w1 := by
  have k1 := hm.pl p hp (by omega)
  have k2 := hm.pl (p + 1) hp2 (by omega)
  refine ⟨by rw [k1.1]; exact h.1, fun hf => ⟨by rw [k1.2]; exact (h.2 hf).1, fun k hk => by rw [k2.2]; exact (h.2 hf).2 k hk⟩⟩
theorem cF.mo {s : Sg} {C D : List Nat} {w w1 : Wd} (h : cF s w) (hm : Mo C D w w1) (h1 : 24 ∉ C) (h2 : 28 ∉ C) (h3 : 31 ∉ C) : cF s w1 := by
  have k1 := hm.pl 24 h1 (by decide)
  have k2 := hm.pl 28 h2 (by decide)
  have k3 := hm.pl 31 h3 (by decide)
  obtain ⟨a, b, c, d, e⟩ := h
  exact ⟨by rw [k1.1]; exact a, by rw [k1.1]; exact b, by rw [k1.1]; exact c, fun hn k hk => by rw [k3.2]; exact d hn k hk, fun x hx => by rw [k2.1]; exact e x hx⟩
theorem cT.mo {s : Sg} {C D : List Nat} {w w1 : Wd} (h : cT s w) (hm : Mo C D w w1) (h1 : 32 ∉ C) (h2 : 33 ∉ C) : cT s w1 := by
  refine ⟨?_, fun i hi => ?_⟩
  · rw [(hm.pl 32 h1 (by decide)).1]; exact h.1
  · rw [(hm.pl 33 h2 (by decide)).1]; exact h.2 i hi
/-- the object's scratch cells: they hold nothing that lasts -/
abbrev scr : List Nat := [8, 9, 13, 14, 15, 16, 17, 18, 19, 20, 21, 22, 23, 25, 26, 27, 29, 30, 34]
theorem CW.mo {s : Sg} {w w1 : Wd} (h : CW s w) (hm : Mo scr [] w w1) : CW s w1 := by
  obtain ⟨a, b, c, d, e, f, g, i⟩ := h
  exact ⟨a.mo hm (by decide), b.mo hm (by decide), c.mo hm (by decide), d.mo hm (by decide) (by decide), e.mo hm (by decide) (by decide) (by decide), f.mo hm (by decide) (by decide) (by decide), g.mo hm (by decide) (by decide) (by decide), i.mo hm (by decide) (by decide)⟩
/-- the reference's world -/
def mG (s : Sg) (w : Wd) : Prop := Bg (sN s) (sM s) w ∧ AuB (autL (sN s) (sM s)) w
def mH (s : Sg) (w : Wd) : Prop := w.2 39 3 = lN (sHo s)
def mB (s : Sg) (w : Wd) : Prop := ∀ k, k < 6 → w.2 40 k = lN (sBl s k)
def mY (s : Sg) (w : Wd) : Prop := w.1 39 6 = nI (sHs s) ∧ ∀ i, i < 6 * sHs s → w.2 41 i = lN (sHh s i)
def mS (s : Sg) (w : Wd) : Prop := ∀ q, q < 2 → w.1 43 q = nI (sFi s q) ∧ (sFi s q = 1 → w.2 42 (7 * q + 6) = lN (sKh s q) ∧ ∀ k, k < 6 → w.2 42 (7 * q + k) = lN (sKb s q k))
def mF (s : Sg) (w : Wd) : Prop := w.1 39 15 = nI (sCc s) ∧ w.1 39 14 = nI (sSc s) ∧ w.1 39 16 = nI (sSn s) ∧ ∀ k, k < sSn s → w.2 47 k = lN (sFs s k)
def mT (s : Sg) (w : Wd) : Prop := w.1 39 10 = nI (sTl s) ∧ ∀ i, i < sTl s → w.1 44 i = nI (sTx s i)
def MW (s : Sg) (w : Wd) : Prop := mG s w ∧ mH s w ∧ mB s w ∧ mY s w ∧ mS s w ∧ mF s w ∧ mT s w
theorem mG.mo {s : Sg} {C D : List Nat} {w w1 : Wd} (h : mG s w) (hm : Mo C D w w1) (h1 : 39 ∉ C) (h2 : ∀ k ∈ [0, 1, 2, 11], k ∉ D) (h3 : 45 ∉ C) (h4 : 46 ∉ C) : mG s w1 := by
  obtain ⟨⟨a, b, c, d⟩, e, f⟩ := h
  have k5 := hm.pl 45 h3 (by decide)
  have k6 := hm.pl 46 h4 (by decide)
  exact ⟨⟨a, by rw [(hm.sl 0 h1 (h2 0 (by decide))).1]; exact b, by rw [(hm.sl 1 h1 (h2 1 (by decide))).1]; exact c, by rw [(hm.sl 2 h1 (h2 2 (by decide))).1]; exact d⟩, by rw [(hm.sl 11 h1 (h2 11 (by decide))).1]; exact e, fun k hk => by rw [k5.1, k6.1]; exact f k hk⟩
theorem mH.mo {s : Sg} {C D : List Nat} {w w1 : Wd} (h : mH s w) (hm : Mo C D w w1) (h1 : 39 ∉ C) (h2 : 3 ∉ D) : mH s w1 := by
  unfold mH
  rw [(hm.sl 3 h1 h2).2]
  exact h
theorem mB.mo {s : Sg} {C D : List Nat} {w w1 : Wd} (h : mB s w) (hm : Mo C D w w1) (h1 : 40 ∉ C) : mB s w1 := fun k hk => by
  rw [(hm.pl 40 h1 (by decide)).2]
  exact h k hk
theorem mY.mo {s : Sg} {C D : List Nat} {w w1 : Wd} (h : mY s w) (hm : Mo C D w w1) (h1 : 39 ∉ C) (h2 : 6 ∉ D) (h3 : 41 ∉ C) : mY s w1 := by
  refine ⟨?_, fun i hi => ?_⟩
  · rw [(hm.sl 6 h1 h2).1]; exact h.1
  · rw [(hm.pl 41 h3 (by decide)).2]; exact h.2 i hi
theorem mS.mo {s : Sg} {C D : List Nat} {w w1 : Wd} (h : mS s w) (hm : Mo C D w w1) (h1 : 42 ∉ C) (h2 : 43 ∉ C) : mS s w1 := fun q hq => by
  rw [(hm.pl 42 h1 (by decide)).2, (hm.pl 43 h2 (by decide)).1]
  exact h q hq
theorem mF.mo {s : Sg} {C D : List Nat} {w w1 : Wd} (h : mF s w) (hm : Mo C D w w1) (h1 : 39 ∉ C) (h2 : ∀ k ∈ [14, 15, 16], k ∉ D) (h3 : 47 ∉ C) : mF s w1 := by
  obtain ⟨a, b, c, d⟩ := h
  exact ⟨by rw [(hm.sl 15 h1 (h2 15 (by decide))).1]; exact a, by rw [(hm.sl 14 h1 (h2 14 (by decide))).1]; exact b, by rw [(hm.sl 16 h1 (h2 16 (by decide))).1]; exact c, fun k hk => by rw [(hm.pl 47 h3 (by decide)).2]; exact d k hk⟩
theorem mT.mo {s : Sg} {C D : List Nat} {w w1 : Wd} (h : mT s w) (hm : Mo C D w w1) (h1 : 39 ∉ C) (h2 : 10 ∉ D) (h3 : 44 ∉ C) : mT s w1 := by
  refine ⟨?_, fun i hi => ?_⟩
  · rw [(hm.sl 10 h1 h2).1]; exact h.1
  · rw [(hm.pl 44 h3 (by decide)).1]; exact h.2 i hi
abbrev scB : List Nat := [48, 49, 50, 51, 52, 53, 54, 55, 56, 57]
abbrev scD : List Nat := [19, 23, 29, 31]
theorem MW.mo {s : Sg} {w w1 : Wd} (h : MW s w) (hm : Mo scB scD w w1) : MW s w1 := by
  obtain ⟨a, b, c, d, e, f, g⟩ := h
  exact ⟨a.mo hm (by decide) (by decide) (by decide) (by decide), b.mo hm (by decide) (by decide), c.mo hm (by decide), d.mo hm (by decide) (by decide) (by decide), e.mo hm (by decide) (by decide), f.mo hm (by decide) (by decide) (by decide), g.mo hm (by decide) (by decide) (by decide)⟩
/-- all places of the object, all of the reference -/
abbrev allA : List Nat := List.range 39
abbrev allB : List Nat := (List.range 19).map (fun k => 39 + k)
theorem MW.other {s : Sg} {w w1 : Wd} (h : MW s w) (hm : Mo allA [] w w1) : MW s w1 := by
  obtain ⟨a, b, c, d, e, f, g⟩ := h
  exact ⟨a.mo hm (by decide) (by decide) (by decide) (by decide), b.mo hm (by decide) (by decide), c.mo hm (by decide), d.mo hm (by decide) (by decide) (by decide), e.mo hm (by decide) (by decide), f.mo hm (by decide) (by decide) (by decide), g.mo hm (by decide) (by decide) (by decide)⟩
theorem CW.other {s : Sg} {w w1 : Wd} (h : CW s w) (hm : Mo allB [] w w1) : CW s w1 := by
  obtain ⟨a, b, c, d, e, f, g, i⟩ := h
  exact ⟨a.mo hm (by decide), b.mo hm (by decide), c.mo hm (by decide), d.mo hm (by decide) (by decide), e.mo hm (by decide) (by decide) (by decide), f.mo hm (by decide) (by decide) (by decide), g.mo hm (by decide) (by decide) (by decide), i.mo hm (by decide) (by decide)⟩
def INV (w : Wd) : Prop := ∃ s, WF s ∧ CW s w ∧ MW s w
/-- an operation, out of its two sides -/
theorem glueI {MA MB : MI} {as bs : List Value} {w : Wd} {s : Sg} {val : Int32} {nx : Sg} (hs : WF s ∧ CW s w ∧ MW s w) (hA : RunI 1 MA as w (fun r w1 => r = val ∧ CW nx w1 ∧ Mo allA [] w w1)) (hB : ∀ w1, MW s w1 → RunI 1 MB bs w1 (fun r w2 => r = val ∧ MW nx w2 ∧ Mo allB [] w1 w2)) (hN : WF nx) : RunI 1 MA as w (fun r w1 => RunI 1 MB bs w1 (fun r2 w2 => r2 = r ∧ INV w2)) :=
  hA.mono (fun r w1 h1 => (hB w1 (hs.2.2.other h1.2.2)).mono (fun r2 w2 h2 => ⟨h2.1.trans h1.1.symm, nx, hN, h1.2.1.other h2.2.2, h2.2.1⟩))
theorem glueL {MA MB : MI} {as bs : List Value} {w : Wd} {s : Sg} {val : Int64} {nx : Sg} (hs : WF s ∧ CW s w ∧ MW s w) (hA : RunL 1 MA as w (fun r w1 => r = val ∧ CW nx w1 ∧ Mo allA [] w w1)) (hB : ∀ w1, MW s w1 → RunL 1 MB bs w1 (fun r w2 => r = val ∧ MW nx w2 ∧ Mo allB [] w1 w2)) (hN : WF nx) : RunL 1 MA as w (fun r w1 => RunL 1 MB bs w1 (fun r2 w2 => r2 = r ∧ INV w2)) :=
  hA.mono (fun r w1 h1 => (hB w1 (hs.2.2.other h1.2.2)).mono (fun r2 w2 h2 => ⟨h2.1.trans h1.1.symm, nx, hN, h1.2.1.other h2.2.2, h2.2.1⟩))
