theorem liF_n (n m : Nat) (φ f : Nat → Nat) : ∀ k, (liF n m φ f k).1 = fb_ct (fun k => decide (f k ≠ 0)) k
  | 0 => rfl
  | k + 1 => by
    rw [liF, ct_s (fun k => f k ≠ 0)]
    by_cases h : f k = 0
    · rw [if_pos h, if_neg (fun c => c h), liF_n n m φ f k, Nat.add_zero]
    · rw [if_neg h, if_pos h]
      show (liF n m φ f k).1 + 1 = _
      rw [liF_n n m φ f k]
abbrev liS (s : Sg) (φ : Nat → Nat) : Dl := liF (sN s) (sM s) φ (sBl s) 6
abbrev iD : Nat → Nat := fun x => x
abbrev fK (s : Sg) (k : Nat) : Nat → Nat := gF (sN s) (sM s) (aU (sN s) (sM s) k) (aZ (sN s) (sM s) k)
theorem liS_n (s : Sg) (φ : Nat → Nat) : (liS s φ).1 = usN s 6 := liF_n _ _ _ _ 6
theorem usN_6 (s : Sg) : usN s 6 ≤ 6 := fb_ct_le _ 6
/-- a list of images, on the object's side -/
theorem t_img {s : Sg} {p1 : Nat} {φ : Nat → Nat} {w0 : Wd} {K : Int32 → Wd → Prop} (hs : WF s) (hC : CW s w0) (hp : p1 = 16 ∨ p1 = 17 ∨ p1 = 18) (hφ : ∀ x, x < sN s * sM s → φ x < sN s * sM s) (h15 : ∀ x, x < sN s * sM s → w0.1 15 x = nI (φ x)) (h : ∀ w, CW s w → OnL p1 w0 w → lW p1 (liS s φ) w → K (nI (usN s 6)) w) : RunI 1 M_K_listImage [.ref 14, .ref 10, .ref p1] w0 K := by
  rw [← liS_n s φ] at h
  rcases hp with rfl | rfl | rfl
  · exact t_listImage rfl (by decide) rfl (by decide) (by decide) (by decide) (by decide) (by decide) (by decide) hC.1 hφ h15 (fun k hk => ⟨hC.2.2.1 k hk, hs.bl hk⟩) (fun w hm hL => h w (hC.mo (hm.mo.mono (by decide) (fun _ c => absurd c List.not_mem_nil))) hm hL)
  · exact t_listImage rfl (by decide) rfl (by decide) (by decide) (by decide) (by decide) (by decide) (by decide) hC.1 hφ h15 (fun k hk => ⟨hC.2.2.1 k hk, hs.bl hk⟩) (fun w hm hL => h w (hC.mo (hm.mo.mono (by decide) (fun _ c => absurd c List.not_mem_nil))) hm hL)
  · exact t_listImage rfl (by decide) rfl (by decide) (by decide) (by decide) (by decide) (by decide) (by decide) hC.1 hφ h15 (fun k hk => ⟨hC.2.2.1 k hk, hs.bl hk⟩) (fun w hm hL => h w (hC.mo (hm.mo.mono (by decide) (fun _ c => absurd c List.not_mem_nil))) hm hL)
theorem CW.on15 {s : Sg} {w w1 : Wd} (h : CW s w) (hm : OnI 15 w w1) : CW s w1 := h.mo (hm.mo.mono (by decide) (fun _ c => absurd c List.not_mem_nil))
theorem t_same {s : Sg} {p1 : Nat} {w0 : Wd} {K : Int32 → Wd → Prop} (hs : WF s) (hC : CW s w0) (hp : p1 = 16 ∨ p1 = 17 ∨ p1 = 18) (h : ∀ w, CW s w → Mo [15, p1] [] w0 w → lW p1 (liS s iD) w → K (nI (usN s 6)) w) : RunI 1 M_K_listSame [.ref 14, .ref 10, .ref p1] w0 K := by
  have ok := hs.1
  have e1 : liS s (gM (sN s) (sM s) 1) = liS s iD := liF_cong (fun x hx => gM_1 ok hx) 6
  have go : RunV 1 M_G_fillMultiples [.ref 1, .int 1, .ref 15] w0 (fun w1 => RunI 1 M_K_listImage [.ref 14, .ref 10, .ref p1] w1 (fun r3 w2 => K r3 w2)) := by
    refine t_fillMul (t := 1) rfl (by decide) hC.1.1 (by decide) (by decide) (fun w1 hm1 h15 => t_img hs (hC.on15 hm1) hp (fun x _ => gM_lt ok 1 x) h15 (fun w2 hC2 hm2 hL2 => h w2 hC2 ?_ (e1 ▸ hL2)))
    exact (hm1.mo.mono (fun q hq => by rw [List.mem_singleton.mp hq]; exact List.mem_cons_self ..) (fun _ c => absurd c List.not_mem_nil)).tr (hm2.mo.mono (fun q hq => List.mem_cons_of_mem _ hq) (fun _ c => absurd c List.not_mem_nil))
  rcases hp with rfl | rfl | rfl
  · exact r_K_listSame rfl (by decide) rfl (by decide) go
  · exact r_K_listSame rfl (by decide) rfl (by decide) go
  · exact r_K_listSame rfl (by decide) rfl (by decide) go
theorem liS_62 {s : Sg} (hs : WF s) {φ : Nat → Nat} (hφ : ∀ x, x < sN s * sM s → φ x < sN s * sM s) (i : Nat) : (liS s φ).2 i < 2 ^ 62 := by
  have h1 := liF_lt (f := sBl s) hs.1 hφ 6 i
  have h40 := pow40 hs.1.2.2
  show (liF _ _ _ _ _).2 i < _
  omega
/-- how many automorphisms keep the blocks -/
def syN (s : Sg) : Nat → Nat := fb_ct (fun k => decide (cpr (liS s (fK s k)).2 (liS s iD).2 (usN s 6) 0 = 0))
theorem syN_s (s : Sg) (k : Nat) : syN s (k + 1) = syN s k + (if cpr (liS s (fK s k)).2 (liS s iD).2 (usN s 6) 0 = 0 then 1 else 0) := ct_s (fun k => cpr (liS s (fK s k)).2 (liS s iD).2 (usN s 6) 0 = 0) k
theorem cpv_0 {x : Nat} : cpv x = 0 ↔ x = 0 := by
  match x with
  | 0 => exact ⟨fun _ => rfl, fun _ => rfl⟩
  | 1 => exact ⟨fun c => absurd c (by decide), fun c => absurd c (by decide)⟩
  | x + 2 => exact ⟨fun c => absurd (show (-1 : Int32) = 0 from c) (by decide), fun c => absurd c (by omega)⟩
theorem CW.na {s : Sg} {w : Wd} (h : CW s w) : w.1 1 5 = nI (nAut (sN s) (sM s)) := h.1.2.2.2.2.1
theorem MW.na {s : Sg} {w : Wd} (h : MW s w) : w.1 39 11 = nI (nAut (sN s) (sM s)) := h.1.2.1
theorem t_symm {s : Sg} {w0 : Wd} {K : Int32 → Wd → Prop} (hs : WF s) (hC : CW s w0) (h : ∀ w, CW s w → Mo [15, 16, 17] [] w0 w → K (nI (syN s (nAut (sN s) (sM s)))) w) : RunI 1 M_K_keepingAutomorphisms [.ref 14, .ref 10] w0 K := by
  have ok := hs.1
  have n480 := nAut_480 ok
  have hu6 := usN_6 s
  have key : ∀ j k w, k + j = nAut (sN s) (sM s) → CW s w → Mo [15, 16, 17] [] w0 w → lW 16 (liS s iD) w → E 1 M_K_keepingAutomorphisms 15 [(0, .ref 14), (1, .ref 10), (2, .int (nI (usN s 6))), (3, .int (nI (syN s k))), (4, .int (nI k))] [] w (qI 1 K) := by
    intro j
    induction j with
    | zero =>
      intro k w hk hCw hm hL
      refine w_K_keepingAutomorphisms_15 ?_
      rw [hCw.na]
      refine pk_le (nAut (sN s) (sM s)) k (fun _ => ?_) (fun c => by omega)
      rw [show k = nAut (sN s) (sM s) by omega]
      exact h w hCw hm
    | succ j ih =>
      intro k w hk hCw hm hL
      have ih1 := ih (k + 1)
      rw [syN_s] at ih1
      have hφ : ∀ x, x < sN s * sM s → fK s k x < sN s * sM s := fun x _ => gF_lt ok _ _ x
      refine w_K_keepingAutomorphisms_15 ?_
      rw [hCw.na]
      refine pk_le (nAut (sN s) (sM s)) k (fun c => by omega) (fun _ => t_fillAut rfl (by decide) hCw.1 (by decide) (by omega) (fun w1 hm1 h15 => t_img hs (hCw.on15 hm1) (Or.inr (Or.inl rfl)) hφ h15 (fun w2 hC2 hm2 hL2 => ?_)))
      have m2 : Mo [15, 17] [] w w2 := (hm1.mo.mono (by decide) (fun _ c => absurd c List.not_mem_nil)).tr (hm2.mo.mono (by decide) (fun _ c => absurd c List.not_mem_nil))
      have hL16 : lW 16 (liS s iD) w2 := fun i hi => by
        rw [(m2.pl 16 (by decide) (by decide)).2]
        exact hL i hi
      refine t_compare (F := (liS s (fK s k)).2) (G := (liS s iD).2) rfl (by decide) rfl (by decide) hu6 (fun i hi => ⟨hL2 i (by rw [liS_n]; exact hi), liS_62 hs hφ i⟩) (fun i hi => ⟨hL16 i (by rw [liS_n]; exact hi), liS_62 hs (fun x hx => hx) i⟩) ?_
      rw [cpv_0]
      refine ⟨fun c a6 e6 => ?_, fun c a7 e7 a8 e8 => ?_⟩
      · rw [i1, nI_add] at e6
        subst e6
        rw [if_neg c, Nat.add_zero] at ih1
        exact ih1 w2 (by omega) hC2 (hm.tr (m2.mono (by decide) (fun _ c => absurd c List.not_mem_nil))) hL16
      · rw [i1, nI_add] at e7 e8
        subst e7
        subst e8
        rw [if_pos c] at ih1
        exact ih1 w2 (by omega) hC2 (hm.tr (m2.mono (by decide) (fun _ c => absurd c List.not_mem_nil))) hL16
  exact r_K_keepingAutomorphisms (t_same hs hC (Or.inl rfl) (fun w1 hC1 hm1 hL1 => key (nAut (sN s) (sM s)) 0 w1 (by omega) hC1 (hm1.mono (by decide) (fun _ c => absurd c List.not_mem_nil)) hL1))
