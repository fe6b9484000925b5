/-- the first world -/
abbrev z0 : Wd := (fun _ _ => 0, fun _ _ => 0)
def s00 : Sg := (fun j => if j = 0 then 7 else if j = 1 then 1 else if j = 2 then 1 else 0, fun _ _ => 0)
theorem s00_wf : WF s00 := by
  refine ⟨gok71, by decide, by decide, by decide, by decide, by decide, by decide, by decide, ⟨fun _ => rfl, fun _ => rfl⟩, fun k _ => Nat.two_pow_pos _, fun i _ => Nat.two_pow_pos _, fun i hi => absurd hi (Nat.not_lt_zero i), fun h => absurd h (by decide), fun q hq => Or.inl ?_⟩
  rcases (show q = 0 ∨ q = 1 by omega) with rfl | rfl <;> rfl
theorem inv0 {w1 w2 : Wd} (hG : Gd 7 1 w1) (hc : ChG z0 w1) (hB : ChI PAb (upL (upI (upI (upI (upL w1 0 12 1) 39 0 (nI 7)) 39 1 (nI 1)) 39 2 (nI 7)) 39 3 1) w2) (hA : AuB (autL 7 1) w2) : INV w2 := by
  have b1 : ∀ p k, p ≠ 39 → p ≠ 45 → p ≠ 46 → w2.1 p k = w1.1 p k := fun p k h1 h2 h3 => by
    rw [hB.1 p k (fun c => by rcases c with c | c | c <;> omega), upL_1, upI_ne (by omega), upI_ne (by omega), upI_ne (by omega), upL_1]
  have b2 : ∀ p k, p ≠ 39 → p ≠ 0 → w2.2 p k = w1.2 p k := fun p k h1 h2 => by
    rw [hB.2, upL_ne (by omega), upI_2, upI_2, upI_2, upL_ne (by omega)]
  have b39 : ∀ k, k ≠ 0 → k ≠ 1 → k ≠ 2 → k ≠ 11 → w2.1 39 k = w1.1 39 k := fun k h0 h1 h2 h3 => by
    rw [hB.1 39 k (fun c => by rcases c with c | c | c <;> omega), upL_1, upI_ne (by omega), upI_ne (by omega), upI_ne (by omega), upL_1]
  have z1 : ∀ p k, ¬ (1 ≤ p ∧ p ≤ 7) → w1.1 p k = 0 := fun p k h => by rw [(hc p h).1]
  have z2 : ∀ p k, ¬ (1 ≤ p ∧ p ≤ 7) → w1.2 p k = 0 := fun p k h => by rw [(hc p h).2]
  have hm : Mo [0, 39, 45, 46] [] w1 w2 := fun p k hp _ => by
    have q0 : p ≠ 0 := fun e => hp (by rw [e]; decide)
    have q1 : p ≠ 39 := fun e => hp (by rw [e]; decide)
    have q2 : p ≠ 45 := fun e => hp (by rw [e]; decide)
    have q3 : p ≠ 46 := fun e => hp (by rw [e]; decide)
    exact ⟨b1 p k q1 q2 q3, b2 p k q1 q0⟩
  have e1 : ∀ p k, ¬ (1 ≤ p ∧ p ≤ 7) → p ≠ 39 → p ≠ 45 → p ≠ 46 → w2.1 p k = nI 0 := fun p k h h1 h2 h3 => (b1 p k h1 h2 h3).trans (z1 p k h)
  have e2 : ∀ p k, ¬ (1 ≤ p ∧ p ≤ 7) → p ≠ 39 → p ≠ 0 → w2.2 p k = lN 0 := fun p k h h1 h2 => (b2 p k h1 h2).trans (z2 p k h)
  have e39 : ∀ k, k ≠ 0 → k ≠ 1 → k ≠ 2 → k ≠ 11 → w2.1 39 k = nI 0 := fun k h0 h1 h2 h3 => (b39 k h0 h1 h2 h3).trans (z1 39 k (by decide))
  have f39 : ∀ k, k ≠ 11 → w2.1 39 k = (upI (upI (upI (upL w1 0 12 1) 39 0 (nI 7)) 39 1 (nI 1)) 39 2 (nI 7)).1 39 k := fun k h => by
    rw [hB.1 39 k (fun c => by rcases c with c | c | c <;> omega), upL_1]
  have hBg : Bg 7 1 w2 := ⟨gok71, by rw [f39 0 (by decide), upI_ne (by omega), upI_ne (by omega), upI_eq], by rw [f39 1 (by decide), upI_ne (by omega), upI_eq], by rw [f39 2 (by decide), upI_eq]⟩
  have h39 : w2.2 39 3 = lN 1 := by rw [hB.2, upL_eq]; rfl
  have h012 : w2.2 0 12 = lN 1 := by rw [hB.2, upL_ne (by omega), upI_2, upI_2, upI_2, upL_eq]; rfl
  refine ⟨s00, s00_wf, ⟨hG.mo hm (by decide), h012, fun k _ => e2 10 k (by decide) (by decide) (by decide), ⟨e1 11 1 (by decide) (by decide) (by decide) (by decide), fun i hi => absurd hi (Nat.not_lt_zero i)⟩, ⟨e1 35 2 (by decide) (by decide) (by decide) (by decide), fun h => absurd h (by decide)⟩, ⟨e1 37 2 (by decide) (by decide) (by decide) (by decide), fun h => absurd h (by decide)⟩, ⟨e1 24 8 (by decide) (by decide) (by decide) (by decide), e1 24 9 (by decide) (by decide) (by decide) (by decide), e1 24 10 (by decide) (by decide) (by decide) (by decide), fun h => absurd h (by decide), fun d _ => e1 28 d (by decide) (by decide) (by decide) (by decide)⟩, ⟨e1 32 3 (by decide) (by decide) (by decide) (by decide), fun i hi => absurd hi (Nat.not_lt_zero i)⟩⟩, ⟨⟨hBg, hA⟩, h39, fun k _ => e2 40 k (by decide) (by decide) (by decide), ⟨e39 6 (by decide) (by decide) (by decide) (by decide), fun i hi => absurd hi (Nat.not_lt_zero i)⟩, fun q hq => ?_, ⟨e39 15 (by decide) (by decide) (by decide) (by decide), e39 14 (by decide) (by decide) (by decide) (by decide), e39 16 (by decide) (by decide) (by decide) (by decide), fun k hk => absurd hk (Nat.not_lt_zero k)⟩, ⟨e39 10 (by decide) (by decide) (by decide) (by decide), fun i hi => absurd hi (Nat.not_lt_zero i)⟩⟩⟩
  rcases (show q = 0 ∨ q = 1 by omega) with rfl | rfl
  · exact ⟨e1 43 0 (by decide) (by decide) (by decide) (by decide), fun h => absurd h (by decide)⟩
  · exact ⟨e1 43 1 (by decide) (by decide) (by decide) (by decide), fun h => absurd h (by decide)⟩
theorem fresh_A {w1 : Wd} (hc : ChG z0 w1) : Fresh 39 RfA (upL w1 0 12 1) := by
  unfold RfA
  repeat (refine Fresh.up ?_ (by decide))
  intro q hq
  have h := hc q (by omega)
  refine ⟨fun j => ?_, fun j => ?_, fun _ => rfl⟩
  · rw [upL_1, h.1]
  · rw [upL_ne (by omega), h.2]
/-- an array's kind in the tables -/
theorem arr_ex {s : State} {args : Array Value} {ty : FieldType} (h : (Cond.arrayClass ty).before args s = true) : ∃ cA : ClassId, ArrOfT s cA ty ∧ s.vm.findClass ("[" ++ ty.toString) = some cA := by
  obtain ⟨cA, kA, comp, h1, h2, h3⟩ := Cond.arrayClass_spec h
  exact ⟨cA, fun n z => ⟨fun k h => (by cases h), kA, h2, comp, h3⟩, h1⟩
set_option maxHeartbeats 2000000 in
theorem whole_start {p : Program} {e : Env} {s : State} {m : MethodId} {below : List Frame} {meth : Method} {c : Code} (l : Launch) (hflags : l.flags = flags0) {b L : Nat} {xs : Nat → Int32} (hL : L ≤ 3072) (C0 : lw_At p s m meth c b L xs) : W p l e room_1 s m #[Value.ref b] below meth c s.heap [] 0 0 (lw_Z below #[Value.ref b] s) (entryFrame m ([Value.ref b] : List Value).toArray 4) := by
  have hts := C0.2.2.2.2.2.1
  have kn : ∀ {ci : Nat} {C : String} {T : u_T} {ty : Nat → FieldType}, KndOK ci C T ty → Cond.instantiable C (nfl ci) ∈ lw_tbl → ∃ (cC : ClassId) (iS : Nat → Nat), u_Kn s C T (nfl ci) cC iS := fun hk hi => u_known hts hk.2.1 (hts _ hi)
  obtain ⟨c0, i0_, k0⟩ := kn ko_0 (mt 192 (by decide +kernel))
  obtain ⟨c1, i1_, k1⟩ := kn ko_1 (mt 115 (by decide +kernel))
  obtain ⟨c2, i2_, k2⟩ := kn ko_2 (mt 212 (by decide +kernel))
  obtain ⟨c3, i3_, k3⟩ := kn ko_3 (mt 144 (by decide +kernel))
  obtain ⟨c4, i4_, k4⟩ := kn ko_4 (mt 231 (by decide +kernel))
  obtain ⟨c5, i5_, k5⟩ := kn ko_5 (mt 26 (by decide +kernel))
  obtain ⟨c6, i6_, k6⟩ := kn ko_6 (mt 129 (by decide +kernel))
  obtain ⟨c7, i7_, k7⟩ := kn ko_7 (mt 169 (by decide +kernel))
  obtain ⟨c8, i8_, k8⟩ := kn ko_8 (mt 309 (by decide +kernel))
  obtain ⟨c9, i9_, k9⟩ := kn ko_9 (mt 275 (by decide +kernel))
  obtain ⟨c10, i10_, k10⟩ := kn ko_10 (mt 18 (by decide +kernel))
  obtain ⟨c11, i11_, k11⟩ := kn ko_11 (mt 929 (by decide +kernel))
  obtain ⟨dC, dI, hKc⟩ : ∃ (dC : Nat → ClassId) (dI : Nat → Nat → Nat), ∀ (k : Nat) (q : vw_C), cls_[k]? = some q → u_Kn s q.1 q.2.1 q.2.2 (dC k) (dI k) := by
    refine ⟨fun k => match k with | 0 => c0 | 1 => c1 | 2 => c2 | 3 => c3 | 4 => c4 | 5 => c5 | 6 => c6 | 7 => c7 | 8 => c8 | 9 => c9 | 10 => c10 | _ => c11, fun k => match k with | 0 => i0_ | 1 => i1_ | 2 => i2_ | 3 => i3_ | 4 => i4_ | 5 => i5_ | 6 => i6_ | 7 => i7_ | 8 => i8_ | 9 => i9_ | 10 => i10_ | _ => i11_, ?_⟩
    intro k q hq
    match k, hq with
    | 0, hq => cases hq; exact k0
    | 1, hq => cases hq; exact k1
    | 2, hq => cases hq; exact k2
    | 3, hq => cases hq; exact k3
    | 4, hq => cases hq; exact k4
    | 5, hq => cases hq; exact k5
    | 6, hq => cases hq; exact k6
    | 7, hq => cases hq; exact k7
    | 8, hq => cases hq; exact k8
    | 9, hq => cases hq; exact k9
    | 10, hq => cases hq; exact k10
    | 11, hq => cases hq; exact k11
    | k + 12, hq => simp [cls_] at hq
  obtain ⟨x0, a0, f0⟩ := arr_ex (hts _ ac_int)
  obtain ⟨x1, a1, f1⟩ := arr_ex (hts _ ac_long)
  obtain ⟨x2, a2, f2⟩ := arr_ex (hts _ ac_char)
  obtain ⟨x3, a3, f3⟩ := arr_ex (hts _ ac_boolean)
  obtain ⟨cA, hcA⟩ : ∃ cA : Nat → ClassId, cA 0 = x0 ∧ cA 1 = x1 ∧ cA 2 = x2 ∧ cA 3 = x3 := ⟨fun k => match k with | 0 => x0 | 1 => x1 | 2 => x2 | _ => x3, rfl, rfl, rfl, rfl⟩
  have hK : va_K (dC, dI) cls_ (tysB cA) s := by
    refine ⟨hKc, fun k q hq => ?_⟩
    unfold tysB at hq
    rw [hcA.1, hcA.2.1, hcA.2.2.1, hcA.2.2.2] at hq
    match k, hq with
    | 0, hq => cases hq; exact ⟨a0, f0⟩
    | 1, hq => cases hq; exact ⟨a1, f1⟩
    | 2, hq => cases hq; exact ⟨a2, f2⟩
    | 3, hq => cases hq; exact ⟨a3, f3⟩
    | k + 4, hq => simp at hq
  have C : LC p s m meth c b L xs (dC, dI) cA := ⟨C0, tb_of hts, hK⟩
  have main : LW p l e s m below meth c b (dC, dI) cA 0 [(0, .ref b)] [] 0 R0 z0 0 := by
    refine l_new C 10 d_law_0 nw_23_7 rfl ⟨fun _ => rfl, fun _ => rfl, fun _ => rfl⟩ (by decide) (by decide) ?_
    refine l_dup C d_law_3 rfl ?_
    refine l_callI C (q := 0) (st := [.ref (s.heap.size + 0)]) M_A_init [] (Q' := fun r N R w => r = none ∧ N = 39 ∧ R = RfA ∧ ∃ w1, Gd 7 1 w1 ∧ ChG z0 w1 ∧ w = upL w1 0 12 1) d_law_4 (mt 19 (by decide +kernel)) cv_A_init rfl (Nat.le_of_ble_eq_true rfl) ⟨by decide, by decide⟩ ⟨by decide, by decide⟩ (c_A (fun q _ => ⟨fun _ => rfl, fun _ => rfl, fun _ => rfl⟩) (fun w1 hG hc => ⟨rfl, rfl, rfl, w1, hG, hc, rfl⟩)) (fun r N' R' w' hN hq => ?_)
    obtain ⟨h1, h2, h3, w1, hG, hc, h4⟩ := hq
    subst h1
    subst h2
    subst h3
    subst h4
    have hFr := fresh_A hc
    show LW p l e s m below meth c b (dC, dI) cA 7 [(0, .ref b)] [.ref (s.heap.size + 0)] 39 RfA (upL w1 0 12 1) 5806
    refine l_astore_n C (L' := [(0, .ref b), (1, .ref (s.heap.size + 0))]) [1, 0] d_law_7 rfl ?_
    refine l_new C 11 d_law_8 nw_23_10 rfl (hFr 39 (Nat.le_refl _)) (by decide) (by decide) ?_
    refine l_dup C d_law_11 rfl ?_
    refine l_callI C (q := 39) (st := [.ref (s.heap.size + 39)]) M_B_init [] (Q' := fun r N R w => r = none ∧ N = 58 ∧ R = Rf 1 ∧ INV w) d_law_12 (mt 930 (by decide +kernel)) cv_B_init rfl (Nat.le_of_ble_eq_true rfl) ⟨by decide, by decide⟩ ⟨by decide, by decide⟩ (c_B (hFr.mono (by decide)) (fun w2 hch hAu => ⟨rfl, rfl, rfl, inv0 hG hc hch hAu⟩)) (fun r N' R' w' hN hq => ?_)
    obtain ⟨h1, h2, h3, hI⟩ := hq
    subst h1
    subst h2
    subst h3
    show LW p l e s m below meth c b (dC, dI) cA 15 [(0, .ref b), (1, .ref (s.heap.size + 0))] [.ref (s.heap.size + 39)] 58 (Rf 1) w' 19967
    refine l_astore_n C (L' := [(0, .ref b), (1, .ref (s.heap.size + 0)), (2, .ref (s.heap.size + 39))]) [1, 2, 0] d_law_15 rfl ?_
    refine l_iconst C (v := nI (6 * 0)) d_law_16 (by decide) ?_
    refine l_istore_n C (L' := [(0, .ref b), (1, .ref (s.heap.size + 0)), (2, .ref (s.heap.size + 39)), (3, .int (nI (6 * 0)))]) [1, 2, 3, 0] d_law_17 rfl ?_
    exact law_loop C op_setGroup op_order op_sum op_multiple op_orderOf op_automorphisms op_image op_setHole op_hole op_put op_take op_shift op_apply op_multiply op_exchange op_improve op_undo op_block op_normal op_stabilizer op_blockSize op_count op_covered op_greatestCount op_index op_deficiency op_isMultiplier op_multipliers op_symmetries op_canonical op_isEquivalent op_designBlocks op_designBlock op_replication op_pairs op_intersections op_rank op_disjointBlocks op_search op_searchSteps op_candidates op_takeSolution op_append op_clearText op_faultPosition op_read op_keep op_restore op_checksum hL (L + 7) 0 w' hI (by omega) (by omega)
  have hl := lv_entry ([.ref b]) (n := 4) (Nat.le_of_ble_eq_true rfl)
  rw [lg_entry_eq]
  generalize (lg_sl ([.ref b]) ++ List.replicate (4 - (lg_sl ([.ref b])).length) Slot.unset).toArray = ls at hl ⊢
  have hl : lv_has ls 4 [(0, .ref b)] := hl
  exact main s.heap [] ls (fun k q h => by simp [wsB] at h) va_S.rf hl
