section XC
variable {p : Program} {l : Launch} {e : Env} {s : State} {m : MethodId} {args : Array Value} {below : List Frame} {meth : Method} {c : Code} {H : Heap} {locs : List Loc} {cells slots : Nat} {Qw : State → Prop} {RM : Room}
theorem W_sized {g : JFrame} (h : H.size ≤ s.heap.size + cells → W p l e RM s m args below meth c H locs cells slots Qw g) : W p l e RM s m args below meth c H locs cells slots Qw g := by
  intro T hT X
  have h1 : T.heap.size ≤ s.heap.size + cells := X.same.2.2.1
  rw [hT] at h1
  exact h h1 T hT X
theorem size_eq {D : va_G} {cA : Nat → ClassId} {b N k : Nat} {R : RefT} {w : Wd} (hb : b ≤ s.heap.size) (hN : s.heap.size + k = b + N) (hP : va_P D cls_ (wsB cA b N R w) H) (hS : va_S (fun q => b ≤ q) s.heap H locs) (hle : H.size ≤ s.heap.size + k) : H.size = b + N := by
  rcases Nat.eq_zero_or_pos N with h0 | h0
  · have := hS.1
    omega
  · have h1 := (hP (N - 1) _ (wsB_at (by omega))).lt
    simp only at h1
    omega
end XC
theorem cvB_list (b : Nat) (r : Option Value) (st : List Value) : (r.map (cvB b)).toList ++ st.map (cvB b) = (r.toList ++ st).map (cvB b) := by
  cases r <;> simp
section XD
variable {M : MI} {pc : Nat} {L L' : List (Nat × Value)} {st : List Value} {N : Nat} {R : RefT} {w : Wd} {k n : Nat} {Q : QT}
/-- a call's continuation -/
theorem run_go {M' : MI} {Q' : QT} {p : Program} {l : Launch} {e : Env} {s : State} {m : MethodId} {args : Array Value} {below : List Frame} {meth : Method} {c : Code} {D : va_G} {cA : Nat → ClassId} {b : Nat} {H : Heap} {locs : List Loc} {ls : Array Slot} {st0 : List Value} {a : Array Value}
    (F : FrC M D cA b N k p s m meth c) (hH : H.size = b + N) (hS : va_S (fun q => b ≤ q) s.heap H locs) (hl : lv_has ls M.2.2.1 (cLB b L))
    (hr : va_Run p l e M.2.2.2.2 s m args below meth c H locs k n M'.2.2.2.2.cells M'.2.2.2.2.slots (F0 m pc ls st0) (st.map (cvB b)) (QF M' b D cA Q' a) (fun q => b ≤ q))
    (hQ : ∀ r N' R' w', Q' r N' R' w' → Ex M (pc + 3) L (r.toList ++ st) N' R' w' (k + M'.2.2.2.2.cells) (n + M'.2.2.2.2.slots) Q) :
    W p l e M.2.2.2.2 s m args below meth c H locs k n (MQ below (QF M b D cA Q) args s M.2.2.2.2.cells M.2.2.2.2.slots (fun q => b ≤ q)) (F0 m pc ls st0) := by
  intro T hT X
  obtain ⟨v, st₀, t, T', Lc, h0, X', hL, e1, e2, ⟨⟨r, N', R', w', hv, hq, hHL⟩, hcel, hz, hk⟩, stp⟩ := hr T hT X
  have hv2 : v = r.map (cvB b) := by injection hv
  subst hv2
  rw [h0] at hcel hz hk
  obtain ⟨f1, f2, f3, f4, f5, f6, f7, f8, f9, f10, f11⟩ := F
  have hN' : s.heap.size + (k + M'.2.2.2.2.cells) = b + N' := by
    have := hHL.1
    omega
  obtain ⟨t2, a1, b1⟩ := hQ r N' R' w' hq p l e s m args below meth c D cA b T'.heap (locs ++ Lc) ls ⟨f1, f2, f3, f4, f5, f6, f7, f8, f9, f10, hN'⟩ (by rw [e1]; exact hHL.2.1)
    ⟨Nat.le_trans hS.1 (by rw [e1]; exact hz), fun q h1 h2 => by rw [e1, hk q (Nat.lt_of_lt_of_le h1 hS.1) h2]; exact hS.2.1 q h1 h2, fun q hq => by
      rcases List.mem_append.mp hq with h | h
      · exact hS.2.2 q h
      · exact hL q h⟩ hl T' rfl X'
  refine ⟨t2, stp t2 ?_, b1⟩
  show Steps p.tables e below (T'.setTop (F0 m (pc + 3) ls ((r.map (cvB b)).toList ++ st.map (cvB b)))) t2
  rw [cvB_list]
  exact a1
theorem blind_HL {D : va_G} {cA : Nat → ClassId} {b : Nat} {av : List Value} : FrameBlind (va_Pc av (HL D cA b N R w)) := by
  intro a U g mk hq
  obtain ⟨q0, q1, q2, q3, q4⟩ := hq
  exact ⟨q0, q1, q2, va_K.moved (u := U) (U := U.calling g mk a) (Vm.Alike.refl U.vm) q3, tb_same (s := U) (U := U.calling g mk a) rfl q4⟩
/-- what a call's facts are -/
def CC (M' : MI) (na : Nat) : Prop := Cond.code M'.1 M'.2.1 M'.2.2.1 M'.2.2.2.1 ∈ lw_tbl ∧ (M'.1.cls ≠ "java/lang/invoke/MethodHandle" ∧ M'.1.cls ≠ "java/lang/invoke/VarHandle") ∧ (parseMethodDescriptor M'.1.desc).map (fun d => d.parameters.length) = some na ∧ Cond.initialized M'.1.cls ∈ lw_tbl
def MLk (own : String) (idx : Nat) (M' : MI) : Prop := Cond.methodLink own idx M'.1 ∈ lw_tbl ∨ ∃ host, Cond.methodLinkNest own idx M'.1 host ∈ lw_tbl
def CV (M' : MI) (na : Nat) : Prop := CC M' na ∧ Cond.instanceMethod M'.1 ∈ lw_tbl ∧ Cond.selects M'.1.cls M'.1 M'.1 ∈ lw_tbl
def CS (M' : MI) (na : Nat) : Prop := CC M' na ∧ Cond.static M'.1 ∈ lw_tbl
def CI (M' : MI) (na : Nat) : Prop := CC M' na ∧ Cond.instanceMethod M'.1 ∈ lw_tbl ∧ M'.1.name = "<init>" ∧ M'.2.2.2.1 = none
def Fits (M' : MI) (M : MI) : Prop := M'.2.2.2.2.frames + 1 ≤ M.2.2.2.2.frames ∧ 8 + (M'.2.2.1 + 11) + M'.2.2.2.2.locals ≤ M.2.2.2.2.locals
theorem cc_len {M' : MI} {na : Nat} (h : (parseMethodDescriptor M'.1.desc).map (fun d => d.parameters.length) = some na) : ∀ sig, parseMethodDescriptor M'.1.desc = some sig → na = sig.parameters.length := by
  intro sig h2
  rw [h2] at h
  exact (Option.some.inj h).symm
theorem cc_ws {M' : MI} {s : State} (hT : TB s) (hc : Cond.code M'.1 M'.2.1 M'.2.2.1 M'.2.2.2.1 ∈ lw_tbl) : ∀ w ∈ [Cond.code M'.1 M'.2.1 M'.2.2.1 M'.2.2.2.1], ∀ (a' : Array Value) (U : State), s.WarmedH U.vm → w.before a' U = true := by
  intro w hw a' U hW
  rw [List.mem_singleton.mp hw]
  exact tb_use (tb_warm hW hT) hc rfl
theorem cvB_rev (b : Nat) (as : List Value) : (as.map (cvB b)).reverse = (as.reverse).map (cvB b) := by simp
theorem hl_pre {D : va_G} {cA : Nat → ClassId} {b : Nat} {s : State} {H : Heap} {av : List Value} (hH : H.size = b + N) (hP : va_P D cls_ (wsB cA b N R w) H) (hK : va_K D cls_ (tysB cA) s) (hT : TB s) : ∀ U : State, U.heap = H → s.WarmedH U.vm → va_Pc av (HL D cA b N R w) av.toArray U :=
  fun U hU hW => ⟨rfl, by rw [hU]; exact hH, by rw [hU]; exact hP, va_K.moved hW.alike hK, tb_warm hW hT⟩
theorem x_callV {idx q na ci : Nat} (M' : MI) (as : List Value) (hd : decode M.2.1 pc = .ok (.invokevirtual idx, 3)) (hlk : MLk M.1.cls idx M') (hc : CV M' na) (hk : kd q = .inr ci) (hcn : (cls_[ci]?).map (fun x => x.1) = some M'.1.cls) (hq : q < N) (hn : as.length = na) (hw : (st.map fun v => v.category).sum ≤ 8) (hR : Fits M' M) (hf : k + M'.2.2.2.2.cells ≤ M.2.2.2.2.cells ∧ n + M'.2.2.2.2.slots ≤ M.2.2.2.2.slots)
    (h : Runs M' (.ref q :: as) N R w (fun r N' R' w' => Ex M (pc + 3) L (r.toList ++ st) N' R' w' (k + M'.2.2.2.2.cells) (n + M'.2.2.2.2.slots) Q)) : Ex M pc L (as.reverse ++ .ref q :: st) N R w k n Q := by
  intro p l e s m args below meth c D cA b H locs ls F hP hS hl
  obtain ⟨f1, f2, f3, f4, f5, f6, f7, f8, f9, f10, f11⟩ := F
  refine W_sized (fun hle => ?_)
  have hH := size_eq f10 f11 hP hS hle
  obtain ⟨⟨c1, c2, c3, c4⟩, c5, c6⟩ := hc
  obtain ⟨x, hx, hxn⟩ : ∃ x, cls_[ci]? = some x ∧ x.1 = M'.1.cls := by
    cases hx : cls_[ci]? with
    | none => rw [hx] at hcn; cases hcn
    | some x => rw [hx] at hcn; exact ⟨x, rfl, Option.some.inj hcn⟩
  have hrec := va_recv f9 hP hx (show (wsB cA b N R w)[q]? = some (b + q, .inr (ci, fsB b R w q ci)) by rw [wsB_at hq, celB_o hk])
  rw [hxn] at hrec
  have hst : ((as.reverse ++ .ref q :: st).map (cvB b)) = (as.map (cvB b)).reverse ++ .ref (b + q) :: st.map (cvB b) := by simp [cvB]
  have hww : ((st.map (cvB b)).map fun v => v.category).sum ≤ 8 := by
    rw [List.map_map, show ((fun v : Value => v.category) ∘ cvB b) = (fun v => v.category) from funext (fun v => cvB_cat b v)]
    exact hw
  rw [hst]
  have hpre := hl_pre (av := (.ref q :: as).map (cvB b)) hH hP f9 f8
  rcases hlk with hlk | ⟨host, hlk⟩
  · exact run_go ⟨f1, f2, f3, f4, f5, f6, f7, f8, f9, f10, f11⟩ hH hS hl
      (va_runV (C := M'.1.cls) (bytes := M'.2.1) (maxL := M'.2.2.1) (ret := M'.2.2.2.1) (nL := M.2.2.1) (own := M.1.cls) (Ts := []) (n := na) (As := as.map (cvB b)) (rest := st.map (cvB b)) ⟨f1, f2, f3, f4, fun _ h9 => by cases h9⟩ (h l D cA b)
        ⟨⟨rfl, rfl, hR.1, hR.2, cc_ws f8 c1, List.mem_singleton.mpr rfl, tb_use f8 c1 rfl, tb_use f8 c4 rfl, c2, cc_len c3, tb_use f8 hlk rfl⟩, tb_use f8 c5 rfl, tb_use f8 c6 rfl⟩
        ⟨blind_HL, hrec, hpre⟩ rfl (by rw [List.length_map]; exact hn) hl.1 rfl (lv_room hww) hd hf) (fun _ _ _ _ z => z)
  · exact run_go ⟨f1, f2, f3, f4, f5, f6, f7, f8, f9, f10, f11⟩ hH hS hl
      (va_runVN (host := host) (C := M'.1.cls) (bytes := M'.2.1) (maxL := M'.2.2.1) (ret := M'.2.2.2.1) (nL := M.2.2.1) (own := M.1.cls) (Ts := []) (n := na) (As := as.map (cvB b)) (rest := st.map (cvB b)) ⟨f1, f2, f3, f4, fun _ h9 => by cases h9⟩ (h l D cA b)
        ⟨⟨⟨rfl, rfl, hR.1, hR.2, cc_ws f8 c1, List.mem_singleton.mpr rfl⟩, tb_use f8 c1 rfl, tb_use f8 c4 rfl, c2, cc_len c3, tb_use f8 hlk rfl⟩, tb_use f8 c5 rfl, tb_use f8 c6 rfl⟩
        ⟨blind_HL, hrec, hpre⟩ rfl (by rw [List.length_map]; exact hn) hl.1 rfl (lv_room hww) hd hf) (fun _ _ _ _ z => z)
theorem x_callS {idx na : Nat} (M' : MI) (as : List Value) (hd : decode M.2.1 pc = .ok (.invokestatic idx, 3)) (hlk : MLk M.1.cls idx M') (hc : CS M' na) (hn : as.length = na) (hw : (st.map fun v => v.category).sum ≤ 8) (hR : Fits M' M) (hf : k + M'.2.2.2.2.cells ≤ M.2.2.2.2.cells ∧ n + M'.2.2.2.2.slots ≤ M.2.2.2.2.slots)
    (h : Runs M' as N R w (fun r N' R' w' => Ex M (pc + 3) L (r.toList ++ st) N' R' w' (k + M'.2.2.2.2.cells) (n + M'.2.2.2.2.slots) Q)) : Ex M pc L (as.reverse ++ st) N R w k n Q := by
  intro p l e s m args below meth c D cA b H locs ls F hP hS hl
  obtain ⟨f1, f2, f3, f4, f5, f6, f7, f8, f9, f10, f11⟩ := F
  refine W_sized (fun hle => ?_)
  have hH := size_eq f10 f11 hP hS hle
  obtain ⟨⟨c1, c2, c3, c4⟩, c5⟩ := hc
  have hst : ((as.reverse ++ st).map (cvB b)) = (as.map (cvB b)).reverse ++ st.map (cvB b) := by simp
  have hww : ((st.map (cvB b)).map fun v => v.category).sum ≤ 8 := by
    rw [List.map_map, show ((fun v : Value => v.category) ∘ cvB b) = (fun v => v.category) from funext (fun v => cvB_cat b v)]
    exact hw
  rw [hst]
  have hpre := hl_pre (av := as.map (cvB b)) hH hP f9 f8
  rcases hlk with hlk | ⟨host, hlk⟩
  · exact run_go ⟨f1, f2, f3, f4, f5, f6, f7, f8, f9, f10, f11⟩ hH hS hl
      (va_runS (bytes := M'.2.1) (maxL := M'.2.2.1) (ret := M'.2.2.2.1) (nL := M.2.2.1) (own := M.1.cls) (Ts := []) (n := na) (As := as.map (cvB b)) (rest := st.map (cvB b)) ⟨f1, f2, f3, f4, fun _ h9 => by cases h9⟩ (h l D cA b)
        ⟨⟨rfl, rfl, hR.1, hR.2, cc_ws f8 c1, List.mem_singleton.mpr rfl, tb_use f8 c1 rfl, tb_use f8 c4 rfl, c2, cc_len c3, tb_use f8 hlk rfl⟩, tb_use f8 c5 rfl⟩
        ⟨blind_HL, hpre⟩ rfl (by rw [List.length_map]; exact hn) hl.1 rfl (lv_room hww) hd hf) (fun _ _ _ _ z => z)
  · exact run_go ⟨f1, f2, f3, f4, f5, f6, f7, f8, f9, f10, f11⟩ hH hS hl
      (va_runSN (host := host) (bytes := M'.2.1) (maxL := M'.2.2.1) (ret := M'.2.2.2.1) (nL := M.2.2.1) (own := M.1.cls) (Ts := []) (n := na) (As := as.map (cvB b)) (rest := st.map (cvB b)) ⟨f1, f2, f3, f4, fun _ h9 => by cases h9⟩ (h l D cA b)
        ⟨⟨⟨rfl, rfl, hR.1, hR.2, cc_ws f8 c1, List.mem_singleton.mpr rfl⟩, tb_use f8 c1 rfl, tb_use f8 c4 rfl, c2, cc_len c3, tb_use f8 hlk rfl⟩, tb_use f8 c5 rfl, trivial⟩
        ⟨blind_HL, hpre⟩ rfl (by rw [List.length_map]; exact hn) hl.1 rfl (lv_room hww) hd hf) (fun _ _ _ _ z => z)
theorem x_callI {idx q na : Nat} (M' : MI) (as : List Value) (hd : decode M.2.1 pc = .ok (.invokespecial idx, 3)) (hlk : MLk M.1.cls idx M') (hc : CI M' na) (hn : as.length = na) (hw : (st.map fun v => v.category).sum ≤ 8) (hR : Fits M' M) (hf : k + M'.2.2.2.2.cells ≤ M.2.2.2.2.cells ∧ n + M'.2.2.2.2.slots ≤ M.2.2.2.2.slots)
    (h : Runs M' (.ref q :: as) N R w (fun r N' R' w' => Ex M (pc + 3) L (r.toList ++ st) N' R' w' (k + M'.2.2.2.2.cells) (n + M'.2.2.2.2.slots) Q)) : Ex M pc L (as.reverse ++ .ref q :: st) N R w k n Q := by
  intro p l e s m args below meth c D cA b H locs ls F hP hS hl
  obtain ⟨f1, f2, f3, f4, f5, f6, f7, f8, f9, f10, f11⟩ := F
  refine W_sized (fun hle => ?_)
  have hH := size_eq f10 f11 hP hS hle
  obtain ⟨⟨c1, c2, c3, c4⟩, c5, c6, c7⟩ := hc
  have hst : ((as.reverse ++ .ref q :: st).map (cvB b)) = (as.map (cvB b)).reverse ++ .ref (b + q) :: st.map (cvB b) := by simp [cvB]
  have hww : ((st.map (cvB b)).map fun v => v.category).sum ≤ 8 := by
    rw [List.map_map, show ((fun v : Value => v.category) ∘ cvB b) = (fun v => v.category) from funext (fun v => cvB_cat b v)]
    exact hw
  rw [hst]
  have hpre := hl_pre (av := (.ref q :: as).map (cvB b)) hH hP f9 f8
  have c1' : Cond.code M'.1 M'.2.1 M'.2.2.1 none ∈ lw_tbl := c7 ▸ c1
  have hw1 := cc_ws f8 c1
  have hmem : Cond.code M'.1 M'.2.1 M'.2.2.1 none ∈ [Cond.code M'.1 M'.2.1 M'.2.2.1 M'.2.2.2.1] := by rw [c7]; exact List.mem_singleton.mpr rfl
  rcases hlk with hlk | ⟨host, hlk⟩
  · exact run_go ⟨f1, f2, f3, f4, f5, f6, f7, f8, f9, f10, f11⟩ hH hS hl
      (va_runI (bytes := M'.2.1) (maxL := M'.2.2.1) (nL := M.2.2.1) (own := M.1.cls) (Ts := []) (n := na) (b := b + q) (As := as.map (cvB b)) (rest := st.map (cvB b)) ⟨f1, f2, f3, f4, fun _ h9 => by cases h9⟩ (h l D cA b)
        ⟨⟨rfl, rfl, hR.1, hR.2, hw1, hmem, tb_use f8 c1' rfl, tb_use f8 c4 rfl, c2, cc_len c3, tb_use f8 hlk rfl⟩, c6, tb_use f8 c5 rfl⟩
        ⟨blind_HL, hpre⟩ rfl (by rw [List.length_map]; exact hn) hl.1 rfl (lv_room hww) hd hf) (fun _ _ _ _ z => z)
  · exact run_go ⟨f1, f2, f3, f4, f5, f6, f7, f8, f9, f10, f11⟩ hH hS hl
      (va_runIN (host := host) (bytes := M'.2.1) (maxL := M'.2.2.1) (nL := M.2.2.1) (own := M.1.cls) (Ts := []) (n := na) (b := b + q) (As := as.map (cvB b)) (rest := st.map (cvB b)) ⟨f1, f2, f3, f4, fun _ h9 => by cases h9⟩ (h l D cA b)
        ⟨⟨⟨rfl, rfl, hR.1, hR.2, hw1, hmem⟩, tb_use f8 c1' rfl, tb_use f8 c4 rfl, c2, cc_len c3, tb_use f8 hlk rfl⟩, c6, tb_use f8 c5 rfl⟩
        ⟨blind_HL, hpre⟩ rfl (by rw [List.length_map]; exact hn) hl.1 rfl (lv_room hww) hd hf) (fun _ _ _ _ z => z)
/-- the ends -/
theorem ret_QF {p : Program} {s t : State} {m : MethodId} {meth : Method} {c : Code} {D : va_G} {cA : Nat → ClassId} {b : Nat} {H : Heap} {locs : List Loc} {args : Array Value} {r : Option Value} (F : FrC M D cA b N k p s m meth c) (hH : H.size = b + N) (hP : va_P D cls_ (wsB cA b N R w) H) (hS : va_S (fun q => b ≤ q) s.heap H locs) (hk : k = M.2.2.2.2.cells) (h : Q r N R w) (ht : t.heap = H) (hW : s.WarmedH t.vm) : QF M b D cA Q args s (.returned (r.map (cvB b))) t := by
  obtain ⟨f1, f2, f3, f4, f5, f6, f7, f8, f9, f10, f11⟩ := F
  exact ⟨⟨r, N, R, w, rfl, h, by rw [ht]; exact hH, by rw [ht]; exact hP, va_K.moved hW.alike f9, tb_warm hW f8⟩, by rw [ht, hH]; omega, hS.F ht⟩
theorem x_iret {x : Int32} (hd : decode M.2.1 pc = .ok (.ireturn, 1)) (hr : M.2.2.2.1 = some .int) (hk : k = M.2.2.2.2.cells) (hn : n ≤ M.2.2.2.2.slots) (h : Q (some (.int x)) N R w) : Ex M pc L [.int x] N R w k n Q := by
  intro p l e s m args below meth c D cA b H locs ls F hP hS hl
  refine W_sized (fun hle => ?_)
  have hH := size_eq F.2.2.2.2.2.2.2.2.2.1 F.2.2.2.2.2.2.2.2.2.2 hP hS hle
  refine W.widen (k := M.2.2.2.2.cells) (n := M.2.2.2.2.slots) (Nat.le_of_eq hk) hn ?_
  exact W.iret (v := x) F.1 F.2.1 (F.2.2.2.2.2.1.trans hr) (fun t ht hW => ret_QF F hH hP hS hk h ht hW) hS.2.2 hd (hlocks := F.2.2.2.2.1)
theorem x_zret {x : Int32} (hd : decode M.2.1 pc = .ok (.ireturn, 1)) (hr : M.2.2.2.1 = some .boolean) (hx : narrow .boolean (.int x) = .int x) (hk : k = M.2.2.2.2.cells) (hn : n ≤ M.2.2.2.2.slots) (h : Q (some (.int x)) N R w) : Ex M pc L [.int x] N R w k n Q := by
  intro p l e s m args below meth c D cA b H locs ls F hP hS hl
  refine W_sized (fun hle => ?_)
  have hH := size_eq F.2.2.2.2.2.2.2.2.2.1 F.2.2.2.2.2.2.2.2.2.2 hP hS hle
  refine W.widen (k := M.2.2.2.2.cells) (n := M.2.2.2.2.slots) (Nat.le_of_eq hk) hn ?_
  exact W.zret (v := x) F.1 F.2.1 (F.2.2.2.2.2.1.trans hr) hx (fun t ht hW => ret_QF F hH hP hS hk h ht hW) hS.2.2 hd (hlocks := F.2.2.2.2.1)
theorem x_lret {x : Int64} (hd : decode M.2.1 pc = .ok (.lreturn, 1)) (hr : M.2.2.2.1 = some .long) (hk : k = M.2.2.2.2.cells) (hn : n ≤ M.2.2.2.2.slots) (h : Q (some (.long x)) N R w) : Ex M pc L [.long x] N R w k n Q := by
  intro p l e s m args below meth c D cA b H locs ls F hP hS hl
  refine W_sized (fun hle => ?_)
  have hH := size_eq F.2.2.2.2.2.2.2.2.2.1 F.2.2.2.2.2.2.2.2.2.2 hP hS hle
  refine W.widen (k := M.2.2.2.2.cells) (n := M.2.2.2.2.slots) (Nat.le_of_eq hk) hn ?_
  exact W.lret (v := x) F.1 F.2.1 (F.2.2.2.2.2.1.trans hr) (fun t ht hW => ret_QF F hH hP hS hk h ht hW) hS.2.2 hd (hlocks := F.2.2.2.2.1)
theorem x_vret (hd : decode M.2.1 pc = .ok (.return_, 1)) (hr : M.2.2.2.1 = none) (hk : k = M.2.2.2.2.cells) (hn : n ≤ M.2.2.2.2.slots) (h : Q none N R w) : Ex M pc L [] N R w k n Q := by
  intro p l e s m args below meth c D cA b H locs ls F hP hS hl
  refine W_sized (fun hle => ?_)
  have hH := size_eq F.2.2.2.2.2.2.2.2.2.1 F.2.2.2.2.2.2.2.2.2.2 hP hS hle
  refine W.widen (k := M.2.2.2.2.cells) (n := M.2.2.2.2.slots) (Nat.le_of_eq hk) hn ?_
  exact W.vret F.1 F.2.1 (F.2.2.2.2.2.1.trans hr) (fun t ht hW => ret_QF (r := none) F hH hP hS hk h ht hW) hS.2.2 hd (hlocks := F.2.2.2.2.1)
theorem x_aret {q : Nat} {nm : String} (hd : decode M.2.1 pc = .ok (.areturn, 1)) (hr : M.2.2.2.1 = some (.object nm)) (hk : k = M.2.2.2.2.cells) (hn : n ≤ M.2.2.2.2.slots) (h : Q (some (.ref q)) N R w) : Ex M pc L [.ref q] N R w k n Q := by
  intro p l e s m args below meth c D cA b H locs ls F hP hS hl
  refine W_sized (fun hle => ?_)
  have hH := size_eq F.2.2.2.2.2.2.2.2.2.1 F.2.2.2.2.2.2.2.2.2.2 hP hS hle
  refine W.widen (k := M.2.2.2.2.cells) (n := M.2.2.2.2.slots) (Nat.le_of_eq hk) hn ?_
  exact W.aret (v := .ref (b + q)) F.1 F.2.1 (F.2.2.2.2.2.1.trans hr) (Or.inl ⟨_, rfl⟩) (Or.inr ⟨_, rfl⟩) (fun t ht hW => ret_QF (r := some (.ref q)) F hH hP hS hk h ht hW) hS.2.2 hd (hlocks := F.2.2.2.2.1)
/-- a method's contract out of its walk -/
theorem cLB_args (b : Nat) : ∀ (i : Nat) (as : List Value), lv_args i (as.map (cvB b)) = cLB b (lv_args i as)
  | _, [] => rfl
  | i, v :: vs => by
    simp only [List.map_cons, lv_args, cLB, cvB_cat]
    congr 1
    exact cLB_args b _ vs
theorem lg_sl_len (b : Nat) : ∀ as : List Value, (lg_sl (as.map (cvB b))).length = (lg_sl as).length
  | [] => rfl
  | v :: vs => by
    have ih := lg_sl_len b vs
    simp only [lg_sl, List.map_cons, List.flatMap_cons, List.length_append] at ih ⊢
    rw [ih, cvB_cat]
    congr 1
    split <;> rfl
theorem runs_of {as : List Value} (hy : plainName M.1.cls = true) (hlen : (lg_sl as).length ≤ M.2.2.1) (hL : lv_args 0 as = L) (h : Ex M 0 L [] N R w 0 0 Q) : Runs M as N R w Q := by
  intro l D cA b
  refine Met.ofW (cc := M.2.1) (maxL := M.2.2.1) (ret := M.2.2.2.1) hy rfl ?_
  intro p e s m args below meth c s₁ B hml hv
  obtain ⟨rfl, h1, h2, h3, h4⟩ := hv
  have hlen2 : (lg_sl (as.map (cvB b))).length ≤ M.2.2.1 := by rw [lg_sl_len]; exact hlen
  have hl := lv_entry (as.map (cvB b)) (n := M.2.2.1) hlen2
  rw [lg_entry_eq]
  rw [cLB_args, hL] at hl
  exact h p l e s m _ below meth c D cA b s.heap [] _ ⟨B.exec, B.bytes, hml, findClass_of_methodNamed B.named, B.notSynchronized, B.returns, (name_of_methodNamed B.named B.method).1, h4, h3, by omega, by omega⟩ h2 va_S.rf hl
theorem Met_mono {l : Launch} {y : MethodName} {ws : List Cond} {rm : Room} {Pc : Array Value → State → Prop} {Qc Qc' : Array Value → State → Outcome → State → Prop} {mc ms : Nat} {free : Addr → Prop} (h : Met l y ws rm Pc Qc mc ms free) (hQ : ∀ a st o t, Qc a st o t → Qc' a st o t) : Met l y ws rm Pc Qc' mc ms free := by
  intro p e ha hc hk s m args below hf hap hP hK
  obtain ⟨t, o, h1, h2, h3, h4, h5⟩ := h p e ha hc hk s m args below hf hap hP hK
  exact ⟨t, o, h1, h2, h3, hQ _ _ _ _ h4, h5⟩
theorem Runs.mono {as : List Value} {Q' : QT} (h : Runs M as N R w Q) (hQ : ∀ r N' R' w', Q r N' R' w' → Q' r N' R' w') : Runs M as N R w Q' := fun l D cA b => Met_mono (h l D cA b) (fun a st o t hq => by
  obtain ⟨⟨r, N', R', w', e1, e2, e3⟩, e4⟩ := hq
  exact ⟨⟨r, N', R', w', e1, hQ _ _ _ _ e2, e3⟩, e4⟩)
end XD
