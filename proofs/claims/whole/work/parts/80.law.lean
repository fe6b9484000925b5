/-! THE CLAIM OUT OF ONE WALK OF THE LAW'S BODY. Your part is whole_start (and what it stands on); all else here is the same for every law, but numbers. -/
def R_law : String := "DifferenceFamiliesLaw"
def lw_P (b : Addr) (xs : List Int32) (args : Array Value) (s : State) : Prop := args = #[.ref b] ∧ s.IntsAt b xs ∧ xs.length ≤ 3072 ∧ (Jvm.Cond.and given_1 narrow_1).before args s = true
def lw_Q (_ : Array Value) (s : State) (o : Outcome) (t : State) : Prop := o = .returned (some (.int 1)) ∧ Framed s o t [] 58 19967
def lw_Z (below : List Frame) (a : Array Value) (s : State) : State → Prop := fun t => ∃ o, t.status = .running ∧ Ended t below o ∧ lw_Q a s o t
/-- the law's own end, with 1 on the stack, nothing written that was there before, its room as the claim has it -/
theorem lw_ret {p : Program} {l : Launch} {e : Env} {s : State} {m : MethodId} {below : List Frame} {meth : Method} {c : Code} {b : Nat} (hx : p.tables.exec = Jvm.exec) (hb : c.code = code) (hr : meth.sig.returnType = ret) (hlocks : meth.locks = false) {pc : Nat} {H : Heap} {ls : Array Slot} (hdg : decode code pc = .ok (.ireturn, 1)) : W p l e room_1 s m #[Value.ref b] below meth c H [] 58 19967 (lw_Z below #[Value.ref b] s) (F0 m pc ls [.int 1]) := by
  intro T hT X
  obtain ⟨fs, hret, hrun, hended, hW, hframe⟩ := X.leave (v := some (.int 1)) (hlocks := hlocks) (fun h => by rw [hr] at h; cases h)
  have hmeth' : T.vm.method? m = some meth := X.method'
  refine ⟨T.setFrames fs, ?_, .returned (some (.int 1)), hrun, hended, rfl, ⟨_, rfl⟩, hW, hframe⟩
  jvm_step X.here [X.here.top, hx, hb, hdg, hmeth', hr, ret, narrow_b1]
  (try refine ⟨rfl, ?_⟩); (try refine ⟨rfl, ?_⟩)
  first | (intro acts; rw [hret _ acts rfl rfl rfl]) | rw [hret _ _ rfl rfl rfl]
  exact Steps.refl _
/-- what holds at the law's entry: the machine, the code, the tables' words (any of lw_tbl by 'hts w (by decide +kernel)'), the script of L ints xs at the cell b, what the Statement gives of the start (any of its parts by flat_of_before) -/
def lw_At (p : Program) (s : State) (m : MethodId) (meth : Method) (c : Code) (b L : Nat) (xs : Nat → Int32) : Prop :=
  p.tables.exec = Jvm.exec ∧ c.code = code ∧ meth.sig.returnType = ret ∧ c.maxLocals = 4 ∧ s.vm.findClass R_law = some m.cls ∧ (∀ w ∈ lw_tbl, w.before #[Value.ref b] s = true) ∧ va_X b L xs s s.heap ∧ b < s.heap.size ∧ meth.locks = false ∧ (Jvm.Cond.and given_1 narrow_1).before #[Value.ref b] s = true

/-- what stands at the law's frame; the base is the heap's size at its start -/
def LC (p : Program) (s : State) (m : MethodId) (meth : Method) (c : Code) (sb SL : Nat) (xs : Nat → Int32) (D : va_G) (cA : Nat → ClassId) : Prop := lw_At p s m meth c sb SL xs ∧ TB s ∧ va_K D cls_ (tysB cA) s
/-- from pc, with these values and this world, the law comes to its end -/
def LW (p : Program) (l : Launch) (e : Env) (s : State) (m : MethodId) (below : List Frame) (meth : Method) (c : Code) (sb : Nat) (D : va_G) (cA : Nat → ClassId) (pc : Nat) (L : List (Nat × Value)) (st : List Value) (N : Nat) (R : RefT) (w : Wd) (n : Nat) : Prop :=
  ∀ (H : Heap) (locs : List Loc) (ls : Array Slot), va_P D cls_ (wsB cA s.heap.size N R w) H → va_S (fun q => s.heap.size ≤ q) s.heap H locs → lv_has ls 4 L → W p l e room_1 s m #[Value.ref sb] below meth c H locs N n (lw_Z below #[Value.ref sb] s) (F0 m pc ls st)
section LR
variable {p : Program} {l : Launch} {e : Env} {s : State} {m : MethodId} {below : List Frame} {meth : Method} {c : Code} {sb SL : Nat} {xs : Nat → Int32} {D : va_G} {cA : Nat → ClassId} {pc : Nat} {L : List (Nat × Value)} {st : List Value} {N : Nat} {R : RefT} {w : Wd} {n : Nat}
theorem l_iconst (C : LC p s m meth c sb SL xs D cA) {i : Int} {v : Int32} (hd : decode code pc = .ok (.iconst i, 1)) (hv : Int32.ofInt i = v) (h : LW p l e s m below meth c sb D cA (pc + 1) L (.int v :: st) N R w n) : LW p l e s m below meth c sb D cA pc L (st) N R w n := fun H locs ls hP hS hl => lv_iconst C.1.1 C.1.2.1 hd hv (h H locs ls hP hS hl)
theorem l_bipush (C : LC p s m meth c sb SL xs D cA) {i : Int} {v : Int32} (hd : decode code pc = .ok (.bipush i, 2)) (hv : (Int8.ofInt i).toInt32 = v) (h : LW p l e s m below meth c sb D cA (pc + 2) L (.int v :: st) N R w n) : LW p l e s m below meth c sb D cA pc L (st) N R w n := fun H locs ls hP hS hl => lv_bipush C.1.1 C.1.2.1 hd hv (h H locs ls hP hS hl)
theorem l_iload_n (C : LC p s m meth c sb SL xs D cA) {i : Fin 4} {x : Int32} (j : Nat) (hd : decode code pc = .ok (.iload_n i, 1)) (hj : L[j]? = some ((i : Nat), .int x)) (h : LW p l e s m below meth c sb D cA (pc + 1) L (.int x :: st) N R w n) : LW p l e s m below meth c sb D cA pc L (st) N R w n := fun H locs ls hP hS hl => lv_iload_n C.1.1 C.1.2.1 hd rfl (lv_at hl j hj) (h H locs ls hP hS hl)
theorem l_aload_n (C : LC p s m meth c sb SL xs D cA) {i : Fin 4} {x : Nat} (j : Nat) (hd : decode code pc = .ok (.aload_n i, 1)) (hj : L[j]? = some ((i : Nat), .ref x)) (h : LW p l e s m below meth c sb D cA (pc + 1) L (.ref x :: st) N R w n) : LW p l e s m below meth c sb D cA pc L (st) N R w n := fun H locs ls hP hS hl => lv_aload_n C.1.1 C.1.2.1 hd rfl (lv_at hl j hj) (h H locs ls hP hS hl)
theorem l_iadd (C : LC p s m meth c sb SL xs D cA) {x y : Int32} (hd : decode code pc = .ok (.iadd, 1)) (h : LW p l e s m below meth c sb D cA (pc + 1) L (.int (x + y) :: st) N R w n) : LW p l e s m below meth c sb D cA pc L (.int y :: .int x :: st) N R w n := fun H locs ls hP hS hl => lv_iadd C.1.1 C.1.2.1 hd (h H locs ls hP hS hl)
theorem l_isub (C : LC p s m meth c sb SL xs D cA) {x y : Int32} (hd : decode code pc = .ok (.isub, 1)) (h : LW p l e s m below meth c sb D cA (pc + 1) L (.int (x - y) :: st) N R w n) : LW p l e s m below meth c sb D cA pc L (.int y :: .int x :: st) N R w n := fun H locs ls hP hS hl => lv_isub C.1.1 C.1.2.1 hd (h H locs ls hP hS hl)
theorem l_iand (C : LC p s m meth c sb SL xs D cA) {x y : Int32} (hd : decode code pc = .ok (.iand, 1)) (h : LW p l e s m below meth c sb D cA (pc + 1) L (.int (x &&& y) :: st) N R w n) : LW p l e s m below meth c sb D cA pc L (.int y :: .int x :: st) N R w n := fun H locs ls hP hS hl => lv_iand C.1.1 C.1.2.1 hd (h H locs ls hP hS hl)
theorem l_lcmp (C : LC p s m meth c sb SL xs D cA) {x y : Int64} (hd : decode code pc = .ok (.lcmp, 1)) (h : LW p l e s m below meth c sb D cA (pc + 1) L (.int (lg_cmp x y) :: st) N R w n) : LW p l e s m below meth c sb D cA pc L (.long y :: .long x :: st) N R w n := fun H locs ls hP hS hl => W.lcmp C.1.1 C.1.2.1 hd (h H locs ls hP hS hl)
theorem l_dup (C : LC p s m meth c sb SL xs D cA) {v : Value} (hd : decode code pc = .ok (.dup, 1)) (hc : v.category = 1) (h : LW p l e s m below meth c sb D cA (pc + 1) L (v :: v :: st) N R w n) : LW p l e s m below meth c sb D cA pc L (v :: st) N R w n := fun H locs ls hP hS hl => lv_dup C.1.1 C.1.2.1 hd hc (h H locs ls hP hS hl)
theorem l_icmp_eq (C : LC p s m meth c sb SL xs D cA) {x y : Int32} {off : Int} (tgt : Nat) (hd : decode code pc = .ok (.if_icmp .eq off, 3)) (ht : (pc : Int) + off = (tgt : Int)) (h1 : x = y → LW p l e s m below meth c sb D cA tgt L st N R w n) (h2 : ¬ x = y → LW p l e s m below meth c sb D cA (pc + 3) L st N R w n) : LW p l e s m below meth c sb D cA pc L (.int y :: .int x :: st) N R w n := fun H locs ls hP hS hl => lv_icmp_eq C.1.1 C.1.2.1 hd ht (fun z => h1 z H locs ls hP hS hl) (fun z => h2 z H locs ls hP hS hl)
theorem l_icmp_gt (C : LC p s m meth c sb SL xs D cA) {x y : Int32} {off : Int} (tgt : Nat) (hd : decode code pc = .ok (.if_icmp .gt off, 3)) (ht : (pc : Int) + off = (tgt : Int)) (h1 : y < x → LW p l e s m below meth c sb D cA tgt L st N R w n) (h2 : ¬ y < x → LW p l e s m below meth c sb D cA (pc + 3) L st N R w n) : LW p l e s m below meth c sb D cA pc L (.int y :: .int x :: st) N R w n := fun H locs ls hP hS hl => lv_icmp_gt C.1.1 C.1.2.1 hd ht (fun z => h1 z H locs ls hP hS hl) (fun z => h2 z H locs ls hP hS hl)
theorem l_if_eq (C : LC p s m meth c sb SL xs D cA) {x : Int32} {off : Int} (tgt : Nat) (hd : decode code pc = .ok (.ifCond .eq off, 3)) (ht : (pc : Int) + off = (tgt : Int)) (h1 : x = 0 → LW p l e s m below meth c sb D cA tgt L st N R w n) (h2 : ¬ x = 0 → LW p l e s m below meth c sb D cA (pc + 3) L st N R w n) : LW p l e s m below meth c sb D cA pc L (.int x :: st) N R w n := fun H locs ls hP hS hl => lv_if_eq C.1.1 C.1.2.1 hd ht (fun z => h1 z H locs ls hP hS hl) (fun z => h2 z H locs ls hP hS hl)
theorem l_goto (C : LC p s m meth c sb SL xs D cA) {off : Int} (tgt : Nat) (hd : decode code pc = .ok (.goto off, 3)) (ht : (pc : Int) + off = (tgt : Int)) (h : LW p l e s m below meth c sb D cA tgt L st N R w n) : LW p l e s m below meth c sb D cA pc L st N R w n := fun H locs ls hP hS hl => lv_goto C.1.1 C.1.2.1 hd ht (h H locs ls hP hS hl)
theorem l_swIn (C : LC p s m meth c sb SL xs D cA) {dflt lo hi : Int} {offs : Array Int} {len : Nat} {x : Int32} {off : Int} (tgt : Nat) (hd : decode code pc = .ok (.tableswitch dflt lo hi offs, len)) (h1 : ¬ x.toInt < lo) (h2 : ¬ hi < x.toInt) (ho : offs[(x.toInt - lo).toNat]? = some off) (ht : (pc : Int) + off = (tgt : Int)) (h : LW p l e s m below meth c sb D cA tgt L st N R w n) : LW p l e s m below meth c sb D cA pc L (.int x :: st) N R w n := fun H locs ls hP hS hl => lv_tableIn C.1.1 C.1.2.1 hd h1 h2 ho ht (h H locs ls hP hS hl)
theorem l_swOut (C : LC p s m meth c sb SL xs D cA) {dflt lo hi : Int} {offs : Array Int} {len : Nat} {x : Int32} (tgt : Nat) (hd : decode code pc = .ok (.tableswitch dflt lo hi offs, len)) (h1 : x.toInt < lo ∨ hi < x.toInt) (ht : (pc : Int) + dflt = (tgt : Int)) (h : LW p l e s m below meth c sb D cA tgt L st N R w n) : LW p l e s m below meth c sb D cA pc L (.int x :: st) N R w n := fun H locs ls hP hS hl => lv_tableOut C.1.1 C.1.2.1 hd h1 ht (h H locs ls hP hS hl)
theorem l_istore_n (C : LC p s m meth c sb SL xs D cA) {i : Fin 4} {x : Int32} (ks : List Nat) {L' : List (Nat × Value)} (hd : decode code pc = .ok (.istore_n i, 1)) (hL : lv_pick ((i.val, Value.int x) :: L.filter (fun q => !(q.1 == i.val) && !(q.1 + 1 == i.val && q.2.category == 2))) ks = L') (h : LW p l e s m below meth c sb D cA (pc + 1) L' st N R w n) : LW p l e s m below meth c sb D cA pc L (.int x :: st) N R w n := fun H locs ls hP hS hl => lv_istore_n C.1.1 C.1.2.1 hd rfl hl i.isLt rfl (fun ls2 hl2 => h H locs ls2 hP hS (lv_sub hl2 ks hL))
theorem l_astore_n (C : LC p s m meth c sb SL xs D cA) {i : Fin 4} {x : Nat} (ks : List Nat) {L' : List (Nat × Value)} (hd : decode code pc = .ok (.astore_n i, 1)) (hL : lv_pick ((i.val, Value.ref x) :: L.filter (fun q => !(q.1 == i.val) && !(q.1 + 1 == i.val && q.2.category == 2))) ks = L') (h : LW p l e s m below meth c sb D cA (pc + 1) L' st N R w n) : LW p l e s m below meth c sb D cA pc L (.ref x :: st) N R w n := fun H locs ls hP hS hl => lv_astore_n C.1.1 C.1.2.1 hd rfl hl i.isLt rfl (fun ls2 hl2 => h H locs ls2 hP hS (lv_sub hl2 ks hL))
theorem l_iinc (C : LC p s m meth c sb SL xs D cA) {i : Nat} {d : Int} {x v : Int32} (j : Nat) (ks : List Nat) {L' : List (Nat × Value)} (hd : decode code pc = .ok (.iinc i d, 3)) (hj : L[j]? = some (i, .int x)) (hv : x + Int32.ofInt d = v) (hn : i < 4) (hL : lv_pick ((i, Value.int v) :: L.filter (fun q => !(q.1 == i) && !(q.1 + 1 == i && q.2.category == 2))) ks = L') (h : LW p l e s m below meth c sb D cA (pc + 3) L' st N R w n) : LW p l e s m below meth c sb D cA pc L st N R w n := fun H locs ls hP hS hl => lv_iinc (v := v) C.1.1 C.1.2.1 hd hl (k := j) hj hv hn rfl (fun ls2 hl2 => h H locs ls2 hP hS (lv_sub hl2 ks hL))
theorem l_sld (C : LC p s m meth c sb SL xs D cA) {i : Int32} (hd : decode code pc = .ok (.iaload, 1)) (hin : vp_in i SL) (h : LW p l e s m below meth c sb D cA (pc + 1) L (.int (xs i.toNatClampNeg) :: st) N R w n) : LW p l e s m below meth c sb D cA pc L (.int i :: .ref sb :: st) N R w n := fun H locs ls hP hS hl => va_sld C.1.1 C.1.2.1 C.1.2.2.2.2.2.2.1 C.1.2.2.2.2.2.2.2.1 (Nat.not_le.mpr C.1.2.2.2.2.2.2.2.1) hS hin hd (h H locs ls hP hS hl)
theorem l_slen (C : LC p s m meth c sb SL xs D cA) (hd : decode code pc = .ok (.arraylength, 1)) (h : LW p l e s m below meth c sb D cA (pc + 1) L (.int (Int32.ofNat SL) :: st) N R w n) : LW p l e s m below meth c sb D cA pc L (.ref sb :: st) N R w n := fun H locs ls hP hS hl => va_slen C.1.1 C.1.2.1 C.1.2.2.2.2.2.2.1 C.1.2.2.2.2.2.2.2.1 (Nat.not_le.mpr C.1.2.2.2.2.2.2.2.1) hS hd (h H locs ls hP hS hl)
theorem l_size {H : Heap} {locs : List Loc} (hP : va_P D cls_ (wsB cA s.heap.size N R w) H) (hS : va_S (fun q => s.heap.size ≤ q) s.heap H locs) (hle : H.size ≤ s.heap.size + N) : H.size = s.heap.size + N := size_eq (Nat.le_refl _) rfl hP hS hle
/-- a call's continuation in the law -/
theorem l_go (C : LC p s m meth c sb SL xs D cA) {M' : MI} {Q' : QT} {H : Heap} {locs : List Loc} {ls : Array Slot} {st0 : List Value} {a : Array Value} (hH : H.size = s.heap.size + N) (hS : va_S (fun q => s.heap.size ≤ q) s.heap H locs) (hl : lv_has ls 4 L)
    (hr : va_Run p l e room_1 s m #[Value.ref sb] below meth c H locs N n M'.2.2.2.2.cells M'.2.2.2.2.slots (F0 m pc ls st0) st (QF M' s.heap.size D cA Q' a) (fun q => s.heap.size ≤ q))
    (hQ : ∀ r N' R' w', N' = N + M'.2.2.2.2.cells → Q' r N' R' w' → LW p l e s m below meth c sb D cA (pc + 3) L ((r.map (cvB s.heap.size)).toList ++ st) N' R' w' (n + M'.2.2.2.2.slots)) :
    W p l e room_1 s m #[Value.ref sb] below meth c H locs N n (lw_Z below #[Value.ref sb] s) (F0 m pc ls st0) := by
  intro T hT X
  obtain ⟨v, st₀, t, T', Lc, h0, X', hL, e1, e2, ⟨⟨r, N', R', w', hv, hq, hHL⟩, hcel, hz, hk⟩, stp⟩ := hr T hT X
  have hv2 : v = r.map (cvB s.heap.size) := by injection hv
  subst hv2
  rw [h0] at hcel hz hk
  have hN' : N' = N + M'.2.2.2.2.cells := by
    have := hHL.1
    omega
  subst hN'
  obtain ⟨t2, a1, b1⟩ := hQ r _ R' w' rfl hq T'.heap (locs ++ Lc) ls (by rw [e1]; exact hHL.2.1)
    ⟨Nat.le_trans hS.1 (by rw [e1]; exact hz), fun q h1 h2 => by rw [e1, hk q (Nat.lt_of_lt_of_le h1 hS.1) h2]; exact hS.2.1 q h1 h2, fun q hq => by
      rcases List.mem_append.mp hq with h | h
      · exact hS.2.2 q h
      · exact hL q h⟩ hl T' rfl X'
  exact ⟨t2, stp t2 a1, b1⟩
def FitL (M' : MI) : Prop := M'.2.2.2.2.frames + 1 ≤ 10 ∧ 8 + (M'.2.2.1 + 11) + M'.2.2.2.2.locals ≤ 384
theorem l_callV (C : LC p s m meth c sb SL xs D cA) {idx q na ci : Nat} (M' : MI) (as : List Value) {Q' : QT} (hd : decode code pc = .ok (.invokevirtual idx, 3)) (hlk : Cond.methodLink R_law idx M'.1 ∈ lw_tbl) (hc : CV M' na) (hk : kd q = .inr ci) (hcn : (cls_[ci]?).map (fun x => x.1) = some M'.1.cls) (hq : q < N) (hn : as.length = na) (hw : (st.map fun v => v.category).sum ≤ 8) (hR : FitL M') (hf : N + M'.2.2.2.2.cells ≤ 58 ∧ n + M'.2.2.2.2.slots ≤ 19967)
    (h : Runs M' (.ref q :: as) N R w Q') (hQ : ∀ r N' R' w', N' = N + M'.2.2.2.2.cells → Q' r N' R' w' → LW p l e s m below meth c sb D cA (pc + 3) L ((r.map (cvB s.heap.size)).toList ++ st) N' R' w' (n + M'.2.2.2.2.slots)) : LW p l e s m below meth c sb D cA pc L ((as.map (cvB s.heap.size)).reverse ++ .ref (s.heap.size + q) :: st) N R w n := by
  intro H locs ls hP hS hl
  refine W_sized (fun hle => ?_)
  have hH := l_size hP hS hle
  obtain ⟨C0, hT, hK⟩ := C
  obtain ⟨⟨c1, c2, c3, c4⟩, c5, c6⟩ := hc
  obtain ⟨x, hx, hxn⟩ : ∃ x, cls_[ci]? = some x ∧ x.1 = M'.1.cls := by
    cases hx : cls_[ci]? with
    | none => rw [hx] at hcn; cases hcn
    | some x => rw [hx] at hcn; exact ⟨x, rfl, Option.some.inj hcn⟩
  have hrec := va_recv hK hP hx (show (wsB cA s.heap.size N R w)[q]? = some (s.heap.size + q, .inr (ci, fsB s.heap.size R w q ci)) by rw [wsB_at hq, celB_o hk])
  rw [hxn] at hrec
  have hpre := hl_pre (av := (.ref q :: as).map (cvB s.heap.size)) hH hP hK hT
  exact l_go ⟨C0, hT, hK⟩ hH hS hl
    (va_runV (C := M'.1.cls) (bytes := M'.2.1) (maxL := M'.2.2.1) (ret := M'.2.2.2.1) (nL := 4) (own := R_law) (Ts := []) (n := na) (As := as.map (cvB s.heap.size)) (rest := st) ⟨C0.1, C0.2.1, C0.2.2.2.1, C0.2.2.2.2.1, fun _ h9 => by cases h9⟩ (h l D cA s.heap.size)
      ⟨⟨rfl, rfl, hR.1, hR.2, cc_ws hT c1, List.mem_singleton.mpr rfl, tb_use hT c1 rfl, tb_use hT c4 rfl, c2, cc_len c3, tb_use hT hlk rfl⟩, tb_use hT c5 rfl, tb_use hT c6 rfl⟩
      ⟨blind_HL, hrec, hpre⟩ rfl (by rw [List.length_map]; exact hn) hl.1 rfl (lv_room hw) hd hf) hQ
theorem l_callI (C : LC p s m meth c sb SL xs D cA) {idx q na : Nat} (M' : MI) (as : List Value) {Q' : QT} (hd : decode code pc = .ok (.invokespecial idx, 3)) (hlk : Cond.methodLink R_law idx M'.1 ∈ lw_tbl) (hc : CI M' na) (hn : as.length = na) (hw : (st.map fun v => v.category).sum ≤ 8) (hR : FitL M') (hf : N + M'.2.2.2.2.cells ≤ 58 ∧ n + M'.2.2.2.2.slots ≤ 19967)
    (h : Runs M' (.ref q :: as) N R w Q') (hQ : ∀ r N' R' w', N' = N + M'.2.2.2.2.cells → Q' r N' R' w' → LW p l e s m below meth c sb D cA (pc + 3) L ((r.map (cvB s.heap.size)).toList ++ st) N' R' w' (n + M'.2.2.2.2.slots)) : LW p l e s m below meth c sb D cA pc L ((as.map (cvB s.heap.size)).reverse ++ .ref (s.heap.size + q) :: st) N R w n := by
  intro H locs ls hP hS hl
  refine W_sized (fun hle => ?_)
  have hH := l_size hP hS hle
  obtain ⟨C0, hT, hK⟩ := C
  obtain ⟨⟨c1, c2, c3, c4⟩, c5, c6, c7⟩ := hc
  have hpre := hl_pre (av := (.ref q :: as).map (cvB s.heap.size)) hH hP hK hT
  have c1' : Cond.code M'.1 M'.2.1 M'.2.2.1 none ∈ lw_tbl := c7 ▸ c1
  have hmem : Cond.code M'.1 M'.2.1 M'.2.2.1 none ∈ [Cond.code M'.1 M'.2.1 M'.2.2.1 M'.2.2.2.1] := by rw [c7]; exact List.mem_singleton.mpr rfl
  exact l_go ⟨C0, hT, hK⟩ hH hS hl
    (va_runI (bytes := M'.2.1) (maxL := M'.2.2.1) (nL := 4) (own := R_law) (Ts := []) (n := na) (b := s.heap.size + q) (As := as.map (cvB s.heap.size)) (rest := st) ⟨C0.1, C0.2.1, C0.2.2.2.1, C0.2.2.2.2.1, fun _ h9 => by cases h9⟩ (h l D cA s.heap.size)
      ⟨⟨rfl, rfl, hR.1, hR.2, cc_ws hT c1, hmem, tb_use hT c1' rfl, tb_use hT c4 rfl, c2, cc_len c3, tb_use hT hlk rfl⟩, c6, tb_use hT c5 rfl⟩
      ⟨blind_HL, hpre⟩ rfl (by rw [List.length_map]; exact hn) hl.1 rfl (lv_room hw) hd hf) hQ
theorem l_new (C : LC p s m meth c sb SL xs D cA) {idx : Nat} (ci : Nat) (hd : decode code pc = .ok (.new idx, 3)) (hc : NewOK R_law idx ci) (hk : kd N = .inr ci) (h0 : (∀ j, w.1 N j = 0) ∧ (∀ j, w.2 N j = 0) ∧ ∀ j, R N j = none) (hcells : N + 1 ≤ 58) (hslots : n + nfl ci ≤ 19967) (h : LW p l e s m below meth c sb D cA (pc + 3) L (.ref (s.heap.size + N) :: st) (N + 1) R w (n + nfl ci)) : LW p l e s m below meth c sb D cA pc L st N R w n := by
  intro H locs ls hP hS hl
  obtain ⟨C0, hT, hK⟩ := C
  obtain ⟨Cn, T, ty, ⟨k1, k2, k3, k4⟩, c1, c2, c3, c4⟩ := hc
  refine va_new (fs := fsB s.heap.size R w N ci) (A := fun q => s.heap.size ≤ q) C0.1 C0.2.1 (tb_us hT k2) (fun _ hw => hw) ty k3 C0.2.2.2.2.1 (tb_use hT c1 rfl) (tb_use hT c2 rfl) (tb_use hT c3 rfl) hK hP wsB_D hS (fun q hq => hq) k1 ?_ hcells hslots hd (fun q H1 hP1 hD1 hS1 => W_sized (fun hle => ?_))
  · intro j hj
    rw [c4 j hj]
    simp only [vp_V, List.getD_eq_getElem?_getD, fsB_at hj, Option.getD_some, fvB, h0.1, h0.2.1, h0.2.2]
  · have hq := fresh_eq hP1 hD1 (by omega)
    subst hq
    exact h H1 locs ls (wsB_push hP1 (celB_o hk)) hS1 hl
/-- the law's end -/
theorem l_true (C : LC p s m meth c sb SL xs D cA) (hd : decode code pc = .ok (.ireturn, 1)) (hN : N ≤ 58) (hn : n ≤ 19967) : LW p l e s m below meth c sb D cA pc L [.int 1] N R w n := by
  intro H locs ls hP hS hl
  refine va_forget (fun q hq => hS.2.2 q hq) ?_
  refine W.widen (k := 58) (n := 19967) hN hn ?_
  exact lw_ret C.1.1 C.1.2.1 C.1.2.2.1 C.1.2.2.2.2.2.2.2.2.1 hd
end LR
