
abbrev RefT : Type := Nat → Nat → Option Nat
abbrev Wd : Type := (Nat → Nat → Int32) × (Nat → Nat → Int64)
abbrev MI : Type := MethodName × ByteArray × Nat × Option FieldType × Room
/-- a value of mine: a reference is a place; at base b the place p has the address b + p -/
def cvB (b : Nat) : Value → Value
  | .ref p => .ref (b + p)
  | v => v
def cLB (b : Nat) (L : List (Nat × Value)) : List (Nat × Value) := L.map (fun q => (q.1, cvB b q.2))
def aty : Nat → FieldType := fun t => List.getD [FieldType.int, FieldType.long, FieldType.char, FieldType.boolean] t .int
def tysB (cA : Nat → ClassId) : List (ClassId × FieldType) := [(cA 0, .int), (cA 1, .long), (cA 2, .char), (cA 3, .boolean)]
def fvB (b : Nat) (R : RefT) (w : Wd) (p t k : Nat) : Value := if t = 0 then .int (w.1 p k) else if t = 1 then .long (w.2 p k) else match R p k with
  | some q => .ref (b + q)
  | none => .null
def arB (w : Wd) (p t n : Nat) : vp_A := (n, if t = 1 then .inr (.inl (w.2 p)) else .inl (w.1 p))
def fsB (b : Nat) (R : RefT) (w : Wd) (p ci : Nat) : List Value := (List.range (nfl ci)).map (fun k => fvB b R w p (ftl ci k) k)
def celB (cA : Nat → ClassId) (b : Nat) (R : RefT) (w : Wd) (p : Nat) : va_E := match kd p with
  | .inl q => .inl (cA q.1, arB w p q.1 q.2)
  | .inr ci => .inr (ci, fsB b R w p ci)
def wsB (cA : Nat → ClassId) (b N : Nat) (R : RefT) (w : Wd) : va_W := (List.range N).map (fun p => (b + p, celB cA b R w p))
def isArr : Cond → Bool
  | .arrayClass _ => true
  | _ => false
def okW (w : Cond) : Bool := (w.onTables && w.keepsH) || isArr w
def TB (U : State) : Prop := ∀ w ∈ lw_tbl, okW w = true → ∀ args : Array Value, w.before args U = true
theorem tb_use {U : State} {args : Array Value} {w : Cond} (h : TB U) (hw : w ∈ lw_tbl) (ho : okW w = true) : w.before args U = true := h w hw ho args
theorem isArr_of {w : Cond} (h : isArr w = true) : ∃ ty, w = .arrayClass ty := by
  cases w <;> first | exact ⟨_, rfl⟩ | exact absurd h (by simp [isArr])
theorem arr_vm {ty : FieldType} {A A' : Array Value} {s U : State} (hv : s.vm = U.vm) (h : (Cond.arrayClass ty).before A s = true) : (Cond.arrayClass ty).before A' U = true := by
  simp only [Cond.before, Cond.holds, Cond.value] at h ⊢
  rw [← hv]
  exact h
theorem tb_of {U : State} {A : Array Value} (h : ∀ w ∈ lw_tbl, w.before A U = true) : TB U := by
  intro w hw ho args
  unfold okW at ho
  rw [Bool.or_eq_true, Bool.and_eq_true] at ho
  rcases ho with ho | ho
  · exact va_tabs ho.1 rfl (h w hw)
  · obtain ⟨ty, rfl⟩ := isArr_of ho
    exact arr_vm rfl (h _ hw)
theorem tb_warm {s U : State} (hW : s.WarmedH U.vm) (h : TB s) : TB U := by
  intro w hw ho args
  have h0 := h w hw ho #[]
  unfold okW at ho
  rw [Bool.or_eq_true, Bool.and_eq_true] at ho
  rcases ho with ho | ho
  · have h1 := Cond.onTables_warmH (T := U) (args' := args) hW ho.1 ho.2 h0
    rwa [State.setVm_self] at h1
  · obtain ⟨ty, rfl⟩ := isArr_of ho
    exact word_at hW (Or.inr ⟨_, rfl⟩) h0
theorem tb_same {s U : State} (hv : s.vm = U.vm) (h : TB s) : TB U := by
  intro w hw ho args
  have h0 := h w hw ho #[]
  unfold okW at ho
  rw [Bool.or_eq_true, Bool.and_eq_true] at ho
  rcases ho with ho | ho
  · exact va_tabs ho.1 hv h0
  · obtain ⟨ty, rfl⟩ := isArr_of ho
    exact arr_vm hv h0
def HL (D : va_G) (cA : Nat → ClassId) (b N : Nat) (R : RefT) (w : Wd) (U : State) : Prop := U.heap.size = b + N ∧ va_P D cls_ (wsB cA b N R w) U.heap ∧ va_K D cls_ (tysB cA) U ∧ TB U
abbrev QT : Type := Option Value → Nat → RefT → Wd → Prop
def QF (M : MI) (b : Nat) (D : va_G) (cA : Nat → ClassId) (Q : QT) : Array Value → State → Outcome → State → Prop := fun _ st oc t =>
  (∃ (r : Option Value) (N : Nat) (R : RefT) (w : Wd), oc = .returned (r.map (cvB b)) ∧ Q r N R w ∧ HL D cA b N R w t) ∧ t.heap.size = st.heap.size + M.2.2.2.2.cells ∧ va_F (fun q => b ≤ q) st t
def FrC (M : MI) (D : va_G) (cA : Nat → ClassId) (b N k : Nat) (p : Program) (s : State) (m : MethodId) (meth : Method) (c : Code) : Prop :=
  p.tables.exec = Jvm.exec ∧ c.code = M.2.1 ∧ c.maxLocals = M.2.2.1 ∧ s.vm.findClass M.1.cls = some m.cls ∧ meth.locks = false ∧ meth.sig.returnType = M.2.2.2.1 ∧ meth.name = M.1.name ∧ TB s ∧ va_K D cls_ (tysB cA) s ∧ b ≤ s.heap.size ∧ s.heap.size + k = b + N
/-- from pc, with these values and this world, the method comes to an end with Q -/
def Ex (M : MI) (pc : Nat) (L : List (Nat × Value)) (st : List Value) (N : Nat) (R : RefT) (w : Wd) (k n : Nat) (Q : QT) : Prop :=
  ∀ (p : Program) (l : Launch) (e : Env) (s : State) (m : MethodId) (args : Array Value) (below : List Frame) (meth : Method) (c : Code) (D : va_G) (cA : Nat → ClassId) (b : Nat) (H : Heap) (locs : List Loc) (ls : Array Slot),
    FrC M D cA b N k p s m meth c → va_P D cls_ (wsB cA b N R w) H → va_S (fun q => b ≤ q) s.heap H locs → lv_has ls M.2.2.1 (cLB b L) →
    W p l e M.2.2.2.2 s m args below meth c H locs k n (MQ below (QF M b D cA Q) args s M.2.2.2.2.cells M.2.2.2.2.slots (fun q => b ≤ q)) (F0 m pc ls (st.map (cvB b)))
/-- a method's contract -/
def Runs (M : MI) (as : List Value) (N : Nat) (R : RefT) (w : Wd) (Q : QT) : Prop :=
  ∀ (l : Launch) (D : va_G) (cA : Nat → ClassId) (b : Nat), Met l M.1 [.code M.1 M.2.1 M.2.2.1 M.2.2.2.1] M.2.2.2.2 (va_Pc (as.map (cvB b)) (HL D cA b N R w)) (QF M b D cA Q) M.2.2.2.2.cells M.2.2.2.2.slots (fun q => b ≤ q)
theorem wsB_at {cA : Nat → ClassId} {b N : Nat} {R : RefT} {w : Wd} {q : Nat} (h : q < N) : (wsB cA b N R w)[q]? = some (b + q, celB cA b R w q) := by
  simp [wsB, h]
theorem wsB_inv {cA : Nat → ClassId} {b N : Nat} {R : RefT} {w : Wd} {k : Nat} {x : Nat × va_E} (h : (wsB cA b N R w)[k]? = some x) : k < N ∧ x = (b + k, celB cA b R w k) := by
  have hk : k < N := by
    have := (List.getElem?_eq_some_iff.mp h).1
    simpa [wsB] using this
  rw [wsB_at hk] at h
  exact ⟨hk, (Option.some.inj h).symm⟩
theorem wsB_D {cA : Nat → ClassId} {b N : Nat} {R : RefT} {w : Wd} : va_D (fun q => b ≤ q) (wsB cA b N R w) := by
  refine ⟨fun i j x y hi hj hxy => ?_, fun k q hk => ?_⟩
  · obtain ⟨-, rfl⟩ := wsB_inv hi
    obtain ⟨-, rfl⟩ := wsB_inv hj
    simp at hxy
    exact hxy
  · obtain ⟨-, rfl⟩ := wsB_inv hk
    simp
theorem wsB_set {D : va_G} {cA : Nat → ClassId} {b N : Nat} {R R' : RefT} {w w' : Wd} {q : Nat} {e : va_E} {H : Heap} (hq : q < N) (hP : va_P D cls_ ((wsB cA b N R w).set q (b + q, e)) H) (he : celB cA b R' w' q = e) (ho : ∀ p, p ≠ q → celB cA b R' w' p = celB cA b R w p) : va_P D cls_ (wsB cA b N R' w') H := by
  intro k x hx
  obtain ⟨hk, rfl⟩ := wsB_inv hx
  by_cases hkq : k = q
  · subst hkq
    refine hP k _ ?_
    rw [List.getElem?_set_self (by simpa [wsB] using hk), he]
  · refine hP k _ ?_
    rw [List.getElem?_set_ne (Ne.symm hkq), wsB_at hk, ho k hkq]
theorem celB_a {cA : Nat → ClassId} {b : Nat} {R : RefT} {w : Wd} {q t n : Nat} (h : kd q = .inl (t, n)) : celB cA b R w q = .inl (cA t, arB w q t n) := by
  simp [celB, h]
theorem celB_o {cA : Nat → ClassId} {b : Nat} {R : RefT} {w : Wd} {q ci : Nat} (h : kd q = .inr ci) : celB cA b R w q = .inr (ci, fsB b R w q ci) := by
  simp [celB, h]
def upI (w : Wd) (q j : Nat) (x : Int32) : Wd := (fun p k => if p = q ∧ k = j then x else w.1 p k, w.2)
def upL (w : Wd) (q j : Nat) (x : Int64) : Wd := (w.1, fun p k => if p = q ∧ k = j then x else w.2 p k)
def upR (R : RefT) (q j : Nat) (x : Nat) : RefT := fun p k => if p = q ∧ k = j then some x else R p k
theorem celB_upI {cA : Nat → ClassId} {b : Nat} {R : RefT} {w : Wd} {q j p : Nat} {x : Int32} (h : p ≠ q) : celB cA b R (upI w q j x) p = celB cA b R w p := by
  simp [celB, arB, fsB, fvB, upI, h]
theorem celB_upL {cA : Nat → ClassId} {b : Nat} {R : RefT} {w : Wd} {q j p : Nat} {x : Int64} (h : p ≠ q) : celB cA b R (upL w q j x) p = celB cA b R w p := by
  simp [celB, arB, fsB, fvB, upL, h]
theorem celB_upR {cA : Nat → ClassId} {b : Nat} {R : RefT} {w : Wd} {q j p : Nat} {x : Nat} (h : p ≠ q) : celB cA b (upR R q j x) w p = celB cA b R w p := by
  simp [celB, arB, fsB, fvB, upR, h]
theorem fsB_at {b : Nat} {R : RefT} {w : Wd} {p ci k : Nat} (h : k < nfl ci) : (fsB b R w p ci)[k]? = some (fvB b R w p (ftl ci k) k) := by
  simp [fsB, h]
theorem fsB_len {b : Nat} {R : RefT} {w : Wd} {p ci : Nat} : (fsB b R w p ci).length = nfl ci := by simp [fsB]
theorem fsB_set {b : Nat} {R R' : RefT} {w w' : Wd} {p ci k : Nat} {v : Value} (hv : fvB b R' w' p (ftl ci k) k = v) (ho : ∀ j, j ≠ k → fvB b R' w' p (ftl ci j) j = fvB b R w p (ftl ci j) j) : fsB b R' w' p ci = (fsB b R w p ci).set k v := by
  apply List.ext_getElem?
  intro j
  by_cases hj : j < nfl ci
  · rw [fsB_at hj]
    by_cases hjk : j = k
    · subst hjk
      rw [List.getElem?_set_self (by rw [fsB_len]; exact hj), hv]
    · rw [List.getElem?_set_ne (Ne.symm hjk), fsB_at hj, ho j hjk]
  · rw [List.getElem?_eq_none (by rw [fsB_len]; omega), List.getElem?_eq_none (by rw [List.length_set, fsB_len]; omega)]
theorem cLB_at {b : Nat} {L : List (Nat × Value)} {j i : Nat} {v : Value} (h : L[j]? = some (i, v)) : (cLB b L)[j]? = some (i, cvB b v) := by
  simp [cLB, h]
theorem cvB_cat (b : Nat) (v : Value) : (cvB b v).category = v.category := by cases v <;> rfl
def stL (i : Nat) (v : Value) (L : List (Nat × Value)) : List (Nat × Value) := (i, v) :: L.filter (fun q => !(q.1 == i) && !(q.1 + 1 == i && q.2.category == 2))
def stL2 (i : Nat) (v : Value) (L : List (Nat × Value)) : List (Nat × Value) := (i, v) :: L.filter (fun q => !(q.1 == i) && (!(q.1 == i + 1) && !(q.1 + 1 == i && q.2.category == 2)))
theorem cLB_f {b : Nat} {g : Nat × Value → Bool} (hg : ∀ q, g (q.1, cvB b q.2) = g q) (L : List (Nat × Value)) : cLB b (L.filter g) = (cLB b L).filter g := by
  simp only [cLB, List.filter_map]
  congr 1
  apply List.filter_congr
  intro q _
  exact (hg q).symm
theorem cLB_st {b i : Nat} {v : Value} {L : List (Nat × Value)} : cLB b (stL i v L) = (i, cvB b v) :: (cLB b L).filter (fun q => !(q.1 == i) && !(q.1 + 1 == i && q.2.category == 2)) := by
  show (i, cvB b v) :: cLB b (L.filter _) = _
  rw [cLB_f (fun q => by simp [cvB_cat])]
theorem cLB_st2 {b i : Nat} {v : Value} {L : List (Nat × Value)} : cLB b (stL2 i v L) = (i, cvB b v) :: (cLB b L).filter (fun q => !(q.1 == i) && (!(q.1 == i + 1) && !(q.1 + 1 == i && q.2.category == 2))) := by
  show (i, cvB b v) :: cLB b (L.filter _) = _
  rw [cLB_f (fun q => by simp [cvB_cat])]
theorem lvB_pick {b nL : Nat} {ls : Array Slot} {X L' : List (Nat × Value)} (ks : List Nat) (hp : lv_pick X ks = L') (h : lv_has ls nL (cLB b X)) : lv_has ls nL (cLB b L') := by
  refine ⟨h.1, h.2.1, fun q hq => h.2.2 q ?_⟩
  simp only [cLB, List.mem_map] at hq ⊢
  obtain ⟨a, ha, rfl⟩ := hq
  rw [← hp] at ha
  obtain ⟨j, -, hj⟩ := List.mem_filterMap.mp ha
  exact ⟨a, List.mem_of_getElem? hj, rfl⟩
section XR
variable {M : MI} {pc : Nat} {L L' : List (Nat × Value)} {st : List Value} {N : Nat} {R : RefT} {w : Wd} {k n : Nat} {Q : QT}
theorem x_iconst {i : Int} {v : Int32} (hd : decode M.2.1 pc = .ok (.iconst i, 1)) (hv : Int32.ofInt i = v) (h : Ex M (pc + 1) L (.int v :: st) N R w k n Q) : Ex M pc L (st) N R w k n Q := fun p l e s m args below meth c D cA b H locs ls F hP hS hl => lv_iconst F.1 F.2.1 hd hv (h p l e s m args below meth c D cA b H locs ls F hP hS hl)
theorem x_bipush {i : Int} {v : Int32} (hd : decode M.2.1 pc = .ok (.bipush i, 2)) (hv : (Int8.ofInt i).toInt32 = v) (h : Ex M (pc + 2) L (.int v :: st) N R w k n Q) : Ex M pc L (st) N R w k n Q := fun p l e s m args below meth c D cA b H locs ls F hP hS hl => lv_bipush F.1 F.2.1 hd hv (h p l e s m args below meth c D cA b H locs ls F hP hS hl)
theorem x_sipush {i : Int} {v : Int32} (hd : decode M.2.1 pc = .ok (.sipush i, 3)) (hv : (Int16.ofInt i).toInt32 = v) (h : Ex M (pc + 3) L (.int v :: st) N R w k n Q) : Ex M pc L (st) N R w k n Q := fun p l e s m args below meth c D cA b H locs ls F hP hS hl => lv_sipush F.1 F.2.1 hd hv (h p l e s m args below meth c D cA b H locs ls F hP hS hl)
theorem x_lconst {i : Fin 2} {v : Int64} (hd : decode M.2.1 pc = .ok (.lconst i, 1)) (hv : Int64.ofNat (i : Nat) = v) (h : Ex M (pc + 1) L (.long v :: st) N R w k n Q) : Ex M pc L (st) N R w k n Q := fun p l e s m args below meth c D cA b H locs ls F hP hS hl => lv_lconst F.1 F.2.1 hd hv (h p l e s m args below meth c D cA b H locs ls F hP hS hl)
theorem x_iload_n {i : Fin 4} {x : Int32} (j : Nat) (hd : decode M.2.1 pc = .ok (.iload_n i, 1)) (hj : L[j]? = some ((i : Nat), .int x)) (h : Ex M (pc + 1) L (.int x :: st) N R w k n Q) : Ex M pc L (st) N R w k n Q := fun p l e s m args below meth c D cA b H locs ls F hP hS hl => lv_iload_n F.1 F.2.1 hd rfl (lv_at hl j (cLB_at hj)) (h p l e s m args below meth c D cA b H locs ls F hP hS hl)
theorem x_iload {i : Nat} {x : Int32} (j : Nat) (hd : decode M.2.1 pc = .ok (.iload i, 2)) (hj : L[j]? = some (i, .int x)) (h : Ex M (pc + 2) L (.int x :: st) N R w k n Q) : Ex M pc L (st) N R w k n Q := fun p l e s m args below meth c D cA b H locs ls F hP hS hl => lv_iload F.1 F.2.1 hd (lv_at hl j (cLB_at hj)) (h p l e s m args below meth c D cA b H locs ls F hP hS hl)
theorem x_lload_n {i : Fin 4} {x : Int64} (j : Nat) (hd : decode M.2.1 pc = .ok (.lload_n i, 1)) (hj : L[j]? = some ((i : Nat), .long x)) (h : Ex M (pc + 1) L (.long x :: st) N R w k n Q) : Ex M pc L (st) N R w k n Q := fun p l e s m args below meth c D cA b H locs ls F hP hS hl => lv_lload_n F.1 F.2.1 hd rfl (lv_at hl j (cLB_at hj)) (h p l e s m args below meth c D cA b H locs ls F hP hS hl)
theorem x_lload {i : Nat} {x : Int64} (j : Nat) (hd : decode M.2.1 pc = .ok (.lload i, 2)) (hj : L[j]? = some (i, .long x)) (h : Ex M (pc + 2) L (.long x :: st) N R w k n Q) : Ex M pc L (st) N R w k n Q := fun p l e s m args below meth c D cA b H locs ls F hP hS hl => lv_lload F.1 F.2.1 hd (lv_at hl j (cLB_at hj)) (h p l e s m args below meth c D cA b H locs ls F hP hS hl)
theorem x_aload_n {i : Fin 4} {x : Nat} (j : Nat) (hd : decode M.2.1 pc = .ok (.aload_n i, 1)) (hj : L[j]? = some ((i : Nat), .ref x)) (h : Ex M (pc + 1) L (.ref x :: st) N R w k n Q) : Ex M pc L (st) N R w k n Q := fun p l e s m args below meth c D cA b H locs ls F hP hS hl => lv_aload_n F.1 F.2.1 hd rfl (lv_at hl j (cLB_at hj)) (h p l e s m args below meth c D cA b H locs ls F hP hS hl)
theorem x_aload {i : Nat} {x : Nat} (j : Nat) (hd : decode M.2.1 pc = .ok (.aload i, 2)) (hj : L[j]? = some (i, .ref x)) (h : Ex M (pc + 2) L (.ref x :: st) N R w k n Q) : Ex M pc L (st) N R w k n Q := fun p l e s m args below meth c D cA b H locs ls F hP hS hl => lv_aload F.1 F.2.1 hd (lv_at hl j (cLB_at hj)) (h p l e s m args below meth c D cA b H locs ls F hP hS hl)
theorem x_iadd {x y : Int32} (hd : decode M.2.1 pc = .ok (.iadd, 1)) (h : Ex M (pc + 1) L (.int (x + y) :: st) N R w k n Q) : Ex M pc L (.int y :: .int x :: st) N R w k n Q := fun p l e s m args below meth c D cA b H locs ls F hP hS hl => lv_iadd F.1 F.2.1 hd (h p l e s m args below meth c D cA b H locs ls F hP hS hl)
theorem x_isub {x y : Int32} (hd : decode M.2.1 pc = .ok (.isub, 1)) (h : Ex M (pc + 1) L (.int (x - y) :: st) N R w k n Q) : Ex M pc L (.int y :: .int x :: st) N R w k n Q := fun p l e s m args below meth c D cA b H locs ls F hP hS hl => lv_isub F.1 F.2.1 hd (h p l e s m args below meth c D cA b H locs ls F hP hS hl)
theorem x_imul {x y : Int32} (hd : decode M.2.1 pc = .ok (.imul, 1)) (h : Ex M (pc + 1) L (.int (x * y) :: st) N R w k n Q) : Ex M pc L (.int y :: .int x :: st) N R w k n Q := fun p l e s m args below meth c D cA b H locs ls F hP hS hl => lv_imul F.1 F.2.1 hd (h p l e s m args below meth c D cA b H locs ls F hP hS hl)
theorem x_iand {x y : Int32} (hd : decode M.2.1 pc = .ok (.iand, 1)) (h : Ex M (pc + 1) L (.int (x &&& y) :: st) N R w k n Q) : Ex M pc L (.int y :: .int x :: st) N R w k n Q := fun p l e s m args below meth c D cA b H locs ls F hP hS hl => lv_iand F.1 F.2.1 hd (h p l e s m args below meth c D cA b H locs ls F hP hS hl)
theorem x_ishr {x y : Int32} (hd : decode M.2.1 pc = .ok (.ishr, 1)) (h : Ex M (pc + 1) L (.int (x >>> (y &&& 31)) :: st) N R w k n Q) : Ex M pc L (.int y :: .int x :: st) N R w k n Q := fun p l e s m args below meth c D cA b H locs ls F hP hS hl => lv_ishr F.1 F.2.1 hd (h p l e s m args below meth c D cA b H locs ls F hP hS hl)
theorem x_idiv {x y : Int32} (hd : decode M.2.1 pc = .ok (.idiv, 1)) (hne : ¬ y = 0) (h : Ex M (pc + 1) L (.int (x / y) :: st) N R w k n Q) : Ex M pc L (.int y :: .int x :: st) N R w k n Q := fun p l e s m args below meth c D cA b H locs ls F hP hS hl => lv_idiv F.1 F.2.1 hd hne (h p l e s m args below meth c D cA b H locs ls F hP hS hl)
theorem x_irem {x y : Int32} (hd : decode M.2.1 pc = .ok (.irem, 1)) (hne : ¬ y = 0) (h : Ex M (pc + 1) L (.int (x - x / y * y) :: st) N R w k n Q) : Ex M pc L (.int y :: .int x :: st) N R w k n Q := fun p l e s m args below meth c D cA b H locs ls F hP hS hl => lv_irem F.1 F.2.1 hd hne (h p l e s m args below meth c D cA b H locs ls F hP hS hl)
theorem x_ineg {x : Int32} (hd : decode M.2.1 pc = .ok (.ineg, 1)) (h : Ex M (pc + 1) L (.int (-x) :: st) N R w k n Q) : Ex M pc L (.int x :: st) N R w k n Q := fun p l e s m args below meth c D cA b H locs ls F hP hS hl => lv_ineg F.1 F.2.1 hd (h p l e s m args below meth c D cA b H locs ls F hP hS hl)
theorem x_ladd {x y : Int64} (hd : decode M.2.1 pc = .ok (.ladd, 1)) (h : Ex M (pc + 1) L (.long (x + y) :: st) N R w k n Q) : Ex M pc L (.long y :: .long x :: st) N R w k n Q := fun p l e s m args below meth c D cA b H locs ls F hP hS hl => lv_ladd F.1 F.2.1 hd (h p l e s m args below meth c D cA b H locs ls F hP hS hl)
theorem x_lsub {x y : Int64} (hd : decode M.2.1 pc = .ok (.lsub, 1)) (h : Ex M (pc + 1) L (.long (x - y) :: st) N R w k n Q) : Ex M pc L (.long y :: .long x :: st) N R w k n Q := fun p l e s m args below meth c D cA b H locs ls F hP hS hl => lv_lsub F.1 F.2.1 hd (h p l e s m args below meth c D cA b H locs ls F hP hS hl)
theorem x_lmul {x y : Int64} (hd : decode M.2.1 pc = .ok (.lmul, 1)) (h : Ex M (pc + 1) L (.long (x * y) :: st) N R w k n Q) : Ex M pc L (.long y :: .long x :: st) N R w k n Q := fun p l e s m args below meth c D cA b H locs ls F hP hS hl => lv_lmul F.1 F.2.1 hd (h p l e s m args below meth c D cA b H locs ls F hP hS hl)
theorem x_land {x y : Int64} (hd : decode M.2.1 pc = .ok (.land, 1)) (h : Ex M (pc + 1) L (.long (x &&& y) :: st) N R w k n Q) : Ex M pc L (.long y :: .long x :: st) N R w k n Q := fun p l e s m args below meth c D cA b H locs ls F hP hS hl => lv_land F.1 F.2.1 hd (h p l e s m args below meth c D cA b H locs ls F hP hS hl)
theorem x_lor {x y : Int64} (hd : decode M.2.1 pc = .ok (.lor, 1)) (h : Ex M (pc + 1) L (.long (x ||| y) :: st) N R w k n Q) : Ex M pc L (.long y :: .long x :: st) N R w k n Q := fun p l e s m args below meth c D cA b H locs ls F hP hS hl => lv_lor F.1 F.2.1 hd (h p l e s m args below meth c D cA b H locs ls F hP hS hl)
theorem x_lxor {x y : Int64} (hd : decode M.2.1 pc = .ok (.lxor, 1)) (h : Ex M (pc + 1) L (.long (x ^^^ y) :: st) N R w k n Q) : Ex M pc L (.long y :: .long x :: st) N R w k n Q := fun p l e s m args below meth c D cA b H locs ls F hP hS hl => lv_lxor F.1 F.2.1 hd (h p l e s m args below meth c D cA b H locs ls F hP hS hl)
theorem x_ldiv {x y : Int64} (hd : decode M.2.1 pc = .ok (.ldiv, 1)) (hne : ¬ y = 0) (h : Ex M (pc + 1) L (.long (x / y) :: st) N R w k n Q) : Ex M pc L (.long y :: .long x :: st) N R w k n Q := fun p l e s m args below meth c D cA b H locs ls F hP hS hl => lv_ldiv F.1 F.2.1 hd hne (h p l e s m args below meth c D cA b H locs ls F hP hS hl)
theorem x_lneg {x : Int64} (hd : decode M.2.1 pc = .ok (.lneg, 1)) (h : Ex M (pc + 1) L (.long (-x) :: st) N R w k n Q) : Ex M pc L (.long x :: st) N R w k n Q := fun p l e s m args below meth c D cA b H locs ls F hP hS hl => lv_lneg F.1 F.2.1 hd (h p l e s m args below meth c D cA b H locs ls F hP hS hl)
theorem x_lcmp {x y : Int64} (hd : decode M.2.1 pc = .ok (.lcmp, 1)) (h : Ex M (pc + 1) L (.int (lg_cmp x y) :: st) N R w k n Q) : Ex M pc L (.long y :: .long x :: st) N R w k n Q := fun p l e s m args below meth c D cA b H locs ls F hP hS hl => W.lcmp F.1 F.2.1 hd (h p l e s m args below meth c D cA b H locs ls F hP hS hl)
theorem x_i2l {x : Int32} (hd : decode M.2.1 pc = .ok (.i2l, 1)) (h : Ex M (pc + 1) L (.long x.toInt64 :: st) N R w k n Q) : Ex M pc L (.int x :: st) N R w k n Q := fun p l e s m args below meth c D cA b H locs ls F hP hS hl => lv_i2l F.1 F.2.1 hd rfl (h p l e s m args below meth c D cA b H locs ls F hP hS hl)
theorem x_l2i {x : Int64} (hd : decode M.2.1 pc = .ok (.l2i, 1)) (h : Ex M (pc + 1) L (.int x.toInt32 :: st) N R w k n Q) : Ex M pc L (.long x :: st) N R w k n Q := fun p l e s m args below meth c D cA b H locs ls F hP hS hl => lv_l2i F.1 F.2.1 hd rfl (h p l e s m args below meth c D cA b H locs ls F hP hS hl)
theorem x_i2c {x : Int32} (hd : decode M.2.1 pc = .ok (.i2c, 1)) (h : Ex M (pc + 1) L (.int (x.toUInt32 % 65536).toInt32 :: st) N R w k n Q) : Ex M pc L (.int x :: st) N R w k n Q := fun p l e s m args below meth c D cA b H locs ls F hP hS hl => lv_i2c F.1 F.2.1 hd rfl (h p l e s m args below meth c D cA b H locs ls F hP hS hl)
theorem x_lushr {x : Int64} {y : Int32} (hd : decode M.2.1 pc = .ok (.lushr, 1)) (h : Ex M (pc + 1) L (.long (x.toUInt64 >>> (y.toInt64.toUInt64 &&& Int64.toUInt64 63)).toInt64 :: st) N R w k n Q) : Ex M pc L (.int y :: .long x :: st) N R w k n Q := fun p l e s m args below meth c D cA b H locs ls F hP hS hl => lv_lushr F.1 F.2.1 hd rfl (h p l e s m args below meth c D cA b H locs ls F hP hS hl)
theorem x_lshl {x : Int64} {y : Int32} (hd : decode M.2.1 pc = .ok (.lshl, 1)) (h : Ex M (pc + 1) L (.long (x <<< (y.toInt64 &&& 63)) :: st) N R w k n Q) : Ex M pc L (.int y :: .long x :: st) N R w k n Q := fun p l e s m args below meth c D cA b H locs ls F hP hS hl => lv_lshl F.1 F.2.1 hd rfl (h p l e s m args below meth c D cA b H locs ls F hP hS hl)
theorem x_lshr {x : Int64} {y : Int32} (hd : decode M.2.1 pc = .ok (.lshr, 1)) (h : Ex M (pc + 1) L (.long (x >>> (y.toInt64 &&& 63)) :: st) N R w k n Q) : Ex M pc L (.int y :: .long x :: st) N R w k n Q := fun p l e s m args below meth c D cA b H locs ls F hP hS hl => lv_lshr F.1 F.2.1 hd rfl (h p l e s m args below meth c D cA b H locs ls F hP hS hl)
theorem x_dup {v : Value} (hd : decode M.2.1 pc = .ok (.dup, 1)) (hc : v.category = 1) (h : Ex M (pc + 1) L (v :: v :: st) N R w k n Q) : Ex M pc L (v :: st) N R w k n Q := fun p l e s m args below meth c D cA b H locs ls F hP hS hl => lv_dup F.1 F.2.1 hd ((cvB_cat b v).trans hc) (h p l e s m args below meth c D cA b H locs ls F hP hS hl)
theorem x_pop {v : Value} (hd : decode M.2.1 pc = .ok (.pop, 1)) (hc : v.category = 1) (h : Ex M (pc + 1) L (st) N R w k n Q) : Ex M pc L (v :: st) N R w k n Q := fun p l e s m args below meth c D cA b H locs ls F hP hS hl => lv_pop F.1 F.2.1 hd ((cvB_cat b v).trans hc) (h p l e s m args below meth c D cA b H locs ls F hP hS hl)
theorem x_dup2 {v u : Value} (hd : decode M.2.1 pc = .ok (.dup2, 1)) (hc : v.category = 1) (hc2 : u.category = 1) (h : Ex M (pc + 1) L (v :: u :: v :: u :: st) N R w k n Q) : Ex M pc L (v :: u :: st) N R w k n Q := fun p l e s m args below meth c D cA b H locs ls F hP hS hl => lv_dup2_11 F.1 F.2.1 hd ((cvB_cat b v).trans hc) ((cvB_cat b u).trans hc2) (h p l e s m args below meth c D cA b H locs ls F hP hS hl)
theorem x_ldc {i : Nat} {v : Int32} (hd : decode M.2.1 pc = .ok (.ldc i, 2)) (hc : Jvm.Cond.constant M.1.cls i v ∈ lw_tbl) (h : Ex M (pc + 2) L (.int v :: st) N R w k n Q) : Ex M pc L (st) N R w k n Q := fun p l e s m args below meth c D cA b H locs ls F hP hS hl => lv_ldc F.1 F.2.1 F.2.2.2.1 (tb_use F.2.2.2.2.2.2.2.1 hc rfl) hd (h p l e s m args below meth c D cA b H locs ls F hP hS hl)
theorem x_ldc2 {i : Nat} {v : Int64} (hd : decode M.2.1 pc = .ok (.ldc2_w i, 3)) (hc : Jvm.Cond.constantLong M.1.cls i v ∈ lw_tbl) (h : Ex M (pc + 3) L (.long v :: st) N R w k n Q) : Ex M pc L (st) N R w k n Q := fun p l e s m args below meth c D cA b H locs ls F hP hS hl => lv_ldc2 F.1 F.2.1 F.2.2.2.1 (tb_use F.2.2.2.2.2.2.2.1 hc rfl) hd (h p l e s m args below meth c D cA b H locs ls F hP hS hl)
theorem x_if_eq {x : Int32} {off : Int} (tgt : Nat) (hd : decode M.2.1 pc = .ok (.ifCond .eq off, 3)) (ht : (pc : Int) + off = (tgt : Int)) (h1 : x = 0 → Ex M tgt L st N R w k n Q) (h2 : ¬ x = 0 → Ex M (pc + 3) L st N R w k n Q) : Ex M pc L (.int x :: st) N R w k n Q := fun p l e s m args below meth c D cA b H locs ls F hP hS hl => lv_if_eq F.1 F.2.1 hd ht (fun z => h1 z p l e s m args below meth c D cA b H locs ls F hP hS hl) (fun z => h2 z p l e s m args below meth c D cA b H locs ls F hP hS hl)
theorem x_icmp_eq {x y : Int32} {off : Int} (tgt : Nat) (hd : decode M.2.1 pc = .ok (.if_icmp .eq off, 3)) (ht : (pc : Int) + off = (tgt : Int)) (h1 : x = y → Ex M tgt L st N R w k n Q) (h2 : ¬ x = y → Ex M (pc + 3) L st N R w k n Q) : Ex M pc L (.int y :: .int x :: st) N R w k n Q := fun p l e s m args below meth c D cA b H locs ls F hP hS hl => lv_icmp_eq F.1 F.2.1 hd ht (fun z => h1 z p l e s m args below meth c D cA b H locs ls F hP hS hl) (fun z => h2 z p l e s m args below meth c D cA b H locs ls F hP hS hl)
theorem x_lif_eq {x y : Int64} {off : Int} (tgt : Nat) (hd1 : decode M.2.1 pc = .ok (.lcmp, 1)) (hd : decode M.2.1 (pc + 1) = .ok (.ifCond .eq off, 3)) (ht : ((pc + 1 : Nat) : Int) + off = (tgt : Int)) (h1 : x = y → Ex M tgt L st N R w k n Q) (h2 : ¬ x = y → Ex M (pc + 4) L st N R w k n Q) : Ex M pc L (.long y :: .long x :: st) N R w k n Q := x_lcmp hd1 (x_if_eq tgt hd ht (fun z => h1 (by first | exact (lg_cmp_eq _ _).mp z | exact fun y2 => z ((lg_cmp_eq _ _).mpr y2) | simpa [(lg_cmp_eq _ _)] using z)) (fun z => h2 (by first | exact (lg_cmp_eq _ _).mp z | exact fun y2 => z ((lg_cmp_eq _ _).mpr y2) | simpa [(lg_cmp_eq _ _)] using z)))
theorem x_if_ne {x : Int32} {off : Int} (tgt : Nat) (hd : decode M.2.1 pc = .ok (.ifCond .ne off, 3)) (ht : (pc : Int) + off = (tgt : Int)) (h1 : ¬ x = 0 → Ex M tgt L st N R w k n Q) (h2 : x = 0 → Ex M (pc + 3) L st N R w k n Q) : Ex M pc L (.int x :: st) N R w k n Q := fun p l e s m args below meth c D cA b H locs ls F hP hS hl => lv_if_ne F.1 F.2.1 hd ht (fun z => h1 z p l e s m args below meth c D cA b H locs ls F hP hS hl) (fun z => h2 z p l e s m args below meth c D cA b H locs ls F hP hS hl)
theorem x_icmp_ne {x y : Int32} {off : Int} (tgt : Nat) (hd : decode M.2.1 pc = .ok (.if_icmp .ne off, 3)) (ht : (pc : Int) + off = (tgt : Int)) (h1 : ¬ x = y → Ex M tgt L st N R w k n Q) (h2 : x = y → Ex M (pc + 3) L st N R w k n Q) : Ex M pc L (.int y :: .int x :: st) N R w k n Q := fun p l e s m args below meth c D cA b H locs ls F hP hS hl => lv_icmp_ne F.1 F.2.1 hd ht (fun z => h1 z p l e s m args below meth c D cA b H locs ls F hP hS hl) (fun z => h2 z p l e s m args below meth c D cA b H locs ls F hP hS hl)
theorem x_lif_ne {x y : Int64} {off : Int} (tgt : Nat) (hd1 : decode M.2.1 pc = .ok (.lcmp, 1)) (hd : decode M.2.1 (pc + 1) = .ok (.ifCond .ne off, 3)) (ht : ((pc + 1 : Nat) : Int) + off = (tgt : Int)) (h1 : ¬ x = y → Ex M tgt L st N R w k n Q) (h2 : x = y → Ex M (pc + 4) L st N R w k n Q) : Ex M pc L (.long y :: .long x :: st) N R w k n Q := x_lcmp hd1 (x_if_ne tgt hd ht (fun z => h1 (by first | exact (lg_cmp_eq _ _).mp z | exact fun y2 => z ((lg_cmp_eq _ _).mpr y2) | simpa [(lg_cmp_eq _ _)] using z)) (fun z => h2 (by first | exact (lg_cmp_eq _ _).mp z | exact fun y2 => z ((lg_cmp_eq _ _).mpr y2) | simpa [(lg_cmp_eq _ _)] using z)))
theorem x_if_lt {x : Int32} {off : Int} (tgt : Nat) (hd : decode M.2.1 pc = .ok (.ifCond .lt off, 3)) (ht : (pc : Int) + off = (tgt : Int)) (h1 : x < 0 → Ex M tgt L st N R w k n Q) (h2 : ¬ x < 0 → Ex M (pc + 3) L st N R w k n Q) : Ex M pc L (.int x :: st) N R w k n Q := fun p l e s m args below meth c D cA b H locs ls F hP hS hl => lv_if_lt F.1 F.2.1 hd ht (fun z => h1 z p l e s m args below meth c D cA b H locs ls F hP hS hl) (fun z => h2 z p l e s m args below meth c D cA b H locs ls F hP hS hl)
theorem x_icmp_lt {x y : Int32} {off : Int} (tgt : Nat) (hd : decode M.2.1 pc = .ok (.if_icmp .lt off, 3)) (ht : (pc : Int) + off = (tgt : Int)) (h1 : x < y → Ex M tgt L st N R w k n Q) (h2 : ¬ x < y → Ex M (pc + 3) L st N R w k n Q) : Ex M pc L (.int y :: .int x :: st) N R w k n Q := fun p l e s m args below meth c D cA b H locs ls F hP hS hl => lv_icmp_lt F.1 F.2.1 hd ht (fun z => h1 z p l e s m args below meth c D cA b H locs ls F hP hS hl) (fun z => h2 z p l e s m args below meth c D cA b H locs ls F hP hS hl)
theorem x_lif_lt {x y : Int64} {off : Int} (tgt : Nat) (hd1 : decode M.2.1 pc = .ok (.lcmp, 1)) (hd : decode M.2.1 (pc + 1) = .ok (.ifCond .lt off, 3)) (ht : ((pc + 1 : Nat) : Int) + off = (tgt : Int)) (h1 : x < y → Ex M tgt L st N R w k n Q) (h2 : ¬ x < y → Ex M (pc + 4) L st N R w k n Q) : Ex M pc L (.long y :: .long x :: st) N R w k n Q := x_lcmp hd1 (x_if_lt tgt hd ht (fun z => h1 (by first | exact (lg_cmp_lt _ _).mp z | exact fun y2 => z ((lg_cmp_lt _ _).mpr y2) | simpa [(lg_cmp_lt _ _)] using z)) (fun z => h2 (by first | exact (lg_cmp_lt _ _).mp z | exact fun y2 => z ((lg_cmp_lt _ _).mpr y2) | simpa [(lg_cmp_lt _ _)] using z)))
theorem x_if_ge {x : Int32} {off : Int} (tgt : Nat) (hd : decode M.2.1 pc = .ok (.ifCond .ge off, 3)) (ht : (pc : Int) + off = (tgt : Int)) (h1 : 0 ≤ x → Ex M tgt L st N R w k n Q) (h2 : ¬ 0 ≤ x → Ex M (pc + 3) L st N R w k n Q) : Ex M pc L (.int x :: st) N R w k n Q := fun p l e s m args below meth c D cA b H locs ls F hP hS hl => lv_if_ge F.1 F.2.1 hd ht (fun z => h1 z p l e s m args below meth c D cA b H locs ls F hP hS hl) (fun z => h2 z p l e s m args below meth c D cA b H locs ls F hP hS hl)
theorem x_icmp_ge {x y : Int32} {off : Int} (tgt : Nat) (hd : decode M.2.1 pc = .ok (.if_icmp .ge off, 3)) (ht : (pc : Int) + off = (tgt : Int)) (h1 : y ≤ x → Ex M tgt L st N R w k n Q) (h2 : ¬ y ≤ x → Ex M (pc + 3) L st N R w k n Q) : Ex M pc L (.int y :: .int x :: st) N R w k n Q := fun p l e s m args below meth c D cA b H locs ls F hP hS hl => lv_icmp_ge F.1 F.2.1 hd ht (fun z => h1 z p l e s m args below meth c D cA b H locs ls F hP hS hl) (fun z => h2 z p l e s m args below meth c D cA b H locs ls F hP hS hl)
theorem x_lif_ge {x y : Int64} {off : Int} (tgt : Nat) (hd1 : decode M.2.1 pc = .ok (.lcmp, 1)) (hd : decode M.2.1 (pc + 1) = .ok (.ifCond .ge off, 3)) (ht : ((pc + 1 : Nat) : Int) + off = (tgt : Int)) (h1 : y ≤ x → Ex M tgt L st N R w k n Q) (h2 : ¬ y ≤ x → Ex M (pc + 4) L st N R w k n Q) : Ex M pc L (.long y :: .long x :: st) N R w k n Q := x_lcmp hd1 (x_if_ge tgt hd ht (fun z => h1 (by first | exact (lg_cmp_ge _ _).mp z | exact fun y2 => z ((lg_cmp_ge _ _).mpr y2) | simpa [(lg_cmp_ge _ _)] using z)) (fun z => h2 (by first | exact (lg_cmp_ge _ _).mp z | exact fun y2 => z ((lg_cmp_ge _ _).mpr y2) | simpa [(lg_cmp_ge _ _)] using z)))
theorem x_if_gt {x : Int32} {off : Int} (tgt : Nat) (hd : decode M.2.1 pc = .ok (.ifCond .gt off, 3)) (ht : (pc : Int) + off = (tgt : Int)) (h1 : 0 < x → Ex M tgt L st N R w k n Q) (h2 : ¬ 0 < x → Ex M (pc + 3) L st N R w k n Q) : Ex M pc L (.int x :: st) N R w k n Q := fun p l e s m args below meth c D cA b H locs ls F hP hS hl => lv_if_gt F.1 F.2.1 hd ht (fun z => h1 z p l e s m args below meth c D cA b H locs ls F hP hS hl) (fun z => h2 z p l e s m args below meth c D cA b H locs ls F hP hS hl)
theorem x_icmp_gt {x y : Int32} {off : Int} (tgt : Nat) (hd : decode M.2.1 pc = .ok (.if_icmp .gt off, 3)) (ht : (pc : Int) + off = (tgt : Int)) (h1 : y < x → Ex M tgt L st N R w k n Q) (h2 : ¬ y < x → Ex M (pc + 3) L st N R w k n Q) : Ex M pc L (.int y :: .int x :: st) N R w k n Q := fun p l e s m args below meth c D cA b H locs ls F hP hS hl => lv_icmp_gt F.1 F.2.1 hd ht (fun z => h1 z p l e s m args below meth c D cA b H locs ls F hP hS hl) (fun z => h2 z p l e s m args below meth c D cA b H locs ls F hP hS hl)
theorem x_lif_gt {x y : Int64} {off : Int} (tgt : Nat) (hd1 : decode M.2.1 pc = .ok (.lcmp, 1)) (hd : decode M.2.1 (pc + 1) = .ok (.ifCond .gt off, 3)) (ht : ((pc + 1 : Nat) : Int) + off = (tgt : Int)) (h1 : y < x → Ex M tgt L st N R w k n Q) (h2 : ¬ y < x → Ex M (pc + 4) L st N R w k n Q) : Ex M pc L (.long y :: .long x :: st) N R w k n Q := x_lcmp hd1 (x_if_gt tgt hd ht (fun z => h1 (by first | exact (lg_cmp_gt _ _).mp z | exact fun y2 => z ((lg_cmp_gt _ _).mpr y2) | simpa [(lg_cmp_gt _ _)] using z)) (fun z => h2 (by first | exact (lg_cmp_gt _ _).mp z | exact fun y2 => z ((lg_cmp_gt _ _).mpr y2) | simpa [(lg_cmp_gt _ _)] using z)))
theorem x_if_le {x : Int32} {off : Int} (tgt : Nat) (hd : decode M.2.1 pc = .ok (.ifCond .le off, 3)) (ht : (pc : Int) + off = (tgt : Int)) (h1 : x ≤ 0 → Ex M tgt L st N R w k n Q) (h2 : ¬ x ≤ 0 → Ex M (pc + 3) L st N R w k n Q) : Ex M pc L (.int x :: st) N R w k n Q := fun p l e s m args below meth c D cA b H locs ls F hP hS hl => lv_if_le F.1 F.2.1 hd ht (fun z => h1 z p l e s m args below meth c D cA b H locs ls F hP hS hl) (fun z => h2 z p l e s m args below meth c D cA b H locs ls F hP hS hl)
theorem x_icmp_le {x y : Int32} {off : Int} (tgt : Nat) (hd : decode M.2.1 pc = .ok (.if_icmp .le off, 3)) (ht : (pc : Int) + off = (tgt : Int)) (h1 : x ≤ y → Ex M tgt L st N R w k n Q) (h2 : ¬ x ≤ y → Ex M (pc + 3) L st N R w k n Q) : Ex M pc L (.int y :: .int x :: st) N R w k n Q := fun p l e s m args below meth c D cA b H locs ls F hP hS hl => lv_icmp_le F.1 F.2.1 hd ht (fun z => h1 z p l e s m args below meth c D cA b H locs ls F hP hS hl) (fun z => h2 z p l e s m args below meth c D cA b H locs ls F hP hS hl)
theorem x_lif_le {x y : Int64} {off : Int} (tgt : Nat) (hd1 : decode M.2.1 pc = .ok (.lcmp, 1)) (hd : decode M.2.1 (pc + 1) = .ok (.ifCond .le off, 3)) (ht : ((pc + 1 : Nat) : Int) + off = (tgt : Int)) (h1 : x ≤ y → Ex M tgt L st N R w k n Q) (h2 : ¬ x ≤ y → Ex M (pc + 4) L st N R w k n Q) : Ex M pc L (.long y :: .long x :: st) N R w k n Q := x_lcmp hd1 (x_if_le tgt hd ht (fun z => h1 (by first | exact (lg_cmp_le _ _).mp z | exact fun y2 => z ((lg_cmp_le _ _).mpr y2) | simpa [(lg_cmp_le _ _)] using z)) (fun z => h2 (by first | exact (lg_cmp_le _ _).mp z | exact fun y2 => z ((lg_cmp_le _ _).mpr y2) | simpa [(lg_cmp_le _ _)] using z)))
theorem x_goto {off : Int} (tgt : Nat) (hd : decode M.2.1 pc = .ok (.goto off, 3)) (ht : (pc : Int) + off = (tgt : Int)) (h : Ex M tgt L st N R w k n Q) : Ex M pc L st N R w k n Q := fun p l e s m args below meth c D cA b H locs ls F hP hS hl => lv_goto F.1 F.2.1 hd ht (h p l e s m args below meth c D cA b H locs ls F hP hS hl)
theorem x_istore_n {i : Fin 4} {x : Int32} (ks : List Nat) (hd : decode M.2.1 pc = .ok (.istore_n i, 1)) (hn : (i : Nat) < M.2.2.1) (hL : lv_pick (stL (i : Nat) (.int x) L) ks = L') (h : Ex M (pc + 1) L' st N R w k n Q) : Ex M pc L (.int x :: st) N R w k n Q := fun p l e s m args below meth c D cA b H locs ls F hP hS hl => lv_istore_n F.1 F.2.1 hd rfl hl hn rfl (fun ls2 hl2 => h p l e s m args below meth c D cA b H locs ls2 F hP hS (lvB_pick ks hL (by rw [cLB_st]; exact hl2)))
theorem x_istore {i : Nat} {x : Int32} (ks : List Nat) (hd : decode M.2.1 pc = .ok (.istore i, 2)) (hn : i < M.2.2.1) (hL : lv_pick (stL i (.int x) L) ks = L') (h : Ex M (pc + 2) L' st N R w k n Q) : Ex M pc L (.int x :: st) N R w k n Q := fun p l e s m args below meth c D cA b H locs ls F hP hS hl => lv_istore F.1 F.2.1 hd hl hn rfl (fun ls2 hl2 => h p l e s m args below meth c D cA b H locs ls2 F hP hS (lvB_pick ks hL (by rw [cLB_st]; exact hl2)))
theorem x_astore_n {i : Fin 4} {x : Nat} (ks : List Nat) (hd : decode M.2.1 pc = .ok (.astore_n i, 1)) (hn : (i : Nat) < M.2.2.1) (hL : lv_pick (stL (i : Nat) (.ref x) L) ks = L') (h : Ex M (pc + 1) L' st N R w k n Q) : Ex M pc L (.ref x :: st) N R w k n Q := fun p l e s m args below meth c D cA b H locs ls F hP hS hl => lv_astore_n F.1 F.2.1 hd rfl hl hn rfl (fun ls2 hl2 => h p l e s m args below meth c D cA b H locs ls2 F hP hS (lvB_pick ks hL (by rw [cLB_st]; exact hl2)))
theorem x_astore {i : Nat} {x : Nat} (ks : List Nat) (hd : decode M.2.1 pc = .ok (.astore i, 2)) (hn : i < M.2.2.1) (hL : lv_pick (stL i (.ref x) L) ks = L') (h : Ex M (pc + 2) L' st N R w k n Q) : Ex M pc L (.ref x :: st) N R w k n Q := fun p l e s m args below meth c D cA b H locs ls F hP hS hl => lv_astore F.1 F.2.1 hd hl hn rfl (fun ls2 hl2 => h p l e s m args below meth c D cA b H locs ls2 F hP hS (lvB_pick ks hL (by rw [cLB_st]; exact hl2)))
theorem x_lstore_n {i : Fin 4} {x : Int64} (ks : List Nat) (hd : decode M.2.1 pc = .ok (.lstore_n i, 1)) (hn : (i : Nat) + 1 < M.2.2.1) (hL : lv_pick (stL2 (i : Nat) (.long x) L) ks = L') (h : Ex M (pc + 1) L' st N R w k n Q) : Ex M pc L (.long x :: st) N R w k n Q := fun p l e s m args below meth c D cA b H locs ls F hP hS hl => lv_lstore_n F.1 F.2.1 hd rfl hl hn rfl (fun ls2 hl2 => h p l e s m args below meth c D cA b H locs ls2 F hP hS (lvB_pick ks hL (by rw [cLB_st2]; exact hl2)))
theorem x_lstore {i : Nat} {x : Int64} (ks : List Nat) (hd : decode M.2.1 pc = .ok (.lstore i, 2)) (hn : i + 1 < M.2.2.1) (hL : lv_pick (stL2 i (.long x) L) ks = L') (h : Ex M (pc + 2) L' st N R w k n Q) : Ex M pc L (.long x :: st) N R w k n Q := fun p l e s m args below meth c D cA b H locs ls F hP hS hl => lv_lstore F.1 F.2.1 hd hl hn rfl (fun ls2 hl2 => h p l e s m args below meth c D cA b H locs ls2 F hP hS (lvB_pick ks hL (by rw [cLB_st2]; exact hl2)))
theorem x_iinc {i : Nat} {d : Int} {x v : Int32} (j : Nat) (ks : List Nat) (hd : decode M.2.1 pc = .ok (.iinc i d, 3)) (hj : L[j]? = some (i, .int x)) (hv : x + Int32.ofInt d = v) (hn : i < M.2.2.1) (hL : lv_pick (stL i (.int v) L) ks = L') (h : Ex M (pc + 3) L' st N R w k n Q) : Ex M pc L st N R w k n Q := fun p l e s m args below meth c D cA b H locs ls F hP hS hl => lv_iinc (v := v) F.1 F.2.1 hd hl (k := j) (cLB_at hj) hv hn rfl (fun ls2 hl2 => h p l e s m args below meth c D cA b H locs ls2 F hP hS (lvB_pick ks hL (by rw [cLB_st]; exact hl2)))
theorem x_perm (ks : List Nat) (hL : lv_pick L ks = L') (h : Ex M pc L' st N R w k n Q) : Ex M pc L st N R w k n Q := fun p l e s m args below meth c D cA b H locs ls F hP hS hl => h p l e s m args below meth c D cA b H locs ls F hP hS (lvB_pick ks hL hl)
/-- arrays -/
theorem x_iald {q len : Nat} {i : Int32} (hd : decode M.2.1 pc = .ok (.iaload, 1)) (hk : kd q = .inl (0, len)) (hq : q < N) (hin : vp_in i len) (h : Ex M (pc + 1) L (.int (w.1 q i.toNatClampNeg) :: st) N R w k n Q) : Ex M pc L (.int i :: .ref q :: st) N R w k n Q := fun p l e s m args below meth c D cA b H locs ls F hP hS hl =>
  va_iald (n := len) (f := w.1 q) (cA := cA 0) F.1 F.2.1 F.2.2.2.2.2.2.2.2.1 hP q 0 (by rw [wsB_at hq, celB_a hk]; rfl) rfl hin hd (h p l e s m args below meth c D cA b H locs ls F hP hS hl)
theorem x_lald {q len : Nat} {i : Int32} (hd : decode M.2.1 pc = .ok (.laload, 1)) (hk : kd q = .inl (1, len)) (hq : q < N) (hin : vp_in i len) (h : Ex M (pc + 1) L (.long (w.2 q i.toNatClampNeg) :: st) N R w k n Q) : Ex M pc L (.int i :: .ref q :: st) N R w k n Q := fun p l e s m args below meth c D cA b H locs ls F hP hS hl =>
  va_lald (n := len) (f := w.2 q) (cA := cA 1) F.1 F.2.1 F.2.2.2.2.2.2.2.2.1 hP q 1 (by rw [wsB_at hq, celB_a hk]; rfl) rfl hin hd (h p l e s m args below meth c D cA b H locs ls F hP hS hl)
theorem x_cald {q len : Nat} {i : Int32} (hd : decode M.2.1 pc = .ok (.caload, 1)) (hk : kd q = .inl (2, len)) (hq : q < N) (hin : vp_in i len) (h : Ex M (pc + 1) L (.int (w.1 q i.toNatClampNeg) :: st) N R w k n Q) : Ex M pc L (.int i :: .ref q :: st) N R w k n Q := fun p l e s m args below meth c D cA b H locs ls F hP hS hl =>
  va_cald (n := len) (f := w.1 q) (cA := cA 2) F.1 F.2.1 F.2.2.2.2.2.2.2.2.1 hP q 2 (by rw [wsB_at hq, celB_a hk]; rfl) rfl hin hd (h p l e s m args below meth c D cA b H locs ls F hP hS hl)
theorem x_zald {q len : Nat} {i : Int32} (hd : decode M.2.1 pc = .ok (.baload, 1)) (hk : kd q = .inl (3, len)) (hq : q < N) (hin : vp_in i len) (h : Ex M (pc + 1) L (.int (w.1 q i.toNatClampNeg) :: st) N R w k n Q) : Ex M pc L (.int i :: .ref q :: st) N R w k n Q := fun p l e s m args below meth c D cA b H locs ls F hP hS hl =>
  va_zald (n := len) (f := w.1 q) (cA := cA 3) F.1 F.2.1 F.2.2.2.2.2.2.2.2.1 hP q 3 (by rw [wsB_at hq, celB_a hk]; rfl) rfl hin hd (h p l e s m args below meth c D cA b H locs ls F hP hS hl)
theorem arB_upI {w : Wd} {q t len j : Nat} {x : Int32} (ht : t ≠ 1) : arB (upI w q j x) q t len = (len, .inl (upd (w.1 q) j x)) := by
  simp only [arB, upI, if_neg ht]
  congr 2
  funext a
  by_cases ha : a = j <;> simp [upd, ha]
theorem arB_upL {w : Wd} {q len j : Nat} {x : Int64} : arB (upL w q j x) q 1 len = (len, .inr (.inl (vp_updL (w.2 q) j x))) := by
  simp only [arB, upL, if_pos]
  congr 3
  funext a
  by_cases ha : a = j <;> simp [vp_updL, ha]
theorem x_iast {q len : Nat} {i x : Int32} (hd : decode M.2.1 pc = .ok (.iastore, 1)) (hk : kd q = .inl (0, len)) (hq : q < N) (hin : vp_in i len) (h : Ex M (pc + 1) L st N R (upI w q i.toNatClampNeg x) k n Q) : Ex M pc L (.int x :: .int i :: .ref q :: st) N R w k n Q := fun p l e s m args below meth c D cA b H locs ls F hP hS hl =>
  va_iast (n := len) (f := w.1 q) (cA := cA 0) F.1 F.2.1 F.2.2.2.2.2.2.2.2.1 hP wsB_D hS q 0 (by rw [wsB_at hq, celB_a hk]; rfl) rfl hin hd (fun H1 locs1 hP1 _ hS1 => h p l e s m args below meth c D cA b H1 locs1 ls F (wsB_set hq hP1 (by rw [celB_a hk, arB_upI (by decide)]) (fun p hp => celB_upI hp)) hS1 hl)
theorem x_cast {q len : Nat} {i x : Int32} (hd : decode M.2.1 pc = .ok (.castore, 1)) (hk : kd q = .inl (2, len)) (hq : q < N) (hin : vp_in i len) (h : Ex M (pc + 1) L st N R (upI w q i.toNatClampNeg (vp_nar .char x)) k n Q) : Ex M pc L (.int x :: .int i :: .ref q :: st) N R w k n Q := fun p l e s m args below meth c D cA b H locs ls F hP hS hl =>
  va_cast (n := len) (f := w.1 q) (cA := cA 2) F.1 F.2.1 F.2.2.2.2.2.2.2.2.1 hP wsB_D hS q 2 (by rw [wsB_at hq, celB_a hk]; rfl) rfl hin hd (fun H1 locs1 hP1 _ hS1 => h p l e s m args below meth c D cA b H1 locs1 ls F (wsB_set hq hP1 (by rw [celB_a hk, arB_upI (by decide)]) (fun p hp => celB_upI hp)) hS1 hl)
theorem x_zast {q len : Nat} {i x : Int32} (hd : decode M.2.1 pc = .ok (.bastore, 1)) (hk : kd q = .inl (3, len)) (hq : q < N) (hin : vp_in i len) (h : Ex M (pc + 1) L st N R (upI w q i.toNatClampNeg (vp_nar .boolean x)) k n Q) : Ex M pc L (.int x :: .int i :: .ref q :: st) N R w k n Q := fun p l e s m args below meth c D cA b H locs ls F hP hS hl =>
  va_zast (n := len) (f := w.1 q) (cA := cA 3) F.1 F.2.1 F.2.2.2.2.2.2.2.2.1 hP wsB_D hS q 3 (by rw [wsB_at hq, celB_a hk]; rfl) rfl hin hd (fun H1 locs1 hP1 _ hS1 => h p l e s m args below meth c D cA b H1 locs1 ls F (wsB_set hq hP1 (by rw [celB_a hk, arB_upI (by decide)]) (fun p hp => celB_upI hp)) hS1 hl)
theorem x_last {q len : Nat} {i : Int32} {x : Int64} (hd : decode M.2.1 pc = .ok (.lastore, 1)) (hk : kd q = .inl (1, len)) (hq : q < N) (hin : vp_in i len) (h : Ex M (pc + 1) L st N R (upL w q i.toNatClampNeg x) k n Q) : Ex M pc L (.long x :: .int i :: .ref q :: st) N R w k n Q := fun p l e s m args below meth c D cA b H locs ls F hP hS hl =>
  va_last (n := len) (f := w.2 q) (cA := cA 1) F.1 F.2.1 F.2.2.2.2.2.2.2.2.1 hP wsB_D hS q 1 (by rw [wsB_at hq, celB_a hk]; rfl) rfl hin hd (fun H1 locs1 hP1 _ hS1 => h p l e s m args below meth c D cA b H1 locs1 ls F (wsB_set hq hP1 (by rw [celB_a hk, arB_upL]) (fun p hp => celB_upL hp)) hS1 hl)
theorem x_alen {q t len : Nat} {v : Int32} (hd : decode M.2.1 pc = .ok (.arraylength, 1)) (hk : kd q = .inl (t, len)) (ht : t < 4) (hq : q < N) (hv : Int32.ofNat len = v) (h : Ex M (pc + 1) L (.int v :: st) N R w k n Q) : Ex M pc L (.ref q :: st) N R w k n Q := fun p l e s m args below meth c D cA b H locs ls F hP hS hl =>
  va_alen (cA := cA t) (x := arB w q t len) (ty := aty t) F.1 F.2.1 F.2.2.2.2.2.2.2.2.1 hP q t (by rw [wsB_at hq, celB_a hk]) (by
    rcases t with _ | _ | _ | _ | t
    · rfl
    · rfl
    · rfl
    · rfl
    · omega) hv hd (h p l e s m args below meth c D cA b H locs ls F hP hS hl)
/-- fields -/
theorem u_ok (C : String) (T : u_T) (N : Nat) : ∀ w ∈ u_ws C T N, okW w = true := by
  intro w hw
  obtain ⟨j, -, rfl⟩ := List.mem_map.mp hw
  unfold u_lay
  split <;> rfl
theorem tb_us {U : State} {args : Array Value} {C : String} {T : u_T} {N : Nat} (h : TB U) (hin : ∀ w ∈ u_ws C T N, w ∈ lw_tbl) : ∀ w ∈ u_ws C T N, w.before args U = true := fun w hw => tb_use h (hin w hw) (u_ok C T N w hw)
def KndOK (ci : Nat) (C : String) (T : u_T) (ty : Nat → FieldType) : Prop := cls_[ci]? = some (C, T, nfl ci) ∧ (∀ w ∈ u_ws C T (nfl ci), w ∈ lw_tbl) ∧ (∀ k, k < nfl ci → parseFieldDescriptor (T k).2.2.1 = some (ty k)) ∧ (∀ a, a < nfl ci → ∀ b, b < nfl ci → a ≠ b → (T a).2.1 ≠ (T b).2.1)
def FLk (own : String) (idx : Nat) (T : u_T) (j : Nat) : Prop := Cond.fieldLink own idx (T j).1 (T j).2.1 (T j).2.2.1 ∈ lw_tbl ∨ ∃ host, Cond.fieldLinkNest own idx (T j).1 (T j).2.1 (T j).2.2.1 host ∈ lw_tbl
def FGet (own : String) (idx ci j : Nat) : Prop := ∃ (C : String) (T : u_T) (ty : Nat → FieldType), KndOK ci C T ty ∧ j < nfl ci ∧ FLk own idx T j
def FPut (own : String) (idx ci j : Nat) (t : FieldType) : Prop := ∃ (C : String) (T : u_T) (ty : Nat → FieldType), KndOK ci C T ty ∧ j < nfl ci ∧ FLk own idx T j ∧ (T j).2.2.2 = false ∧ parseFieldDescriptor (T j).2.2.1 = some t
def FPutF (own : String) (idx ci j : Nat) (t : FieldType) : Prop := ∃ (C : String) (T : u_T) (ty : Nat → FieldType), KndOK ci C T ty ∧ j < nfl ci ∧ Cond.fieldLink own idx (T j).1 (T j).2.1 (T j).2.2.1 ∈ lw_tbl ∧ (T j).2.2.2 = true ∧ (T j).1 = own ∧ parseFieldDescriptor (T j).2.2.1 = some t
theorem x_getV {idx ci j q : Nat} (v : Value) (hd : decode M.2.1 pc = .ok (.getfield idx, 3)) (hf : FGet M.1.cls idx ci j) (hk : kd q = .inr ci) (hq : q < N) (hv : ∀ b, fvB b R w q (ftl ci j) j = cvB b v) (h : Ex M (pc + 3) L (v :: st) N R w k n Q) : Ex M pc L (.ref q :: st) N R w k n Q := by
  intro p l e s m args below meth c D cA b H locs ls F hP hS hl
  obtain ⟨C, T, ty, ⟨k1, k2, k3, k4⟩, hj, hlk⟩ := hf
  have he : (wsB cA b N R w)[q]? = some (b + q, .inr (ci, fsB b R w q ci)) := by rw [wsB_at hq, celB_o hk]
  have hfs : (fsB b R w q ci)[j]? = some (cvB b v) := by rw [fsB_at hj, hv]
  rcases hlk with hlk | ⟨host, hlk⟩
  · exact va_get (ref := (T j).1) F.1 F.2.1 (tb_us F.2.2.2.2.2.2.2.1 k2) (fun _ hw => hw) F.2.2.2.1 F.2.2.2.2.2.2.2.2.1 hP q he k1 j hj (tb_use F.2.2.2.2.2.2.2.1 hlk rfl) (fun _ h9 => h9) hfs hd (h p l e s m args below meth c D cA b H locs ls F hP hS hl)
  · exact va_getN (ref := (T j).1) F.1 F.2.1 (tb_us F.2.2.2.2.2.2.2.1 k2) (fun _ hw => hw) F.2.2.2.1 F.2.2.2.2.2.2.2.2.1 hP q he k1 j hj (tb_use F.2.2.2.2.2.2.2.1 hlk rfl) (fun _ h9 => h9) hfs hd (h p l e s m args below meth c D cA b H locs ls F hP hS hl)
theorem x_getI {idx q : Nat} (ci j : Nat) (hd : decode M.2.1 pc = .ok (.getfield idx, 3)) (hf : FGet M.1.cls idx ci j) (hk : kd q = .inr ci) (ht : ftl ci j = 0) (hq : q < N) (h : Ex M (pc + 3) L (.int (w.1 q j) :: st) N R w k n Q) : Ex M pc L (.ref q :: st) N R w k n Q := x_getV (.int (w.1 q j)) hd hf hk hq (fun b => by simp [fvB, ht, cvB]) h
theorem x_getL {idx q : Nat} (ci j : Nat) (hd : decode M.2.1 pc = .ok (.getfield idx, 3)) (hf : FGet M.1.cls idx ci j) (hk : kd q = .inr ci) (ht : ftl ci j = 1) (hq : q < N) (h : Ex M (pc + 3) L (.long (w.2 q j) :: st) N R w k n Q) : Ex M pc L (.ref q :: st) N R w k n Q := x_getV (.long (w.2 q j)) hd hf hk hq (fun b => by simp [fvB, ht, cvB]) h
theorem x_getR {idx q : Nat} (ci j q2 : Nat) (hd : decode M.2.1 pc = .ok (.getfield idx, 3)) (hf : FGet M.1.cls idx ci j) (hk : kd q = .inr ci) (ht : ftl ci j = 2) (hr : R q j = some q2) (hq : q < N) (h : Ex M (pc + 3) L (.ref q2 :: st) N R w k n Q) : Ex M pc L (.ref q :: st) N R w k n Q := x_getV (.ref q2) hd hf hk hq (fun b => by simp [fvB, ht, hr, cvB]) h
theorem x_putV {idx ci j q : Nat} {t : FieldType} {v : Value} {w' : Wd} (hd : decode M.2.1 pc = .ok (.putfield idx, 3)) (hf : FPut M.1.cls idx ci j t) (hk : kd q = .inr ci) (hq : q < N) (hn : ∀ b, narrow t (cvB b v) = cvB b v ∧ fits t (cvB b v) = true) (hv : ∀ b, fvB b R w' q (ftl ci j) j = cvB b v) (ho : ∀ b i, i ≠ j → fvB b R w' q (ftl ci i) i = fvB b R w q (ftl ci i) i) (hc : ∀ cA b p, p ≠ q → celB cA b R w' p = celB cA b R w p) (h : Ex M (pc + 3) L st N R w' k n Q) : Ex M pc L (v :: .ref q :: st) N R w k n Q := by
  intro p l e s m args below meth c D cA b H locs ls F hP hS hl
  obtain ⟨C, T, ty, ⟨k1, k2, k3, k4⟩, hj, hlk, hfin, hpt⟩ := hf
  have he : (wsB cA b N R w)[q]? = some (b + q, .inr (ci, fsB b R w q ci)) := by rw [wsB_at hq, celB_o hk]
  rcases hlk with hlk | ⟨host, hlk⟩
  · exact va_put (ref := (T j).1) F.1 F.2.1 (tb_us F.2.2.2.2.2.2.2.1 k2) (fun _ hw => hw) ty k3 k4 F.2.2.2.1 F.2.2.2.2.2.2.2.2.1 hP wsB_D hS q he k1 j hj (tb_use F.2.2.2.2.2.2.2.1 hlk rfl) (fun _ h9 => h9) hfin hpt (hn b).1 (hn b).2 (by rw [fsB_len]; exact hj) hd (fun H1 locs1 hP1 _ hS1 => h p l e s m args below meth c D cA b H1 locs1 ls F (wsB_set hq hP1 (by rw [celB_o hk, fsB_set (hv b) (ho b)]) (fun p hp => hc cA b p hp)) hS1 hl)
  · exact va_putN (ref := (T j).1) F.1 F.2.1 (tb_us F.2.2.2.2.2.2.2.1 k2) (fun _ hw => hw) ty k3 k4 F.2.2.2.1 F.2.2.2.2.2.2.2.2.1 hP wsB_D hS q he k1 j hj (tb_use F.2.2.2.2.2.2.2.1 hlk rfl) (fun _ h9 => h9) hfin hpt (hn b).1 (hn b).2 (by rw [fsB_len]; exact hj) hd (fun H1 locs1 hP1 _ hS1 => h p l e s m args below meth c D cA b H1 locs1 ls F (wsB_set hq hP1 (by rw [celB_o hk, fsB_set (hv b) (ho b)]) (fun p hp => hc cA b p hp)) hS1 hl)
theorem x_putI {idx q : Nat} (ci j : Nat) {x : Int32} (hd : decode M.2.1 pc = .ok (.putfield idx, 3)) (hf : FPut M.1.cls idx ci j .int) (hk : kd q = .inr ci) (ht : ftl ci j = 0) (hq : q < N) (h : Ex M (pc + 3) L st N R (upI w q j x) k n Q) : Ex M pc L (.int x :: .ref q :: st) N R w k n Q := x_putV hd hf hk hq (fun _ => ⟨rfl, rfl⟩) (fun b => by simp [fvB, ht, upI, cvB]) (fun b i hi => by simp [fvB, upI, hi]) (fun cA b p hp => celB_upI hp) h
theorem x_putZ {idx q : Nat} (ci j : Nat) {x : Int32} (hd : decode M.2.1 pc = .ok (.putfield idx, 3)) (hf : FPut M.1.cls idx ci j .boolean) (hk : kd q = .inr ci) (ht : ftl ci j = 0) (hq : q < N) (hx : narrow .boolean (.int x) = .int x ∧ fits .boolean (.int x) = true) (h : Ex M (pc + 3) L st N R (upI w q j x) k n Q) : Ex M pc L (.int x :: .ref q :: st) N R w k n Q := x_putV hd hf hk hq (fun _ => hx) (fun b => by simp [fvB, ht, upI, cvB]) (fun b i hi => by simp [fvB, upI, hi]) (fun cA b p hp => celB_upI hp) h
theorem x_putL {idx q : Nat} (ci j : Nat) {x : Int64} (hd : decode M.2.1 pc = .ok (.putfield idx, 3)) (hf : FPut M.1.cls idx ci j .long) (hk : kd q = .inr ci) (ht : ftl ci j = 1) (hq : q < N) (h : Ex M (pc + 3) L st N R (upL w q j x) k n Q) : Ex M pc L (.long x :: .ref q :: st) N R w k n Q := x_putV hd hf hk hq (fun _ => ⟨rfl, rfl⟩) (fun b => by simp [fvB, ht, upL, cvB]) (fun b i hi => by simp [fvB, upL, hi]) (fun cA b p hp => celB_upL hp) h
end XR
