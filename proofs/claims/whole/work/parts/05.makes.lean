section XM
variable {M : MI} {pc : Nat} {L L' : List (Nat × Value)} {st : List Value} {N : Nat} {R : RefT} {w : Wd} {k n : Nat} {Q : QT}
/-- System.arraycopy of longs -/
def cpL (w : Wd) (q0 q1 sp dp c : Nat) : Wd := (w.1, fun p => if p = q1 then va_cpy (w.2 q0) (w.2 q1) sp dp c else w.2 p)
theorem celB_cpL {cA : Nat → ClassId} {b : Nat} {q0 q1 sp dp c p : Nat} (h : p ≠ q1) : celB cA b R (cpL w q0 q1 sp dp c) p = celB cA b R w p := by
  simp [celB, arB, fsB, fvB, cpL, h]
theorem sum_cat (b : Nat) (st : List Value) : ((st.map (cvB b)).map fun v => v.category).sum = (st.map fun v => v.category).sum := by
  rw [List.map_map, show ((fun v : Value => v.category) ∘ cvB b) = (fun v => v.category) from funext (fun v => cvB_cat b v)]
def CpOK (own : String) (idx : Nat) : Prop := Cond.methodLink own idx arraycopyName ∈ lw_tbl ∧ Cond.native arraycopyName ∈ lw_tbl ∧ Cond.static arraycopyName ∈ lw_tbl ∧ Cond.initialized "java/lang/System" ∈ lw_tbl
theorem x_copy {idx q0 q1 l0 l1 : Nat} {sp dp c : Int32} (hd : decode M.2.1 pc = .ok (.invokestatic idx, 3)) (hc : CpOK M.1.cls idx) (hk0 : kd q0 = .inl (1, l0)) (hk1 : kd q1 = .inl (1, l1)) (hq0 : q0 < N) (hq1 : q1 < N) (h1 : ¬ sp < 0) (h2 : ¬ dp < 0) (h3 : ¬ c < 0) (h4 : sp.toNatClampNeg + c.toNatClampNeg ≤ l0) (h5 : dp.toNatClampNeg + c.toNatClampNeg ≤ l1)
    (hw : (st.map fun v => v.category).sum ≤ 8) (hR : 1 ≤ M.2.2.2.2.frames ∧ 26 ≤ M.2.2.2.2.locals) (h : Ex M (pc + 3) L st N R (cpL w q0 q1 sp.toNatClampNeg dp.toNatClampNeg c.toNatClampNeg) k n Q) : Ex M pc L (.int c :: .int dp :: .ref q1 :: .int sp :: .ref q0 :: st) N R w k n Q := by
  intro p l e s m args below meth cd D cA b H locs ls F hP hS hl
  obtain ⟨c1, c2, c3, c4⟩ := hc
  have hT := F.2.2.2.2.2.2.2.1
  refine va_copyl (n0 := l0) (n1 := l1) (f := w.2 q0) (g := w.2 q1) (c0 := cA 1) (c1 := cA 1) (ty := .long) F.1 F.2.1 (F.2.2.1.trans hl.1.symm) F.2.2.2.1 (tb_use hT c1 rfl) (tb_use hT c2 rfl) (tb_use hT c3 rfl) (tb_use hT c4 rfl) F.2.2.2.2.2.2.2.2.1 hP wsB_D hS q0 q1 1 1 (by rw [wsB_at hq0, celB_a hk0]; rfl) (by rw [wsB_at hq1, celB_a hk1]; rfl) rfl rfl rfl h1 h2 h3 h4 h5 (fun _ _ => rfl) hR.1 ?_ hd (fun H1 locs1 hP1 _ hS1 => h p l e s m args below meth cd D cA b H1 locs1 ls F (wsB_set hq1 hP1 ?_ (fun p hp => celB_cpL hp)) hS1 hl)
  · rw [sum_cat, show nativeFrameWords "java/lang/System" "arraycopy" 5 = 7 from by decide +kernel]
    omega
  · rw [celB_a hk1]
    simp [arB, cpL]
/-- Object's own constructor -/
theorem x_obj {idx q : Nat} (hd : decode M.2.1 pc = .ok (.invokespecial idx, 3)) (hc : Cond.methodLink M.1.cls idx Lib.objectInit ∈ lw_tbl ∧ Cond.instanceMethod Lib.objectInit ∈ lw_tbl ∧ Cond.code Lib.objectInit ⟨#[0xb1]⟩ 1 none ∈ lw_tbl) (hw : (st.map fun v => v.category).sum ≤ 8) (hR : 1 ≤ M.2.2.2.2.frames ∧ 20 ≤ M.2.2.2.2.locals) (h : Ex M (pc + 3) L st N R w k n Q) : Ex M pc L (.ref q :: st) N R w k n Q := by
  intro p l e s m args below meth c D cA b H locs ls F hP hS hl
  have hT := F.2.2.2.2.2.2.2.1
  refine W.objInit (rest := st.map (cvB b)) F.1 F.2.1 F.2.2.2.1 (tb_use hT hc.1 rfl) (tb_use hT hc.2.1 rfl) (tb_use hT hc.2.2 rfl) rfl (hl.1.trans F.2.2.1.symm) rfl hd hR.1 ?_ (h p l e s m args below meth c D cA b H locs ls F hP hS hl)
  rw [sum_cat]
  show 2 * 0 + _ + 12 ≤ _
  omega
theorem fresh_eq {b N q : Nat} {cA : Nat → ClassId} {e : va_E} {H1 : Heap} {D : va_G} (hP : va_P D cls_ (wsB cA b N R w ++ [(q, e)]) H1) (hD : va_D (fun q => b ≤ q) (wsB cA b N R w ++ [(q, e)])) (hz : H1.size ≤ b + N + 1) : q = b + N := by
  have hlen : (wsB cA b N R w).length = N := by simp [wsB]
  have hlast : (wsB cA b N R w ++ [(q, e)])[N]? = some (q, e) := by
    rw [List.getElem?_append_right (by omega), hlen, Nat.sub_self]
    rfl
  have h1 : q < H1.size := (hP N _ hlast).lt
  have h2 : b ≤ q := hD.2 N _ hlast
  rcases Nat.lt_or_ge q (b + N) with h3 | h3
  · exfalso
    have hi : q - b < N := by omega
    have hl : (wsB cA b N R w ++ [(q, e)])[q - b]? = some (b + (q - b), celB cA b R w (q - b)) := by
      rw [List.getElem?_append_left (by omega), wsB_at hi]
    have := hD.1 (q - b) N _ _ hl hlast (by simp; omega)
    omega
  · omega
theorem wsB_push {D : va_G} {cA : Nat → ClassId} {b : Nat} {e : va_E} {H : Heap} (hP : va_P D cls_ (wsB cA b N R w ++ [(b + N, e)]) H) (he : celB cA b R w N = e) : va_P D cls_ (wsB cA b (N + 1) R w) H := by
  intro j x hx
  obtain ⟨hj, rfl⟩ := wsB_inv hx
  have hlen : (wsB cA b N R w).length = N := by simp [wsB]
  refine hP j _ ?_
  rcases Nat.lt_or_ge j N with h | h
  · rw [List.getElem?_append_left (by omega), wsB_at h]
  · have : j = N := by omega
    subst this
    rw [List.getElem?_append_right (by omega), hlen, Nat.sub_self, he]
    rfl
theorem FrC_up {p : Program} {s : State} {m : MethodId} {meth : Method} {c : Code} {D : va_G} {cA : Nat → ClassId} {b : Nat} (F : FrC M D cA b N k p s m meth c) : FrC M D cA b (N + 1) (k + 1) p s m meth c := by
  obtain ⟨f1, f2, f3, f4, f5, f6, f7, f8, f9, f10, f11⟩ := F
  exact ⟨f1, f2, f3, f4, f5, f6, f7, f8, f9, f10, by omega⟩
def NewOK (own : String) (idx ci : Nat) : Prop := ∃ (C : String) (T : u_T) (ty : Nat → FieldType), KndOK ci C T ty ∧ Cond.classLink own idx C ∈ lw_tbl ∧ Cond.instantiable C (nfl ci) ∈ lw_tbl ∧ Cond.initialized C ∈ lw_tbl ∧ ∀ j, j < nfl ci → defaultValue (ty j) = if ftl ci j = 0 then .int 0 else if ftl ci j = 1 then .long 0 else .null
theorem x_new {idx : Nat} (ci : Nat) (hd : decode M.2.1 pc = .ok (.new idx, 3)) (hc : NewOK M.1.cls idx ci) (hk : kd N = .inr ci) (h0 : (∀ j, w.1 N j = 0) ∧ (∀ j, w.2 N j = 0) ∧ ∀ j, R N j = none) (hcells : k + 1 ≤ M.2.2.2.2.cells) (hslots : n + nfl ci ≤ M.2.2.2.2.slots) (h : Ex M (pc + 3) L (.ref N :: st) (N + 1) R w (k + 1) (n + nfl ci) Q) : Ex M pc L st N R w k n Q := by
  intro p l e s m args below meth c D cA b H locs ls F hP hS hl
  obtain ⟨C, T, ty, ⟨k1, k2, k3, k4⟩, c1, c2, c3, c4⟩ := hc
  have hT := F.2.2.2.2.2.2.2.1
  have hb := F.2.2.2.2.2.2.2.2.2.1
  have hsz := F.2.2.2.2.2.2.2.2.2.2
  refine va_new (fs := fsB b R w N ci) (A := fun q => b ≤ q) F.1 F.2.1 (tb_us hT k2) (fun _ hw => hw) ty k3 F.2.2.2.1 (tb_use hT c1 rfl) (tb_use hT c2 rfl) (tb_use hT c3 rfl) F.2.2.2.2.2.2.2.2.1 hP wsB_D hS (fun q hq => Nat.le_trans hb hq) k1 ?_ hcells hslots hd (fun q H1 hP1 hD1 hS1 => W_sized (fun hle => ?_))
  · intro j hj
    rw [c4 j hj]
    simp only [vp_V, List.getD_eq_getElem?_getD, fsB_at hj, Option.getD_some, fvB, h0.1, h0.2.1, h0.2.2]
  · have hq := fresh_eq hP1 hD1 (by omega)
    subst hq
    exact h p l e s m args below meth c D cA b H1 locs ls (FrC_up F) (wsB_push hP1 (celB_o hk)) hS1 hl
theorem x_newa {t len : Nat} {i : Int32} (at_ : ArrayType) (hd : decode M.2.1 pc = .ok (.newarray at_, 2)) (ha : Cond.arrayClass (newarray.typeOf at_) ∈ lw_tbl) (ht : t < 4) (hty : newarray.typeOf at_ = aty t) (hi : ¬ i < 0) (hn : i.toNatClampNeg = len) (hby : len * componentBytes (aty t) ≤ 536870912) (hk : kd N = .inl (t, len)) (h0 : (∀ j, w.1 N j = 0) ∧ (∀ j, w.2 N j = 0)) (hcells : k + 1 ≤ M.2.2.2.2.cells) (hslots : n + len ≤ M.2.2.2.2.slots) (h : Ex M (pc + 2) L (.ref N :: st) (N + 1) R w (k + 1) (n + len) Q) : Ex M pc L (.int i :: st) N R w k n Q := by
  intro p l e s m args below meth c D cA b H locs ls F hP hS hl
  have hT := F.2.2.2.2.2.2.2.1
  have hK := F.2.2.2.2.2.2.2.2.1
  have hb := F.2.2.2.2.2.2.2.2.2.1
  have hsz := F.2.2.2.2.2.2.2.2.2.2
  refine va_newa (a0 := arB w N t len) (ty := aty t) (N' := len) (A := fun q => b ≤ q) F.1 F.2.1 (tb_use hT ha rfl) hty hK hP wsB_D hS (fun q hq => Nat.le_trans hb hq) ?_ hi hn hby hcells hslots hd (fun q cA2 H1 hK1 hP1 hD1 hS1 => W_sized (fun hle => ?_))
  · intro cA2
    rcases t with _ | _ | _ | _ | t
    · simp [arB, vp_cell, aty, defaultValue, h0.1]
    · simp [arB, vp_cell, aty, defaultValue, h0.2]
    · simp [arB, vp_cell, aty, defaultValue, h0.1]
    · simp [arB, vp_cell, aty, defaultValue, h0.1]
    · omega
  · have hq := fresh_eq hP1 hD1 (by omega)
    subst hq
    have h1 := (hK1.2 4 (cA2, aty t) rfl).2
    have hcA : cA2 = cA t := by
      rcases t with _ | _ | _ | _ | t
      · exact Option.some.inj (h1.symm.trans (hK.2 0 _ rfl).2)
      · exact Option.some.inj (h1.symm.trans (hK.2 1 _ rfl).2)
      · exact Option.some.inj (h1.symm.trans (hK.2 2 _ rfl).2)
      · exact Option.some.inj (h1.symm.trans (hK.2 3 _ rfl).2)
      · omega
    subst hcA
    exact h p l e s m args below meth c D cA b H1 locs ls (FrC_up F) (wsB_push hP1 (celB_a hk)) hS1 hl
theorem x_putF {idx q q2 : Nat} (ci j : Nat) {t : FieldType} (hd : decode M.2.1 pc = .ok (.putfield idx, 3)) (hnm : M.1.name = "<init>") (hf : FPutF M.1.cls idx ci j t) (hk : kd q = .inr ci) (hft : ftl ci j = 2) (hq : q < N) (hn : ∀ a, narrow t (.ref a) = .ref a ∧ fits t (.ref a) = true) (h : Ex M (pc + 3) L st N (upR R q j q2) w k n Q) : Ex M pc L (.ref q2 :: .ref q :: st) N R w k n Q := by
  intro p l e s m args below meth c D cA b H locs ls F hP hS hl
  obtain ⟨C, T, ty, ⟨k1, k2, k3, k4⟩, hj, hlk, hfin, hown, hpt⟩ := hf
  have hT := F.2.2.2.2.2.2.2.1
  have he : (wsB cA b N R w)[q]? = some (b + q, .inr (ci, fsB b R w q ci)) := by rw [wsB_at hq, celB_o hk]
  refine va_putF (ref := (T j).1) (v := .ref (b + q2)) F.1 F.2.1 (tb_us hT k2) (fun _ hw => hw) ty k3 k4 F.2.2.2.1 F.2.2.2.2.2.2.2.2.1 hP wsB_D hS q he k1 j hj (tb_use hT hlk rfl) (fun _ h9 => h9) hfin (F.2.2.2.2.2.2.1.trans hnm) hown hpt (hn _).1 (hn _).2 (by rw [fsB_len]; exact hj) hd (fun H1 locs1 hP1 _ hS1 => h p l e s m args below meth c D cA b H1 locs1 ls F (wsB_set hq hP1 ?_ (fun p hp => celB_upR hp)) hS1 hl)
  rw [celB_o hk, fsB_set (R := R) (R' := upR R q j q2) (w := w) (k := j) (v := .ref (b + q2))]
  · simp [fvB, hft, upR]
  · intro i hi
    simp [fvB, upR, hi]
/-- Math's own -/
def MthOK (own : String) (idx : Nat) (y : MethodName) (cc : ByteArray) (ml : Nat) (ret : Option FieldType) : Prop := Cond.methodLink own idx y ∈ lw_tbl ∧ Cond.static y ∈ lw_tbl ∧ Cond.initialized "java/lang/Math" ∈ lw_tbl ∧ Cond.code y cc ml ret ∈ lw_tbl
theorem x_mmin {idx : Nat} {x y : Int32} (hd : decode M.2.1 pc = .ok (.invokestatic idx, 3)) (hc : MthOK M.1.cls idx Lib.Math.min.name Lib.Math.min.code 2 (some .int)) (hw : (st.map fun v => v.category).sum ≤ 8) (hR : 1 ≤ M.2.2.2.2.frames ∧ 23 ≤ M.2.2.2.2.locals) (hk : k ≤ M.2.2.2.2.cells) (hn : n ≤ M.2.2.2.2.slots) (h : Ex M (pc + 3) L (.int (if y < x then y else x) :: st) N R w k n Q) : Ex M pc L (.int y :: .int x :: st) N R w k n Q := by
  intro p l e s m args below meth c D cA b H locs ls F hP hS hl
  have hT := F.2.2.2.2.2.2.2.1
  exact va_mmin F.1 F.2.1 (F.2.2.1.trans hl.1.symm) F.2.2.2.1 (tb_use hT hc.1 rfl) (tb_use hT hc.2.1 rfl) (tb_use hT hc.2.2.1 rfl) (tb_use hT hc.2.2.2 rfl) hR.1 (by rw [sum_cat]; omega) hk hn hd (h p l e s m args below meth c D cA b H locs ls F hP hS hl)
theorem x_mmax {idx : Nat} {x y : Int32} (hd : decode M.2.1 pc = .ok (.invokestatic idx, 3)) (hc : MthOK M.1.cls idx Lib.Math.max.name Lib.Math.max.code 2 (some .int)) (hw : (st.map fun v => v.category).sum ≤ 8) (hR : 1 ≤ M.2.2.2.2.frames ∧ 23 ≤ M.2.2.2.2.locals) (hk : k ≤ M.2.2.2.2.cells) (hn : n ≤ M.2.2.2.2.slots) (h : Ex M (pc + 3) L (.int (if x < y then y else x) :: st) N R w k n Q) : Ex M pc L (.int y :: .int x :: st) N R w k n Q := by
  intro p l e s m args below meth c D cA b H locs ls F hP hS hl
  have hT := F.2.2.2.2.2.2.2.1
  exact va_mmax F.1 F.2.1 (F.2.2.1.trans hl.1.symm) F.2.2.2.1 (tb_use hT hc.1 rfl) (tb_use hT hc.2.1 rfl) (tb_use hT hc.2.2.1 rfl) (tb_use hT hc.2.2.2 rfl) hR.1 (by rw [sum_cat]; omega) hk hn hd (h p l e s m args below meth c D cA b H locs ls F hP hS hl)
theorem x_mabs {idx : Nat} {x : Int32} (hd : decode M.2.1 pc = .ok (.invokestatic idx, 3)) (hc : MthOK M.1.cls idx Lib.Math.abs.name Lib.Math.abs.code 1 (some .int)) (hw : (st.map fun v => v.category).sum ≤ 8) (hR : 1 ≤ M.2.2.2.2.frames ∧ 23 ≤ M.2.2.2.2.locals) (hk : k ≤ M.2.2.2.2.cells) (hn : n ≤ M.2.2.2.2.slots) (h : Ex M (pc + 3) L (.int (if 0 ≤ x then x else 0 - x) :: st) N R w k n Q) : Ex M pc L (.int x :: st) N R w k n Q := by
  intro p l e s m args below meth c D cA b H locs ls F hP hS hl
  have hT := F.2.2.2.2.2.2.2.1
  exact va_mabs F.1 F.2.1 (F.2.2.1.trans hl.1.symm) F.2.2.2.1 (tb_use hT hc.1 rfl) (tb_use hT hc.2.1 rfl) (tb_use hT hc.2.2.1 rfl) (tb_use hT hc.2.2.2 rfl) hR.1 (by rw [sum_cat]; omega) hk hn hd (h p l e s m args below meth c D cA b H locs ls F hP hS hl)
theorem x_mminL {idx : Nat} {x y : Int64} (hd : decode M.2.1 pc = .ok (.invokestatic idx, 3)) (hc : MthOK M.1.cls idx Lib.MathLoose.min_long.x Lib.MathLoose.min_long.code 4 (some .long)) (hw : (st.map fun v => v.category).sum ≤ 8) (hR : 1 ≤ M.2.2.2.2.frames ∧ 23 ≤ M.2.2.2.2.locals) (hk : k ≤ M.2.2.2.2.cells) (hn : n ≤ M.2.2.2.2.slots) (h : Ex M (pc + 3) L (.long (if y < x then y else x) :: st) N R w k n Q) : Ex M pc L (.long y :: .long x :: st) N R w k n Q := by
  intro p l e s m args below meth c D cA b H locs ls F hP hS hl
  have hT := F.2.2.2.2.2.2.2.1
  exact va_mmin_long F.1 F.2.1 (F.2.2.1.trans hl.1.symm) F.2.2.2.1 (tb_use hT hc.1 rfl) (tb_use hT hc.2.1 rfl) (tb_use hT hc.2.2.1 rfl) (tb_use hT hc.2.2.2 rfl) hR.1 (by rw [sum_cat]; omega) hk hn hd (h p l e s m args below meth c D cA b H locs ls F hP hS hl)
end XM
