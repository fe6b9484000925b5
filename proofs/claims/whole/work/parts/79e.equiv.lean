/-- automorphisms keep sums -/
theorem gM_per {n m a c u : Nat} (ok : GOK n m) (hc : gM n m c u = 0) : gM n m (a % c) u = gM n m a u := by
  have e : gM n m (a / c * c + a % c) u = gM n m (a % c) u := by
    rw [gM_add ok, gM_mul ok, hc, gM_z, gA_0l ok (gM_lt ok _ _)]
  rw [← e, Nat.mul_comm, Nat.div_add_mod]
theorem gA_4 {n m : Nat} (ok : GOK n m) (a b c d : Nat) : gA n m (gA n m a b) (gA n m c d) = gA n m (gA n m a c) (gA n m b d) := by
  rw [gA_assoc ok, gA_assoc ok, ← gA_assoc ok b c d, gA_comm n m b c, gA_assoc ok c b d]
theorem gF_hom {n m u z : Nat} (ok : GOK n m) (hu : gM n m n u = 0) (hz : gM n m m z = 0) (x y : Nat) : gF n m u z (gA n m x y) = gA n m (gF n m u z x) (gF n m u z y) := by
  unfold gF
  rw [gA_div ok, gA_mod ok, gM_per ok hu, gM_per ok hz, gM_add ok, gM_add ok, gA_4 ok]
theorem gF_gM {n m u z : Nat} (ok : GOK n m) (hu : gM n m n u = 0) (hz : gM n m m z = 0) {y : Nat} (hy : y < n * m) : ∀ t, gF n m u z (gM n m t y) = gM n m t (gF n m u z y)
  | 0 => by rw [gM_0, gM_0, gF_0 ok]
  | t + 1 => by rw [gM_succ ok hy, gF_hom ok hu hz, gF_gM ok hu hz hy t, gM_succ ok (gF_lt ok _ _ _)]
theorem gF_comp {n m u z u2 z2 : Nat} (ok : GOK n m) (hu : gM n m n u = 0) (hz : gM n m m z = 0) (h1 : u2 < n * m) (h2 : z2 < n * m) (x : Nat) : gF n m u z (gF n m u2 z2 x) = gF n m (gF n m u z u2) (gF n m u z z2) x := by
  show gF n m u z (gA n m (gM n m (x / m) u2) (gM n m (x % m) z2)) = _
  rw [gF_hom ok hu hz, gF_gM ok hu hz h1, gF_gM ok hu hz h2]
  rfl
theorem isAut_z {n m u z : Nat} (h : isAut n m u z = true) : gM n m n u = 0 ∧ gM n m m z = 0 := by
  simp only [isAut, Bool.and_eq_true, decide_eq_true_eq] at h
  exact ⟨h.1, h.2.1⟩
theorem isAut_mk {n m u z : Nat} (ok : GOK n m) (hu : gM n m n u = 0) (hz : gM n m m z = 0) (ho : ∀ y, y < n * m → ∃ x, x < n * m ∧ gF n m u z x = y) : isAut n m u z = true := by
  simp only [isAut, Bool.and_eq_true, decide_eq_true_eq]
  refine ⟨hu, hz, bits_ext (fun y => ?_)⟩
  rw [imS_bit, full_bit, decide_eq_true_eq]
  constructor
  · rintro ⟨x, hx, -, rfl⟩
    exact gF_lt ok _ _ _
  · intro hy
    obtain ⟨x, hx, e⟩ := ho y hy
    exact ⟨x, hx, by rw [full_bit]; exact decide_eq_true hx, e⟩
theorem aut_a {n m k : Nat} (hk : k < nAut n m) : aU n m k < n * m ∧ aZ n m k < n * m ∧ isAut n m (aU n m k) (aZ n m k) = true := aut_at hk
theorem aut_comp {s : Sg} (hs : WF s) {k l : Nat} (hk : k < nAut (sN s) (sM s)) (hl : l < nAut (sN s) (sM s)) : ∃ r, r < nAut (sN s) (sM s) ∧ ∀ x, fK s r x = fK s k (fK s l x) := by
  have ok := hs.1
  obtain ⟨k1, k2, k3⟩ := aut_a hk
  obtain ⟨l1, l2, l3⟩ := aut_a hl
  have kz := isAut_z k3
  have lz := isAut_z l3
  have ha : isAut (sN s) (sM s) (fK s k (aU (sN s) (sM s) l)) (fK s k (aZ (sN s) (sM s) l)) = true := by
    refine isAut_mk ok ?_ ?_ (fun y hy => ?_)
    · show gM _ _ _ (gF _ _ _ _ _) = 0
      rw [← gF_gM ok kz.1 kz.2 l1, lz.1, gF_0 ok]
    · show gM _ _ _ (gF _ _ _ _ _) = 0
      rw [← gF_gM ok kz.1 kz.2 l2, lz.2, gF_0 ok]
    · obtain ⟨x1, hx1, e1⟩ := aut_onto k3 hy
      obtain ⟨x2, hx2, e2⟩ := aut_onto l3 hx1
      refine ⟨x2, hx2, ?_⟩
      rw [← e1, ← e2]
      exact (gF_comp ok kz.1 kz.2 l1 l2 x2).symm
  obtain ⟨r, hr, e1, e2⟩ := aut_mem (gF_lt ok _ _ _) (gF_lt ok _ _ _) ha
  refine ⟨r, hr, fun x => ?_⟩
  show gF _ _ (aU _ _ r) (aZ _ _ r) x = _
  rw [e1, e2]
  exact (gF_comp ok kz.1 kz.2 l1 l2 x).symm
theorem aut_inv {s : Sg} (hs : WF s) {k : Nat} (hk : k < nAut (sN s) (sM s)) : ∃ r, r < nAut (sN s) (sM s) ∧ ∀ x, x < sN s * sM s → fK s r (fK s k x) = x := by
  have ok := hs.1
  obtain ⟨k1, k2, k3⟩ := aut_a hk
  have kz := isAut_z k3
  have hi := idU ok
  have iz := isAut_z (id_aut ok)
  obtain ⟨u2, hu2, e1⟩ := aut_onto k3 hi.2.1
  obtain ⟨z2, hz2, e2⟩ := aut_onto k3 hi.2.2
  have hr : ∀ x, x < sN s * sM s → fK s k (gF (sN s) (sM s) u2 z2 x) = x := fun x hx => by
    refine (gF_comp ok kz.1 kz.2 hu2 hz2 x).trans ?_
    rw [e1, e2]
    exact gF_id ok hx
  have hl : ∀ x, x < sN s * sM s → gF (sN s) (sM s) u2 z2 (fK s k x) = x := fun x hx => aut_inj ok k3 (gF_lt ok _ _ _) hx (hr _ (gF_lt ok _ _ _))
  have v0 := ok.v0
  have ha : isAut (sN s) (sM s) u2 z2 = true := by
    refine isAut_mk ok (aut_inj ok k3 (gM_lt ok _ _) v0 ?_) (aut_inj ok k3 (gM_lt ok _ _) v0 ?_) (fun y hy => ⟨fK s k y, gF_lt ok _ _ _, hl y hy⟩)
    · rw [gF_gM ok kz.1 kz.2 hu2, e1, iz.1, gF_0 ok]
    · rw [gF_gM ok kz.1 kz.2 hz2, e2, iz.2, gF_0 ok]
  obtain ⟨r, hr2, e3, e4⟩ := aut_mem hu2 hz2 ha
  refine ⟨r, hr2, fun x hx => ?_⟩
  show gF _ _ (aU _ _ r) (aZ _ _ r) _ = x
  rw [e3, e4]
  exact hl x hx
/-- the normal form of an image -/
theorem nfS_tr {n m S h : Nat} (ok : GOK n m) (hT : S < 2 ^ (n * m)) (hh : h < n * m) : nfS n m (trS n m S h) = nfS n m S := by
  have hS := trS_lt ok S h
  have hz : ∀ g, g < n * m → gA n m h (gA n m (gN n m h) g) = g := fun g hg => by rw [← gA_assoc ok, gA_N ok hh, gA_0l ok hg]
  refine (nfS_eq ok hS (fun g hg => ?_) ?_).symm
  · rw [trS_tr ok]
    exact nfS_le (gA_lt ok _ _)
  · obtain ⟨g, hg, e⟩ := nfS_is ok hT
    refine ⟨gA n m (gN n m h) g, gA_lt ok _ _, ?_⟩
    rw [e, trS_tr ok, hz g hg]
theorem imS_comp {φ ψ : Nat → Nat} {S v : Nat} (hφ : ∀ x, x < v → φ x < v) : imS ψ (imS φ S v) v = imS (fun x => ψ (φ x)) S v := by
  apply bits_ext
  intro y
  rw [imS_bit, imS_bit]
  constructor
  · rintro ⟨x, hx, h1, rfl⟩
    obtain ⟨x2, hx2, h2, rfl⟩ := (imS_bit _ _ _ _).mp h1
    exact ⟨x2, hx2, h2, rfl⟩
  · rintro ⟨x, hx, h1, rfl⟩
    exact ⟨φ x, hφ x hx, (imS_bit _ _ _ _).mpr ⟨x, hx, h1, rfl⟩, rfl⟩
theorem nf_img {n m T : Nat} {q : Nat → Nat} (ok : GOK n m) (hq : ∀ x, x < n * m → q x < n * m) (hh : ∀ x y, x < n * m → y < n * m → q (gA n m x y) = gA n m (q x) (q y)) (hT : T < 2 ^ (n * m)) : nfS n m (imS q T (n * m)) = nfS n m (imS q (nfS n m T) (n * m)) := by
  obtain ⟨g, hg, e⟩ := nfS_is ok hT
  have e2 : imS q (trS n m T g) (n * m) = trS n m (imS q T (n * m)) (q g) := by
    unfold trS
    rw [imS_comp (fun x _ => gA_lt ok x g), imS_comp hq]
    exact imS_cong (fun x hx => hh x g hx hg)
  rw [e, e2, nfS_tr ok (imS_lt hq) (hq g hg)]
/-- a sorted list is known by its counts -/
def srt (c : Nat) (F : Nat → Nat) : Prop := ∀ i, i + 1 < c → F i ≤ F (i + 1)
theorem srt.le {c : Nat} {F : Nat → Nat} (h : srt c F) {i : Nat} : ∀ j, i + j < c → F i ≤ F (i + j)
  | 0, _ => Nat.le_refl _
  | j + 1, hj => Nat.le_trans (srt.le h j (by omega)) (h (i + j) hj)
theorem srt.ct {c i t : Nat} {F : Nat → Nat} (h : srt c F) (hi : i < c) : F i ≤ t ↔ i < fb_ct (fun j => decide (F j ≤ t)) c := by
  constructor
  · intro h1
    have h2 : fb_ct (fun j => decide (F j ≤ t)) (i + 1) = i + 1 := fb_ct_all.mpr (fun k hk => decide_eq_true (by
      have := h.le (i := k) (i - k) (by omega)
      rw [show k + (i - k) = i by omega] at this
      omega))
    have h3 := fb_ct_mono (fun j => decide (F j ≤ t)) (show i + 1 ≤ c by omega)
    omega
  · intro h1
    refine Decidable.byContradiction (fun h2 => ?_)
    have h3 := fb_ct_split (fun j => decide (F j ≤ t)) i (c - i)
    rw [show i + (c - i) = c by omega] at h3
    have h4 : fb_ct (fun k => decide (F (i + k) ≤ t)) (c - i) = 0 := fb_ct_zero.mpr (fun k hk => decide_eq_false (by
      have := h.le (i := i) k (by omega)
      omega))
    have h5 := fb_ct_le (fun j => decide (F j ≤ t)) i
    omega
theorem srt.one {c : Nat} {F G : Nat → Nat} (hF : srt c F) (hG : srt c G) (h : ∀ P : Nat → Bool, fb_ct (fun j => P (F j)) c = fb_ct (fun j => P (G j)) c) : ∀ i, i < c → F i = G i := by
  intro i hi
  have h1 := (hF.ct (t := G i) hi).mpr (by rw [h (fun x => decide (x ≤ G i))]; exact (hG.ct hi).mp (Nat.le_refl _))
  have h2 := (hG.ct (t := F i) hi).mpr (by rw [← h (fun x => decide (x ≤ F i))]; exact (hF.ct hi).mp (Nat.le_refl _))
  omega
theorem ins_far {T : Nat} : ∀ p F i, p < i → ins T p F i = F i
  | 0, F, i, h => if_neg (by omega)
  | p + 1, F, i, h => by
    rw [ins]
    split
    · exact if_neg (by omega)
    · rw [ins_far p _ i (by omega)]
      exact if_neg (by omega)
theorem ins_ct {T : Nat} (P : Nat → Bool) : ∀ p F, fb_ct (fun j => P (ins T p F j)) (p + 1) = fb_ct (fun j => P (F j)) p + (if P T then 1 else 0)
  | 0, F => by
    rw [fb_ct_succ]
    rfl
  | p + 1, F => by
    rw [fb_ct_succ, ins]
    by_cases h : F p ≤ T
    · rw [if_pos h]
      have e1 : upF F (p + 1) T (p + 1) = T := if_pos rfl
      rw [e1, fb_ct_cong (q := fun j => P (F j)) (fun k hk => by
        show P (if k = p + 1 then T else F k) = _
        rw [if_neg (by omega)])]
    · rw [if_neg h, ins_far _ _ _ (by omega), ins_ct P p, fb_ct_succ]
      have e1 : upF F (p + 1) (F p) (p + 1) = F p := if_pos rfl
      rw [e1, fb_ct_cong (q := fun j => P (F j)) (fun k hk => by
        show P (if k = p + 1 then F p else F k) = _
        rw [if_neg (by omega)])]
      omega
theorem ins_is {T : Nat} : ∀ p F, ∃ q, q ≤ p ∧ (∀ i, i < q → ins T p F i = F i) ∧ ins T p F q = T ∧ (∀ i, q ≤ i → i < p → ins T p F (i + 1) = F i ∧ T < F i) ∧ (∀ i, i + 1 = q → F i ≤ T)
  | 0, F => ⟨0, Nat.le_refl 0, fun i hi => absurd hi (Nat.not_lt_zero i), (by show (if 0 = 0 then T else F 0) = T; exact if_pos rfl), fun i _ hi => absurd hi (Nat.not_lt_zero i), fun i hi => absurd hi (by omega)⟩
  | p + 1, F => by
    rw [ins]
    by_cases h : F p ≤ T
    · rw [if_pos h]
      refine ⟨p + 1, Nat.le_refl _, fun i hi => if_neg (by omega), if_pos rfl, fun i h1 h2 => absurd h2 (by omega), fun i hi => ?_⟩
      rw [show i = p by omega]
      exact h
    · rw [if_neg h]
      obtain ⟨q, h1, h2, h3, h4, h5⟩ := ins_is p (upF F (p + 1) (F p))
      have hF : ∀ i, i ≤ p → upF F (p + 1) (F p) i = F i := fun i hi => if_neg (by omega)
      refine ⟨q, by omega, fun i hi => by rw [h2 i hi, hF i (by omega)], h3, fun i hi1 hi2 => ?_, fun i hi => by rw [← hF i (by omega)]; exact h5 i hi⟩
      by_cases e : i = p
      · subst e
        rw [ins_far _ _ _ (by omega)]
        exact ⟨if_pos rfl, by omega⟩
      · have h6 := h4 i hi1 (by omega)
        rw [hF i (by omega)] at h6
        exact h6
theorem ins_srt {T p : Nat} {F : Nat → Nat} (h : srt p F) : srt (p + 1) (ins T p F) := by
  obtain ⟨q, h1, h2, h3, h4, h5⟩ := ins_is (T := T) p F
  intro i hi
  rcases Nat.lt_trichotomy (i + 1) q with c | c | c
  · rw [h2 i (by omega), h2 (i + 1) c]
    exact h i (by omega)
  · rw [h2 i (by omega), c, h3]
    exact h5 i c
  · by_cases e : i = q
    · rw [(h4 i (by omega) (by omega)).1, e, h3, ← e]
      exact Nat.le_of_lt (h4 i (by omega) (by omega)).2
    · have e2 := (h4 (i - 1) (by omega) (by omega)).1
      rw [show i - 1 + 1 = i by omega] at e2
      rw [(h4 i (by omega) (by omega)).1, e2]
      have := h (i - 1) (by omega)
      rw [show i - 1 + 1 = i by omega] at this
      exact this
theorem liF_srt (n m : Nat) (φ f : Nat → Nat) : ∀ k, srt (liF n m φ f k).1 (liF n m φ f k).2
  | 0 => fun i hi => absurd hi (Nat.not_lt_zero _)
  | k + 1 => by
    rw [liF]
    split
    · exact liF_srt n m φ f k
    · exact ins_srt (liF_srt n m φ f k)
theorem liF_ct (n m : Nat) (φ f : Nat → Nat) (P : Nat → Bool) : ∀ k, fb_ct (fun j => P ((liF n m φ f k).2 j)) (liF n m φ f k).1 = fb_ct (fun j => decide (f j ≠ 0) && P (nfS n m (imS φ (f j) (n * m)))) k
  | 0 => rfl
  | k + 1 => by
    rw [liF, fb_ct_succ]
    by_cases h : f k = 0
    · rw [if_pos h, liF_ct n m φ f P k, decide_eq_false (fun c => c h)]
      rfl
    · rw [if_neg h, decide_eq_true h, Bool.true_and, ← liF_ct n m φ f P k]
      exact ins_ct P _ _
/-- a list decides every image of it -/
theorem liF_push {n m : Nat} {φ ψ f g q : Nat → Nat} (ok : GOK n m) (hφ : ∀ x, x < n * m → φ x < n * m) (hψ : ∀ x, x < n * m → ψ x < n * m) (hq : ∀ x, x < n * m → q x < n * m) (hh : ∀ x y, x < n * m → y < n * m → q (gA n m x y) = gA n m (q x) (q y)) (hc : cF6 f = cF6 g) (h : ∀ i, i < cF6 f → (liF n m φ f 6).2 i = (liF n m ψ g 6).2 i) : ∀ i, i < cF6 f → (liF n m (fun x => q (φ x)) f 6).2 i = (liF n m (fun x => q (ψ x)) g 6).2 i := by
  have n1 : ∀ φ, (liF n m φ f 6).1 = cF6 f := fun φ => liF_n n m φ f 6
  have n2 : ∀ φ, (liF n m φ g 6).1 = cF6 f := fun φ => (liF_n n m φ g 6).trans hc.symm
  have key : ∀ {θ : Nat → Nat} (k : Nat → Nat), (∀ x, x < n * m → θ x < n * m) → ∀ P : Nat → Bool, fb_ct (fun j => decide (k j ≠ 0) && P (nfS n m (imS (fun x => q (θ x)) (k j) (n * m)))) 6 = fb_ct (fun j => decide (k j ≠ 0) && (fun S => P (nfS n m (imS q S (n * m)))) (nfS n m (imS θ (k j) (n * m)))) 6 := fun k hθ P => fb_ct_cong (fun j _ => by
    show _ = (decide (k j ≠ 0) && P (nfS n m (imS q (nfS n m (imS _ (k j) (n * m))) (n * m))))
    rw [← nf_img ok hq hh (imS_lt hθ), imS_comp hθ])
  have s1 := liF_srt n m (fun x => q (φ x)) f 6
  have s2 := liF_srt n m (fun x => q (ψ x)) g 6
  rw [n1] at s1
  rw [n2] at s2
  refine srt.one s1 s2 (fun P => ?_)
  have c1 := liF_ct n m (fun x => q (φ x)) f P 6
  have c2 := liF_ct n m (fun x => q (ψ x)) g P 6
  have c3 := liF_ct n m φ f (fun S => P (nfS n m (imS q S (n * m)))) 6
  have c4 := liF_ct n m ψ g (fun S => P (nfS n m (imS q S (n * m)))) 6
  rw [n1] at c1 c3
  rw [n2] at c2 c4
  rw [c1, c2, key f hφ P, key g hψ P, ← c3, ← c4]
  exact fb_ct_cong (fun j hj => by rw [h j hj])
