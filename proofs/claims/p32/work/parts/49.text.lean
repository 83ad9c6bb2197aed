/-! ===== texts: reading, as both do it ===== -/
def dgT (T : Nat → Nat) (L a : Nat) : Prop := a < L ∧ 48 ≤ T a ∧ T a ≤ 57
noncomputable def nmR (T : Nat → Nat) (L m : Nat) : Nat → Nat → Nat → Nat → Nat × Nat × Nat
  | 0, a, v, d => (a, v, d)
  | f + 1, a, v, d => cif (d < m ∧ dgT T L a ∧ (d = 0 ∨ 0 < v)) (nmR T L m f (a + 1) (v * 10 + (T a - 48)) (d + 1)) (a, v, d)
noncomputable def nmA (T : Nat → Nat) (L m a : Nat) : Nat × Nat × Nat := nmR T L m 4 a 0 0
noncomputable def prs (T : Nat → Nat) (L : Nat) : List Nat → Nat → Nat → (Nat → Nat) → Nat × Nat × (Nat → Nat)
  | [], a, _, W => (1, a, W)
  | c :: cs, a, u, W =>
    if c = 35 then (if (nmA T L 3 a).2.2 = 0 then (0, (nmA T L 3 a).1, W) else prs T L cs (nmA T L 3 a).1 (u + 1) (fun j => if j = u then (nmA T L 3 a).2.1 else W j))
    else if c = 100 then (if (nmA T L 1 a).2.2 = 0 then (0, (nmA T L 1 a).1, W) else prs T L cs (nmA T L 1 a).1 (u + 1) (fun j => if j = u then (nmA T L 1 a).2.1 else W j))
    else cif (a < L ∧ T a = c) (prs T L cs (a + 1) u W) (0, a, W)
def cdsA (b : Nat) : List Nat := if b = 110 then [110, 35, 59] else if b = 99 then [99, 35, 59] else if b = 119 then [119, 35, 44, 100, 44, 35, 59] else if b = 112 then [112, 100, 44, 35, 59] else if b = 102 then [102, 100, 59] else []
def ltA (T : Nat → Nat) (L a : Nat) : Nat := if a < L then T a else 0
noncomputable def sdA (T : Nat → Nat) (L a : Nat) : Nat × Nat × (Nat → Nat) := if cdsA (ltA T L a) = [] then (0, a, fun _ => 0) else prs T L (cdsA (ltA T L a)) a 0 (fun _ => 0)
def T256 (T : Nat → Nat) : Prop := ∀ j, T j < 256
theorem nmR_le {T : Nat → Nat} {L m : Nat} (hT : T256 T) : ∀ (f a v d : Nat), a ≤ (nmR T L m f a v d).1 ∧ (a ≤ L → (nmR T L m f a v d).1 ≤ L) ∧ (nmR T L m f a v d).2.2 ≤ d + f ∧ ((nmR T L m f a v d).2.2 ≠ d → a < (nmR T L m f a v d).1) ∧ ((nmR T L m f a v d).2.2 = d → (nmR T L m f a v d).1 = a) ∧ d ≤ (nmR T L m f a v d).2.2 := by
  intro f
  induction f with
  | zero => intro a v d; exact ⟨Nat.le_refl _, fun h => h, Nat.le_refl _, fun h => absurd rfl h, fun _ => rfl, Nat.le_refl _⟩
  | succ f ih =>
    intro a v d
    have e : nmR T L m (f + 1) a v d = cif (d < m ∧ dgT T L a ∧ (d = 0 ∨ 0 < v)) (nmR T L m f (a + 1) (v * 10 + (T a - 48)) (d + 1)) (a, v, d) := rfl
    by_cases q : d < m ∧ dgT T L a ∧ (d = 0 ∨ 0 < v)
    · rw [e, cif_pos q]
      obtain ⟨i1, i2, i3, i4, i5, i6⟩ := ih (a + 1) (v * 10 + (T a - 48)) (d + 1)
      have := q.2.1.1
      exact ⟨by omega, fun _ => i2 (by omega), by omega, fun _ => by omega, fun z => by omega, by omega⟩
    · rw [e, cif_neg q]
      exact ⟨Nat.le_refl _, fun h => h, by show d ≤ d + (f + 1); omega, fun h => absurd rfl h, fun _ => rfl, Nat.le_refl _⟩
theorem nmR_v {T : Nat → Nat} {L m : Nat} : ∀ (f a v d : Nat), v < 10 ^ d → (nmR T L m f a v d).2.1 < 10 ^ (nmR T L m f a v d).2.2 := by
  intro f
  induction f with
  | zero => intro a v d h; exact h
  | succ f ih =>
    intro a v d h
    have e : nmR T L m (f + 1) a v d = cif (d < m ∧ dgT T L a ∧ (d = 0 ∨ 0 < v)) (nmR T L m f (a + 1) (v * 10 + (T a - 48)) (d + 1)) (a, v, d) := rfl
    by_cases q : d < m ∧ dgT T L a ∧ (d = 0 ∨ 0 < v)
    · rw [e, cif_pos q]
      refine ih _ _ _ ?_
      have h9 : T a - 48 ≤ 9 := by have := q.2.1.2.2; omega
      rw [Nat.pow_succ]
      omega
    · rw [e, cif_neg q]; exact h
theorem nmA_lt {T : Nat → Nat} {L m a : Nat} (hT : T256 T) : (nmA T L m a).2.1 < 10000 := by
  have h1 := nmR_v (T := T) (L := L) (m := m) 4 a 0 0 (by decide)
  have h2 := (nmR_le (L := L) (m := m) hT 4 a 0 0).2.2.1
  have h3 : 10 ^ (nmA T L m a).2.2 ≤ 10 ^ 4 := Nat.pow_le_pow_right (by decide) (by show (nmR T L m 4 a 0 0).2.2 ≤ 4; omega)
  have h1' : (nmA T L m a).2.1 < 10 ^ (nmA T L m a).2.2 := h1
  omega
/-! signs -/
def sgI (T : Nat → Nat) (L a : Nat) : Int32 := if a < L then nI (T a) else -1
def CTx (L : Nat) (T : Nat → Nat) (M : Mem) : Prop := M 8 4 = nI L ∧ ∀ j, j < L → (M 9 j) &&& (255 : Int32) = nI (T j)
def RTx (L : Nat) (T : Nat → Nat) (M : Mem) : Prop := M 80 26 = nI L ∧ ∀ j, j < L → M 92 j = nI (T j)
theorem k_sign {L a : Nat} {T : Nat → Nat} {M : Mem} (c : CTx L T M) (hL : L ≤ 64) (ha : a ≤ 64) (h2 : M 8 2 = nI a) : s6_signAhead 8 M = some (sgI T L a, M) := by
  unfold s6_signAhead sgI
  rw [h2, c.1, if_neg (nI_pos (by omega))]
  by_cases q : a < L
  · have hi : inB (nI a) (alen (link 8 0)) := vp_in_nI (N := 64) (by omega) (by decide)
    have e : M (link 8 0) (nI a).toNatClampNeg &&& (255 : Int32) = nI (T a) := by rw [nI_clamp (by omega)]; exact c.2 a q
    rw [ite_nge q (by omega), if_neg (show ¬ (64 : Int32) ≤ nI a from nI_ge (b := 64) (by omega) (by decide)), if_pos hi, e, if_pos q]
  · rw [ite_ge (by omega) (by omega), if_neg q]
theorem r_sign {L a : Nat} {T : Nat → Nat} {M : Mem} (c : RTx L T M) (hL : L ≤ 64) (ha : a ≤ 64) (h2 : M 80 27 = nI a) : s9_sign 80 M = some (sgI T L a, M) := by
  unfold s9_sign sgI
  rw [h2, c.1]
  by_cases q : a < L
  · have hi : inB (nI a) (alen (link 80 20)) := vp_in_nI (N := 64) (by omega) (by decide)
    have e : M (link 80 20) (nI a).toNatClampNeg = nI (T a) := by rw [nI_clamp (by omega)]; exact c.2 a q
    rw [ite_nge q (by omega), if_pos hi, e, if_pos q]
  · rw [ite_ge (by omega) (by omega), if_neg q]
theorem sg_dig {T : Nat → Nat} {L a : Nat} (hT : T256 T) : (48 ≤ sgI T L a ∧ sgI T L a ≤ 57) ↔ dgT T L a := by
  have := hT a
  unfold sgI dgT
  by_cases q : a < L
  · rw [if_pos q]
    have e1 : (48 : Int32) ≤ nI (T a) ↔ 48 ≤ T a := nI_leI (a := 48) (by decide) (by omega)
    have e2 : nI (T a) ≤ (57 : Int32) ↔ T a ≤ 57 := nI_leI (b := 57) (by omega) (by decide)
    rw [e1, e2]
    exact ⟨fun z => ⟨q, z.1, z.2⟩, fun z => ⟨z.2.1, z.2.2⟩⟩
  · rw [if_neg q]
    exact ⟨fun z => absurd z.1 (by decide), fun z => absurd z.1 q⟩
theorem sg_is {T : Nat → Nat} {L a c : Nat} (hT : T256 T) (hc : c < 256) : sgI T L a = nI c ↔ a < L ∧ T a = c := by
  have := hT a
  unfold sgI
  by_cases q : a < L
  · rw [if_pos q, nI_eq (by omega) (by omega)]
    exact ⟨fun z => ⟨q, z⟩, fun z => z.2⟩
  · rw [if_neg q]
    constructor
    · intro z
      exact absurd (show (-1 : Int32) < 0 by decide) (by rw [z]; exact nI_pos (by omega))
    · intro z; exact absurd z.1 q
theorem k_isDigit {x : Int32} {M : Mem} : s6_isDigit x M = some (cif (48 ≤ x ∧ x ≤ 57) 1 0, M) := by
  unfold s6_isDigit
  by_cases q : x < 48
  · rw [if_pos q, cif_neg (fun z => Int32.not_lt.mpr z.1 q)]
  · rw [if_neg q]
    by_cases z : 57 < x
    · rw [if_pos z, cif_neg (fun y => Int32.not_lt.mpr y.2 z)]
    · rw [if_neg z, cif_pos ⟨Int32.not_lt.mp q, Int32.not_lt.mp z⟩]
theorem r_isDigit {x : Int32} {M : Mem} : s9_isIn x (48 : Int32) (57 : Int32) M = some (cif (48 ≤ x ∧ x ≤ 57) 1 0, M) := by
  unfold s9_isIn
  by_cases q : x < 48
  · rw [if_pos q, cif_neg (fun z => Int32.not_lt.mpr z.1 q)]
  · rw [if_neg q]
    by_cases z : 57 < x
    · rw [if_pos z, cif_neg (fun y => Int32.not_lt.mpr y.2 z)]
    · rw [if_neg z, cif_pos ⟨Int32.not_lt.mp q, Int32.not_lt.mp z⟩]
/-! the program's text -/
/-- only the text's own numbers differ -/
def KTx (M M' : Mem) : Prop := (∀ q, q ≠ 8 → q ≠ 10 → M' q = M q) ∧ M' 8 4 = M 8 4
theorem KTx.rf {M : Mem} : KTx M M := ⟨fun _ _ _ => rfl, rfl⟩
theorem KTx.tr {M M' M'' : Mem} (h : KTx M M') (h' : KTx M' M'') : KTx M M'' := ⟨fun q a b => (h'.1 q a b).trans (h.1 q a b), h'.2.trans h.2⟩
theorem KTx.s8 {M : Mem} {k : Nat} {v : Int32} (h : k ≠ 4) : KTx M (mset M 8 k v) := ⟨fun q a _ => ms_ne a, ms_ne2 (Ne.symm h)⟩
theorem KTx.s10 {M : Mem} {k : Nat} {v : Int32} : KTx M (mset M 10 k v) := ⟨fun q _ b => ms_ne b, by rw [ms_ne (by decide)]⟩
theorem KTx.ct {L : Nat} {T : Nat → Nat} {M M' : Mem} (h : KTx M M') (c : CTx L T M) : CTx L T M' := ⟨by rw [h.2]; exact c.1, fun j hj => by rw [h.1 9 (by decide) (by decide)]; exact c.2 j hj⟩
theorem k_rd56 {n u : Nat} {v d : Nat} {M : Mem} (hu : M 8 3 = nI u) (hu3 : u < 3) (hd : d ≤ 4) : Sp (s6_readDigits_56 n 8 (nI v) (nI d) M) (fun r M' => r = (if d = 0 then 0 else 1) ∧ M' 8 3 = nI (u + 1) ∧ M' 10 u = nI v ∧ (∀ j, j ≠ u → M' 10 j = M 10 j) ∧ M' 8 2 = M 8 2 ∧ M' 8 5 = M 8 5 ∧ KTx M M') := by
  have hi : inB (nI u) (alen (link 8 1)) := vp_in_nI (N := 3) hu3 (by decide)
  have ha : ¬ Int32.ofNat (alen (link 8 1)) ≤ nI u := nI_ge (b := 3) hu3 (by decide)
  unfold s6_readDigits_56
  rw [hu]
  refine Sp.neg ha (Sp.pos hi (Sp.mlet (Sp.mlet ?_)))
  have e3 : mset M (link 8 1) (nI u).toNatClampNeg (nI v) 8 3 = nI u := by rw [ms_ne (by decide)]; exact hu
  rw [e3, nI_clamp (by omega), nI_1]
  have post : ∀ r, r = (if d = 0 then (0 : Int32) else 1) → Sp (some (r, mset (mset M (link 8 1) u (nI v)) 8 3 (nI (u + 1)))) (fun r M' => r = (if d = 0 then 0 else 1) ∧ M' 8 3 = nI (u + 1) ∧ M' 10 u = nI v ∧ (∀ j, j ≠ u → M' 10 j = M 10 j) ∧ M' 8 2 = M 8 2 ∧ M' 8 5 = M 8 5 ∧ KTx M M') := fun r hr => by
    refine Sp.ret ⟨hr, ms_eq, ?_, fun j hj => ?_, ?_, ?_, KTx.s10.tr (KTx.s8 (by decide))⟩
    · rw [ms_ne (by decide)]; exact ms_eq
    · rw [ms_ne (by decide)]; exact ms_ne2 hj
    · rw [ms_ne2 (by decide), ms_ne (by decide)]
    · rw [ms_ne2 (by decide), ms_ne (by decide)]
  unfold s6_readDigits_88
  by_cases q : d = 0
  · exact Sp.pos (show nI d ≤ 0 by rw [q]; decide) (post 0 (by rw [if_pos q]))
  · exact Sp.neg (nI_nle (by omega) (by omega)) (post 1 (by rw [if_neg q]))
theorem k_rd4 {n L m u : Nat} {T : Nat → Nat} (hT : T256 T) (hL : L ≤ 64) (hm : m ≤ 3) (hu3 : u < 3) : ∀ (f d a v : Nat) (M : Mem), d ≤ m → m < d + f → a ≤ 64 → CTx L T M → M 8 2 = nI a → M 8 3 = nI u → v < 10 ^ d → a ≤ L ∨ d = 0 → Sp (s6_readDigits_4 n 8 (nI m) f (nI v) (nI d) M) (fun r M' => r = (if (nmR T L m (4 - d) a v d).2.2 = 0 then 0 else 1) ∧ M' 8 2 = nI (nmR T L m (4 - d) a v d).1 ∧ M' 8 3 = nI (u + 1) ∧ M' 10 u = nI (nmR T L m (4 - d) a v d).2.1 ∧ (∀ j, j ≠ u → M' 10 j = M 10 j) ∧ M' 8 5 = M 8 5 ∧ KTx M M') := by
  intro f
  induction f with
  | zero => intro d a v M h1 h2; omega
  | succ f ih =>
    intro d a v M h1 h2 ha c e2 e3 hv hal
    have hd4 : 4 - d = (3 - d) + 1 := by omega
    have en : nmR T L m (4 - d) a v d = cif (d < m ∧ dgT T L a ∧ (d = 0 ∨ 0 < v)) (nmR T L m (3 - d) (a + 1) (v * 10 + (T a - 48)) (d + 1)) (a, v, d) := by rw [hd4]; rfl
    have hv4 : v < 1000 := Nat.lt_of_lt_of_le hv (Nat.pow_le_pow_right (n := 10) (by decide) (show d ≤ 3 by omega))
    have stop : ¬ (d < m ∧ dgT T L a ∧ (d = 0 ∨ 0 < v)) → Sp (s6_readDigits_56 n 8 (nI v) (nI d) M) (fun r M' => r = (if (nmR T L m (4 - d) a v d).2.2 = 0 then 0 else 1) ∧ M' 8 2 = nI (nmR T L m (4 - d) a v d).1 ∧ M' 8 3 = nI (u + 1) ∧ M' 10 u = nI (nmR T L m (4 - d) a v d).2.1 ∧ (∀ j, j ≠ u → M' 10 j = M 10 j) ∧ M' 8 5 = M 8 5 ∧ KTx M M') := fun q => by
      rw [en, cif_neg q]
      exact (k_rd56 e3 hu3 (by omega)).mono (fun r M' t => ⟨t.1, by rw [t.2.2.2.2.1]; exact e2, t.2.1, t.2.2.1, t.2.2.2.1, t.2.2.2.2.2.1, t.2.2.2.2.2.2⟩)
    have more : (d < m ∧ dgT T L a ∧ (d = 0 ∨ 0 < v)) → Sp (s6_readDigits_27 n (s6_readDigits_4 n 8 (nI m) f) 8 (nI m) (nI v) (nI d) M) (fun r M' => r = (if (nmR T L m (4 - d) a v d).2.2 = 0 then 0 else 1) ∧ M' 8 2 = nI (nmR T L m (4 - d) a v d).1 ∧ M' 8 3 = nI (u + 1) ∧ M' 10 u = nI (nmR T L m (4 - d) a v d).2.1 ∧ (∀ j, j ≠ u → M' 10 j = M 10 j) ∧ M' 8 5 = M 8 5 ∧ KTx M M') := fun q => by
      obtain ⟨g1, g2, g3⟩ := q.2.1
      have es : sgI T L a = nI (T a) := if_pos g1
      rw [en, cif_pos q]
      unfold s6_readDigits_27
      refine Sp_cbe (k_sign c hL ha e2) (Sp.ilet (Sp.ilet (Sp.mlet ?_)))
      have ev : ((nI v * (10 : Int32)) + sgI T L a) - (48 : Int32) = nI (v * 10 + (T a - 48)) := by
        rw [es, show (10 : Int32) = nI 10 from rfl, pk_mul, nI_add, show (48 : Int32) = nI 48 from rfl, sub_e (by omega)]
        congr 1; omega
      rw [ev, e2, nI_1, nI_1, show 3 - d = 4 - (d + 1) by omega]
      refine (ih (d + 1) (a + 1) _ _ (by omega) (by omega) (by omega) ((KTx.s8 (by decide)).ct c) ms_eq ?_ ?_ (Or.inl (by omega))).mono (fun r M' t => ⟨t.1, t.2.1, t.2.2.1, t.2.2.2.1, fun j hj => ?_, ?_, (KTx.s8 (by decide)).tr t.2.2.2.2.2.2⟩)
      · rw [ms_ne2 (by decide)]; exact e3
      · rw [Nat.pow_succ]; omega
      · rw [t.2.2.2.2.1 j hj, ms_ne (by decide)]
      · rw [t.2.2.2.2.2.1, ms_ne2 (by decide)]
    rw [s6_readDigits_4]
    by_cases q : m ≤ d
    · exact Sp.pos (nI_le q (by omega)) (stop (fun z => by omega))
    · refine Sp.neg (nI_ge (by omega) (by omega)) (Sp_cbe (k_sign c hL ha e2) (Sp_cbe k_isDigit ?_))
      by_cases z : dgT T L a
      · rw [cif_pos ((sg_dig hT).mpr z)]
        refine Sp.neg (by decide) ?_
        by_cases y : d = 0
        · exact Sp.pos (show nI d = 0 by rw [y]; rfl) (more ⟨by omega, z, Or.inl y⟩)
        · refine Sp.neg (fun t => y ((nI_is0 (by omega)).mp t)) ?_
          by_cases w : v = 0
          · exact Sp.pos (show nI v ≤ 0 by rw [w]; decide) (stop (fun t => by omega))
          · exact Sp.neg (nI_nle (by omega) (by omega)) (more ⟨by omega, z, Or.inr (by omega)⟩)
      · rw [cif_neg (fun t => z ((sg_dig hT).mp t))]
        exact Sp.pos rfl (stop (fun t => z t.2.1))
theorem k_readDigits {n L m u a : Nat} {T : Nat → Nat} {M : Mem} (hT : T256 T) (hL : L ≤ 64) (hm : m ≤ 3) (hu3 : u < 3) (ha : a ≤ 64) (hn : 60 < n) (c : CTx L T M) (e2 : M 8 2 = nI a) (e3 : M 8 3 = nI u) : Sp (s6_readDigits n 8 (nI m) M) (fun r M' => r = (if (nmA T L m a).2.2 = 0 then 0 else 1) ∧ M' 8 2 = nI (nmA T L m a).1 ∧ M' 8 3 = nI (u + 1) ∧ M' 10 u = nI (nmA T L m a).2.1 ∧ (∀ j, j ≠ u → M' 10 j = M 10 j) ∧ M' 8 5 = M 8 5 ∧ KTx M M') :=
  k_rd4 hT hL hm hu3 n 0 a 0 M (Nat.zero_le _) (by omega) ha c e2 e3 (by decide) (Or.inr rfl)
/-- a part of a statement -/
theorem k_part {n L u a x : Nat} {T : Nat → Nat} {M : Mem} {W : Nat → Nat} (cs : List Nat) (hT : T256 T) (hL : L ≤ 64) (hx : x < 256) (hu3 : u < 3 ∨ (x ≠ 35 ∧ x ≠ 100)) (ha : a ≤ 64) (hn : 60 < n) (c : CTx L T M) (e2 : M 8 2 = nI a) (e3 : M 8 3 = nI u) (hW : ∀ j, j < u → M 10 j = nI (W j)) : Sp (s6_readPart n 8 (nI x) M) (fun r M' => KTx M M' ∧ M' 8 5 = M 8 5 ∧ ((r = 0 ∧ (prs T L (x :: cs) a u W).1 = 0 ∧ M' 8 2 = nI (prs T L (x :: cs) a u W).2.1) ∨ (r = 1 ∧ ∃ a' u' W', prs T L (x :: cs) a u W = prs T L cs a' u' W' ∧ M' 8 2 = nI a' ∧ a' ≤ max a L ∧ a < a' ∧ u' = (if x = 35 ∨ x = 100 then u + 1 else u) ∧ M' 8 3 = nI u' ∧ ∀ j, j < u' → M' 10 j = nI (W' j)))) := by
  have e : prs T L (x :: cs) a u W = if x = 35 then (if (nmA T L 3 a).2.2 = 0 then (0, (nmA T L 3 a).1, W) else prs T L cs (nmA T L 3 a).1 (u + 1) (fun j => if j = u then (nmA T L 3 a).2.1 else W j)) else if x = 100 then (if (nmA T L 1 a).2.2 = 0 then (0, (nmA T L 1 a).1, W) else prs T L cs (nmA T L 1 a).1 (u + 1) (fun j => if j = u then (nmA T L 1 a).2.1 else W j)) else cif (a < L ∧ T a = x) (prs T L cs (a + 1) u W) (0, a, W) := rfl
  have digits : ∀ m, m ≤ 3 → 1 ≤ m → u < 3 → (x = 35 ∨ x = 100) → (prs T L (x :: cs) a u W = if (nmA T L m a).2.2 = 0 then (0, (nmA T L m a).1, W) else prs T L cs (nmA T L m a).1 (u + 1) (fun j => if j = u then (nmA T L m a).2.1 else W j)) → Sp (cb (s6_readDigits n 8 (nI m) M) (fun r7 M6 => if bz r7 then some (r7, M6) else none)) (fun r M' => KTx M M' ∧ M' 8 5 = M 8 5 ∧ ((r = 0 ∧ (prs T L (x :: cs) a u W).1 = 0 ∧ M' 8 2 = nI (prs T L (x :: cs) a u W).2.1) ∨ (r = 1 ∧ ∃ a' u' W', prs T L (x :: cs) a u W = prs T L cs a' u' W' ∧ M' 8 2 = nI a' ∧ a' ≤ max a L ∧ a < a' ∧ u' = (if x = 35 ∨ x = 100 then u + 1 else u) ∧ M' 8 3 = nI u' ∧ ∀ j, j < u' → M' 10 j = nI (W' j)))) := fun m hm hm1 hu hxx he => by
    refine Sp.cb (k_readDigits hT hL hm hu ha hn c e2 e3) (fun r M' t => ?_)
    obtain ⟨t1, t2, t3, t4, t5, t6, t7⟩ := t
    obtain ⟨n1, n2, n3, n4, n5, n6⟩ := nmR_le (L := L) (m := m) hT 4 a 0 0
    by_cases z : (nmA T L m a).2.2 = 0
    · rw [if_pos z] at t1
      rw [if_pos z] at he
      rw [t1]
      refine Sp.pos (Or.inl rfl) (Sp.ret ⟨t7, t6, Or.inl ⟨rfl, by rw [he], by rw [he]; exact t2⟩⟩)
    · rw [if_neg z] at t1
      rw [if_neg z] at he
      rw [t1]
      have hda : a < (nmA T L m a).1 := n4 z
      have hal : a < L := by
        have hz : (nmR T L m 4 a 0 0).2.2 ≠ 0 := z
        have e4 : nmR T L m 4 a 0 0 = cif (0 < m ∧ dgT T L a ∧ ((0 : Nat) = 0 ∨ 0 < (0 : Nat))) (nmR T L m 3 (a + 1) (0 * 10 + (T a - 48)) (0 + 1)) (a, 0, 0) := rfl
        by_cases y : 0 < m ∧ dgT T L a ∧ ((0 : Nat) = 0 ∨ 0 < (0 : Nat))
        · exact y.2.1.1
        · rw [e4, cif_neg y] at hz; exact absurd rfl hz
      refine Sp.pos (Or.inr rfl) (Sp.ret ⟨t7, t6, Or.inr ⟨rfl, _, u + 1, _, he, t2, ?_, hda, by rw [if_pos hxx], t3, fun j hj => ?_⟩⟩)
      · have := n2 (by omega)
        show (nmR T L m 4 a 0 0).1 ≤ max a L
        omega
      · show M' 10 j = nI (if j = u then (nmA T L m a).2.1 else W j)
        by_cases y : j = u
        · rw [y, if_pos rfl]; exact t4
        · rw [if_neg y, t5 j y]; exact hW j (by omega)
  unfold s6_readPart
  have d35 : nI x = 35 ↔ x = 35 := nI_eq (b := 35) (by omega) (by decide)
  have d100 : nI x = 100 ↔ x = 100 := nI_eq (b := 100) (by omega) (by decide)
  by_cases q : x = 35
  · refine Sp.pos (d35.mpr q) (digits 3 (by decide) (by decide) (hu3.resolve_right (fun z => z.1 q)) (Or.inl q) ?_)
    rw [e, if_pos q]
  · refine Sp.neg (fun z => q (d35.mp z)) ?_
    by_cases q2 : x = 100
    · refine Sp.pos (d100.mpr q2) (digits 1 (by decide) (by decide) (hu3.resolve_right (fun z => z.2 q2)) (Or.inr q2) ?_)
      rw [e, if_neg q, if_pos q2]
    · rw [if_neg q, if_neg q2] at e
      refine Sp.neg (fun z => q2 (d100.mp z)) (Sp_cbe (k_sign c hL ha e2) ?_)
      by_cases z : a < L ∧ T a = x
      · rw [cif_pos z] at e
        refine Sp.pos ((sg_is hT hx).mpr z) (Sp.mlet (Sp.ret ⟨KTx.s8 (by decide), ms_ne2 (by decide), Or.inr ⟨rfl, a + 1, u, W, e, ?_, by omega, by omega, by rw [if_neg (fun t => t.elim q q2)], ?_, fun j hj => ?_⟩⟩))
        · rw [ms_eq, e2, nI_1]
        · rw [ms_ne2 (by decide)]; exact e3
        · rw [ms_ne (by decide)]; exact hW j hj
      · rw [cif_neg z] at e
        refine Sp.neg (fun t => z ((sg_is hT hx).mp t)) (Sp.ret ⟨KTx.rf, rfl, Or.inl ⟨rfl, by rw [e], by rw [e]; exact e2⟩⟩)
/-- a statement's shape, sign by sign -/
def shLt (s : Nat) : List Nat := [[110, 35, 59], [99, 35, 59], [119, 35, 44, 100, 44, 35, 59], [112, 100, 44, 35, 59], [102, 100, 59], []].getD s []
theorem sh_len (s : Nat) (hs : s < 6) (M : Mem) : sS_length s M = some (nI (shLt s).length, M) := by
  have key : ∀ s, s < 6 → slenI s >>> ((0 : Int32) &&& 31) = nI (shLt s).length := by decide
  unfold sS_length sS_coder
  rw [if_neg (by decide), cb_some, key s hs]
theorem sh_char (s : Nat) (hs : s < 6) (M : Mem) : ∀ k, k < (shLt s).length → sS_charAt s (nI k) M = some (nI ((shLt s).getD k 0), M) := by
  have key : ∀ s, s < 6 → ∀ k, k < (shLt s).length → inB (nI k) (slen.getD s 0) ∧ ¬ nI k < 0 ∧ nI k < slenI s ∧ (((((sbyt.getD s []).getD (nI k).toNatClampNeg 0) &&& (255 : Int32)).toUInt32 % 65536).toInt32) = nI ((shLt s).getD k 0) ∧ narrow .char (.int (nI ((shLt s).getD k 0))) = .int (nI ((shLt s).getD k 0)) := by decide
  intro k hk
  obtain ⟨k1, k2, k3, k4, k5⟩ := key s hs k hk
  unfold sS_charAt sS_isLatin1 sS_lchar sS_chk sS_pchk
  rw [if_neg (by decide), if_pos rfl, cb_some, if_neg (by decide), if_neg k2, if_pos k3, cb_some, cb_some, if_pos k1, cb_some, k4, if_pos k5]
theorem k_rs15 {n L s : Nat} {T : Nat → Nat} (hT : T256 T) (hL : L ≤ 64) (hs : s < 6) (hn : 60 < n) (h256 : ∀ k, k < (shLt s).length → (shLt s).getD k 0 < 256) (h3 : ∀ k, k < (shLt s).length → ((shLt s).getD k 0 = 35 ∨ (shLt s).getD k 0 = 100) → (((shLt s).take k).filter (fun x => x == 35 || x == 100)).length < 3) : ∀ (f k a : Nat) (W : Nat → Nat) (M : Mem), k ≤ (shLt s).length → (shLt s).length < k + f → a ≤ 64 → CTx L T M → M 8 2 = nI a → M 8 3 = nI (((shLt s).take k).filter (fun x => x == 35 || x == 100)).length → (∀ j, j < (((shLt s).take k).filter (fun x => x == 35 || x == 100)).length → M 10 j = nI (W j)) → Sp (s6_readStatement_15 n 8 s f (nI k) M) (fun r M' => KTx M M' ∧ ((r = 0 ∧ ((prs T L ((shLt s).drop k) a (((shLt s).take k).filter (fun x => x == 35 || x == 100)).length W).1 = 0 ∧ M' 8 2 = nI (prs T L ((shLt s).drop k) a (((shLt s).take k).filter (fun x => x == 35 || x == 100)).length W).2.1 ∨ (shLt s).length = 0 ∧ M' 8 2 = nI a)) ∨ (r = 1 ∧ 0 < (shLt s).length ∧ M' 8 5 = M 8 5 + 1 ∧ (prs T L ((shLt s).drop k) a (((shLt s).take k).filter (fun x => x == 35 || x == 100)).length W).1 = 1 ∧ M' 8 2 = nI (prs T L ((shLt s).drop k) a (((shLt s).take k).filter (fun x => x == 35 || x == 100)).length W).2.1 ∧ ∀ j, j < ((shLt s).filter (fun x => x == 35 || x == 100)).length → M' 10 j = nI ((prs T L ((shLt s).drop k) a (((shLt s).take k).filter (fun x => x == 35 || x == 100)).length W).2.2 j)))) := by
  intro f
  induction f with
  | zero => intro k a W M h1 h2; omega
  | succ f ih =>
    intro k a W M h1 h2 ha c e2 e3 hW
    have hlen : (shLt s).length ≤ 7 := by
      have : s = 0 ∨ s = 1 ∨ s = 2 ∨ s = 3 ∨ s = 4 ∨ s = 5 := by omega
      rcases this with rfl | rfl | rfl | rfl | rfl | rfl <;> decide
    rw [s6_readStatement_15]
    refine Sp_cbe (sh_len s hs M) ?_
    by_cases q : k < (shLt s).length
    · refine Sp.neg (nI_ge q (by omega)) (Sp_cbe (sh_char s hs M k q) ?_)
      have ed : (shLt s).drop k = (shLt s).getD k 0 :: (shLt s).drop (k + 1) := by
        rw [List.drop_eq_getElem_cons q]
        congr 1
        rw [List.getD_eq_getElem?_getD, List.getElem?_eq_getElem q]; rfl
      have et : (((shLt s).take (k + 1)).filter (fun x => x == 35 || x == 100)).length = (if (shLt s).getD k 0 = 35 ∨ (shLt s).getD k 0 = 100 then (((shLt s).take k).filter (fun x => x == 35 || x == 100)).length + 1 else (((shLt s).take k).filter (fun x => x == 35 || x == 100)).length) := by
        have e1 : (shLt s).getD k 0 = (shLt s)[k] := by rw [List.getD_eq_getElem?_getD, List.getElem?_eq_getElem q]; rfl
        rw [List.take_succ_eq_append_getElem q, List.filter_append, List.length_append, e1]
        by_cases y : (shLt s)[k] = 35 ∨ (shLt s)[k] = 100
        · rw [if_pos y]
          congr 1
          have : ((shLt s)[k] == 35 || (shLt s)[k] == 100) = true := by
            rcases y with y | y <;> rw [y] <;> rfl
          rw [List.filter_cons, if_pos this]; rfl
        · rw [if_neg y]
          have : ¬ ((shLt s)[k] == 35 || (shLt s)[k] == 100) = true := by
            intro z
            rw [Bool.or_eq_true, beq_iff_eq, beq_iff_eq] at z
            exact y z
          rw [List.filter_cons, if_neg this]; rfl
      have hu3 : (((shLt s).take k).filter (fun x => x == 35 || x == 100)).length < 3 ∨ ((shLt s).getD k 0 ≠ 35 ∧ (shLt s).getD k 0 ≠ 100) := by
        by_cases y : (shLt s).getD k 0 = 35 ∨ (shLt s).getD k 0 = 100
        · exact Or.inl (h3 k q y)
        · exact Or.inr ⟨fun z => y (Or.inl z), fun z => y (Or.inr z)⟩
      refine Sp.cb (k_part ((shLt s).drop (k + 1)) hT hL (h256 k q) hu3 ha hn c e2 e3 hW) (fun r M1 t => ?_)
      obtain ⟨t1, t5, t2⟩ := t
      rw [ed]
      rcases t2 with ⟨rfl, b1, b2⟩ | ⟨rfl, a', u', W', b1, b2, b3, b3', b4, b5, b6⟩
      · exact Sp.pos rfl (Sp.ret ⟨t1, Or.inl ⟨rfl, Or.inl ⟨b1, b2⟩⟩⟩)
      · refine Sp.neg (by decide) (Sp.ilet ?_)
        rw [nI_1, b1]
        rw [← et] at b4
        rw [b4] at b5 b6 ⊢
        refine (ih (k + 1) a' W' M1 (by omega) (by omega) (by omega) (t1.ct c) b2 b5 b6).mono (fun r M2 w => ⟨t1.tr w.1, ?_⟩)
        rcases w.2 with w2 | w2
        · refine Or.inl ⟨w2.1, ?_⟩
          rcases w2.2 with w3 | w3
          · exact Or.inl w3
          · omega
        · exact Or.inr ⟨w2.1, w2.2.1, by rw [w2.2.2.1, t5], w2.2.2.2⟩
    · have e : k = (shLt s).length := by omega
      have ed : (shLt s).drop k = [] := by rw [e]; exact List.drop_length
      have et : (shLt s).take k = shLt s := by rw [e]; exact List.take_length
      rw [ed]
      refine Sp.pos (nI_le (by omega) (by omega)) (Sp.mlet ?_)
      have ee : sS_isEmpty s (mset M 8 5 ((M 8 5) + (1 : Int32))) = some (if (shLt s).length = 0 then 1 else 0, mset M 8 5 ((M 8 5) + (1 : Int32))) := by
        have : s = 0 ∨ s = 1 ∨ s = 2 ∨ s = 3 ∨ s = 4 ∨ s = 5 := by omega
        rcases this with rfl | rfl | rfl | rfl | rfl | rfl <;> rfl
      refine Sp_cbe ee ?_
      by_cases y : (shLt s).length = 0
      · refine Sp.neg (by rw [if_pos y]; decide) (Sp.ret ⟨KTx.s8 (by decide), Or.inl ⟨rfl, Or.inr ⟨y, ?_⟩⟩⟩)
        rw [ms_ne2 (by decide)]; exact e2
      · refine Sp.pos (by rw [if_neg y]) (Sp.ret ⟨KTx.s8 (by decide), Or.inr ⟨rfl, by omega, ms_eq, rfl, ?_, fun j hj => ?_⟩⟩)
        · rw [ms_ne2 (by decide)]; exact e2
        · rw [ms_ne (by decide)]
          rw [et] at hW
          exact hW j hj
