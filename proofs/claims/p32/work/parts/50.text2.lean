/-! ===== texts: a statement ===== -/
theorem prs_35 {T : Nat → Nat} {L a u : Nat} {cs : List Nat} {W : Nat → Nat} : prs T L (35 :: cs) a u W = if (nmA T L 3 a).2.2 = 0 then (0, (nmA T L 3 a).1, W) else prs T L cs (nmA T L 3 a).1 (u + 1) (fun j => if j = u then (nmA T L 3 a).2.1 else W j) := rfl
theorem prs_100 {T : Nat → Nat} {L a u : Nat} {cs : List Nat} {W : Nat → Nat} : prs T L (100 :: cs) a u W = if (nmA T L 1 a).2.2 = 0 then (0, (nmA T L 1 a).1, W) else prs T L cs (nmA T L 1 a).1 (u + 1) (fun j => if j = u then (nmA T L 1 a).2.1 else W j) := rfl
theorem prs_lit {T : Nat → Nat} {L a u c : Nat} {cs : List Nat} {W : Nat → Nat} (h1 : c ≠ 35) (h2 : c ≠ 100) : prs T L (c :: cs) a u W = cif (a < L ∧ T a = c) (prs T L cs (a + 1) u W) (0, a, W) := by
  show (if c = 35 then _ else if c = 100 then _ else _) = _
  rw [if_neg h1, if_neg h2]
theorem nmA_f {T : Nat → Nat} {L m a : Nat} (hT : T256 T) : a ≤ (nmA T L m a).1 ∧ (a ≤ L → (nmA T L m a).1 ≤ L) ∧ ((nmA T L m a).2.2 ≠ 0 → a < (nmA T L m a).1 ∧ (nmA T L m a).1 ≤ L) ∧ ((nmA T L m a).2.2 = 0 → (nmA T L m a).1 = a) := by
  obtain ⟨n1, n2, n3, n4, n5, n6⟩ := nmR_le (L := L) (m := m) hT 4 a 0 0
  refine ⟨n1, n2, fun z => ⟨n4 z, ?_⟩, n5⟩
  have hz : (nmR T L m 4 a 0 0).2.2 ≠ 0 := z
  have e4 : nmR T L m 4 a 0 0 = cif (0 < m ∧ dgT T L a ∧ ((0 : Nat) = 0 ∨ 0 < (0 : Nat))) (nmR T L m 3 (a + 1) (0 * 10 + (T a - 48)) (0 + 1)) (a, 0, 0) := rfl
  by_cases y : 0 < m ∧ dgT T L a ∧ ((0 : Nat) = 0 ∨ 0 < (0 : Nat))
  · exact n2 (Nat.le_of_lt y.2.1.1)
  · rw [e4, cif_neg y] at hz; exact absurd rfl hz
theorem prs_f {T : Nat → Nat} {L : Nat} (hT : T256 T) : ∀ (cs : List Nat) (a u : Nat) (W : Nat → Nat), a ≤ (prs T L cs a u W).2.1 ∧ (a ≤ L → (prs T L cs a u W).2.1 ≤ L) ∧ ((prs T L cs a u W).1 = 1 → a + cs.length ≤ (prs T L cs a u W).2.1 ∧ (cs ≠ [] → (prs T L cs a u W).2.1 ≤ L)) ∧ ((prs T L cs a u W).1 = 0 ∨ (prs T L cs a u W).1 = 1) ∧ (prs T L cs a u W).2.1 ≤ max a L := by
  intro cs
  induction cs with
  | nil => intro a u W; exact ⟨Nat.le_refl _, fun h => h, fun _ => ⟨Nat.le_refl _, fun h => absurd rfl h⟩, Or.inr rfl, by show a ≤ max a L; omega⟩
  | cons c cs ih =>
    intro a u W
    have dig : ∀ m, (prs T L (c :: cs) a u W = if (nmA T L m a).2.2 = 0 then (0, (nmA T L m a).1, W) else prs T L cs (nmA T L m a).1 (u + 1) (fun j => if j = u then (nmA T L m a).2.1 else W j)) → a ≤ (prs T L (c :: cs) a u W).2.1 ∧ (a ≤ L → (prs T L (c :: cs) a u W).2.1 ≤ L) ∧ ((prs T L (c :: cs) a u W).1 = 1 → a + (c :: cs).length ≤ (prs T L (c :: cs) a u W).2.1 ∧ (c :: cs ≠ [] → (prs T L (c :: cs) a u W).2.1 ≤ L)) ∧ ((prs T L (c :: cs) a u W).1 = 0 ∨ (prs T L (c :: cs) a u W).1 = 1) ∧ (prs T L (c :: cs) a u W).2.1 ≤ max a L := fun m he => by
      obtain ⟨n1, n2, n3, n4⟩ := nmA_f (L := L) (m := m) (a := a) hT
      by_cases z : (nmA T L m a).2.2 = 0
      · rw [he, if_pos z]
        have := n4 z
        exact ⟨n1, n2, fun h => absurd h (by show ¬ (0 : Nat) = 1; omega), Or.inl rfl, by show (nmA T L m a).1 ≤ max a L; omega⟩
      · rw [he, if_neg z]
        obtain ⟨i1, i2, i3, i4, i5⟩ := ih (nmA T L m a).1 (u + 1) (fun j => if j = u then (nmA T L m a).2.1 else W j)
        obtain ⟨j1, j2⟩ := n3 z
        have i2' := i2 j2
        refine ⟨by omega, fun _ => i2', fun h => ?_, i4, by omega⟩
        have := i3 h
        rw [List.length_cons]
        exact ⟨by omega, fun _ => i2'⟩
    by_cases q : c = 35
    · exact dig 3 (by rw [q]; exact prs_35)
    · by_cases q2 : c = 100
      · exact dig 1 (by rw [q2]; exact prs_100)
      · rw [prs_lit q q2]
        by_cases z : a < L ∧ T a = c
        · rw [cif_pos z]
          obtain ⟨i1, i2, i3, i4, i5⟩ := ih (a + 1) u W
          have i2' := i2 (by omega)
          refine ⟨by omega, fun _ => i2', fun h => ?_, i4, by omega⟩
          have := i3 h
          rw [List.length_cons]
          exact ⟨by omega, fun _ => i2'⟩
        · rw [cif_neg z]
          exact ⟨Nat.le_refl _, fun h => h, fun h => absurd h (by show ¬ (0 : Nat) = 1; omega), Or.inl rfl, by show a ≤ max a L; omega⟩
/-- a text's letters -/
def ltr (b : Nat) : Prop := b = 110 ∨ b = 99 ∨ b = 119 ∨ b = 112 ∨ b = 102
theorem cdsA_ne {b : Nat} : cdsA b ≠ [] ↔ ltr b := by
  unfold cdsA ltr
  by_cases h1 : b = 110
  · rw [if_pos h1]; exact ⟨fun _ => Or.inl h1, fun _ => by decide⟩
  rw [if_neg h1]
  by_cases h2 : b = 99
  · rw [if_pos h2]; exact ⟨fun _ => Or.inr (Or.inl h2), fun _ => by decide⟩
  rw [if_neg h2]
  by_cases h3 : b = 119
  · rw [if_pos h3]; exact ⟨fun _ => Or.inr (Or.inr (Or.inl h3)), fun _ => by decide⟩
  rw [if_neg h3]
  by_cases h4 : b = 112
  · rw [if_pos h4]; exact ⟨fun _ => Or.inr (Or.inr (Or.inr (Or.inl h4))), fun _ => by decide⟩
  rw [if_neg h4]
  by_cases h5 : b = 102
  · rw [if_pos h5]; exact ⟨fun _ => Or.inr (Or.inr (Or.inr (Or.inr h5))), fun _ => by decide⟩
  rw [if_neg h5]
  exact ⟨fun h => absurd rfl h, fun h => by rcases h with h | h | h | h | h <;> contradiction⟩
theorem cdsA_3 {b : Nat} (h : ltr b) : 3 ≤ (cdsA b).length := by
  rcases h with rfl | rfl | rfl | rfl | rfl <;> decide
theorem sdA_f {T : Nat → Nat} {L a : Nat} (hT : T256 T) : a ≤ (sdA T L a).2.1 ∧ (sdA T L a).2.1 ≤ max a L ∧ ((sdA T L a).1 = 1 → a + 3 ≤ (sdA T L a).2.1 ∧ (sdA T L a).2.1 ≤ L ∧ ltr (ltA T L a)) ∧ ((sdA T L a).1 = 0 ∨ (sdA T L a).1 = 1) := by
  unfold sdA
  by_cases q : cdsA (ltA T L a) = []
  · rw [if_pos q]
    exact ⟨Nat.le_refl _, by show a ≤ max a L; omega, fun h => absurd h (by show ¬ (0 : Nat) = 1; omega), Or.inl rfl⟩
  · rw [if_neg q]
    have hl := cdsA_ne.mp q
    have h3 := cdsA_3 hl
    obtain ⟨i1, i2, i3, i4, i5⟩ := prs_f (L := L) hT (cdsA (ltA T L a)) a 0 (fun _ => 0)
    exact ⟨i1, i5, fun h => ⟨by have := (i3 h).1; omega, (i3 h).2 q, hl⟩, i4⟩
/-! the program reads a statement -/
theorem shp_e {T : Nat → Nat} {L a : Nat} (hT : T256 T) : shp (sgI T L a) < 6 ∧ shLt (shp (sgI T L a)) = cdsA (ltA T L a) := by
  have key : ∀ b, b < 256 → shp (nI b) < 6 ∧ shLt (shp (nI b)) = cdsA b := by decide +kernel
  unfold sgI ltA
  by_cases q : a < L
  · rw [if_pos q, if_pos q]; exact key _ (hT a)
  · rw [if_neg q, if_neg q]; exact ⟨by decide, by decide⟩
def nvc (b : Nat) : Nat := ((cdsA b).filter (fun x => x == 35 || x == 100)).length
theorem k_readSt {n L a : Nat} {T : Nat → Nat} {M : Mem} (hT : T256 T) (hL : L ≤ 64) (ha : a ≤ 64) (hn : 60 < n) (c : CTx L T M) (e2 : M 8 2 = nI a) : Sp (s6_readStatement n 8 M) (fun r M' => KTx M M' ∧ M' 8 2 = nI (sdA T L a).2.1 ∧ ((r = 0 ∧ (sdA T L a).1 = 0) ∨ (r = 1 ∧ (sdA T L a).1 = 1 ∧ M' 8 5 = M 8 5 + 1 ∧ ∀ j, j < nvc (ltA T L a) → M' 10 j = nI ((sdA T L a).2.2 j)))) := by
  obtain ⟨s6, se⟩ := shp_e (L := L) (a := a) hT
  have k256 : ∀ s, s < 6 → ∀ k, k < (shLt s).length → (shLt s).getD k 0 < 256 := by decide
  have k3 : ∀ s, s < 6 → ∀ k, k < (shLt s).length → ((shLt s).getD k 0 = 35 ∨ (shLt s).getD k 0 = 100) → (((shLt s).take k).filter (fun x => x == 35 || x == 100)).length < 3 := by decide
  unfold s6_readStatement
  refine Sp_cbe (k_sign c hL ha e2) (Sp.mlet ?_)
  refine (k_rs15 (s := shp (sgI T L a)) hT hL s6 hn (k256 _ s6) (k3 _ s6) n 0 a (fun _ => 0) _ (Nat.zero_le _) ?_ ha ((KTx.s8 (by decide)).ct c) ?_ ?_ (fun j hj => ?_)).mono (fun r M' t => ?_)
  · have k7 : ∀ s, s < 6 → (shLt s).length ≤ 7 := by decide
    have := k7 _ s6
    omega
  · rw [ms_ne2 (by decide)]; exact e2
  · rw [ms_eq]; rfl
  · exact absurd hj (by rw [List.take_zero]; exact Nat.not_lt_zero _)
  · obtain ⟨t1, t2⟩ := t
    have f : KTx M M' := (KTx.s8 (by decide)).tr t1
    rw [se, List.drop_zero, List.take_zero] at t2
    have e5 : mset M 8 3 0 8 5 = M 8 5 := ms_ne2 (by decide)
    rw [e5] at t2
    have es : cdsA (ltA T L a) ≠ [] → sdA T L a = prs T L (cdsA (ltA T L a)) a 0 (fun _ => 0) := fun h => if_neg h
    rcases t2 with ⟨r0, t3⟩ | ⟨r1, t3, t4, t5, t6, t7⟩
    · by_cases q : cdsA (ltA T L a) = []
      · have e0 : sdA T L a = (0, a, fun _ => 0) := if_pos q
        rcases t3 with ⟨t4, t5⟩ | ⟨t4, t5⟩
        · rw [q] at t4
          exact absurd t4 (by show ¬ (1 : Nat) = 0; omega)
        · refine ⟨f, by rw [e0]; exact t5, Or.inl ⟨r0, by rw [e0]⟩⟩
      · rcases t3 with ⟨t4, t5⟩ | ⟨t4, t5⟩
        · exact ⟨f, by rw [es q]; exact t5, Or.inl ⟨r0, by rw [es q]; exact t4⟩⟩
        · exact absurd (List.length_eq_zero_iff.mp t4) q
    · have q : cdsA (ltA T L a) ≠ [] := fun z => by rw [z] at t3; exact absurd t3 (by decide)
      refine ⟨f, by rw [es q]; exact t6, Or.inr ⟨r1, by rw [es q]; exact t5, t4, fun j hj => by rw [es q]; exact t7 j hj⟩⟩
/-! the reference reads a statement -/
def R27 (M M' : Mem) : Prop := (∀ q, q ≠ 80 → M' q = M q) ∧ ∀ j, j ≠ 27 → M' 80 j = M 80 j
theorem R27.rf {M : Mem} : R27 M M := ⟨fun _ _ => rfl, fun _ _ => rfl⟩
theorem R27.tr {M M' M'' : Mem} (h : R27 M M') (h' : R27 M' M'') : R27 M M'' := ⟨fun q a => (h'.1 q a).trans (h.1 q a), fun j a => (h'.2 j a).trans (h.2 j a)⟩
theorem R27.st {M : Mem} {v : Int32} : R27 M (mset M 80 27 v) := ⟨fun q a => ms_ne a, fun j a => ms_ne2 a⟩
theorem R27.rt {L : Nat} {T : Nat → Nat} {M M' : Mem} (h : R27 M M') (c : RTx L T M) : RTx L T M' := ⟨by rw [h.2 26 (by decide)]; exact c.1, fun j hj => by rw [h.1 92 (by decide)]; exact c.2 j hj⟩
theorem r_num36 {n L m : Nat} {T : Nat → Nat} (hT : T256 T) (hL : L ≤ 64) (hm : m ≤ 3) : ∀ (f d a v : Nat) (M : Mem), 1 ≤ d → d ≤ m → m < d + f → a ≤ 64 → RTx L T M → M 80 27 = nI a → v < 10 ^ d → Sp (s9_number_36 n 80 (nI m) f (nI v) (nI d) M) (fun r M' => r = nI (nmR T L m (4 - d) a v d).2.1 ∧ M' 80 27 = nI (nmR T L m (4 - d) a v d).1 ∧ R27 M M') := by
  intro f
  induction f with
  | zero => intro d a v M h0 h1 h2; omega
  | succ f ih =>
    intro d a v M h0 h1 h2 ha c e2 hv
    have hd4 : 4 - d = (3 - d) + 1 := by omega
    have en : nmR T L m (4 - d) a v d = cif (d < m ∧ dgT T L a ∧ (d = 0 ∨ 0 < v)) (nmR T L m (3 - d) (a + 1) (v * 10 + (T a - 48)) (d + 1)) (a, v, d) := by rw [hd4]; rfl
    have hv4 : v < 1000 := Nat.lt_of_lt_of_le hv (Nat.pow_le_pow_right (n := 10) (by decide) (show d ≤ 3 by omega))
    have stop : ¬ (d < m ∧ dgT T L a ∧ (d = 0 ∨ 0 < v)) → Sp (some (nI v, M)) (fun r M' => r = nI (nmR T L m (4 - d) a v d).2.1 ∧ M' 80 27 = nI (nmR T L m (4 - d) a v d).1 ∧ R27 M M') := fun q => by
      rw [en, cif_neg q]; exact Sp.ret ⟨rfl, e2, R27.rf⟩
    rw [s9_number_36]
    by_cases q : m ≤ d
    · exact Sp.pos (nI_le q (by omega)) (stop (fun z => by omega))
    · refine Sp.neg (nI_ge (by omega) (by omega)) ?_
      by_cases w : v = 0
      · exact Sp.pos (show nI v ≤ 0 by rw [w]; decide) (stop (fun t => by omega))
      · refine Sp.neg (nI_nle (by omega) (by omega)) (Sp_cbe (r_sign c hL ha e2) (Sp_cbe r_isDigit ?_))
        by_cases z : dgT T L a
        · obtain ⟨g1, g2, g3⟩ := id z
          have es : sgI T L a = nI (T a) := if_pos g1
          rw [cif_pos ((sg_dig hT).mpr z)]
          refine Sp.neg (by decide) (Sp_cbe (r_sign c hL ha e2) (Sp.ilet (Sp.mlet (Sp.ilet ?_))))
          have ev : (((10 : Int32) * nI v) + sgI T L a) - (48 : Int32) = nI (v * 10 + (T a - 48)) := by
            rw [es, show (10 : Int32) = nI 10 from rfl, pk_mul, nI_add, show (48 : Int32) = nI 48 from rfl, sub_e (by omega)]
            congr 1; omega
          rw [ev, e2, nI_1, nI_1, en, cif_pos ⟨by omega, z, Or.inr (by omega)⟩, show 3 - d = 4 - (d + 1) by omega]
          exact (ih (d + 1) (a + 1) _ _ (by omega) (by omega) (by omega) (by omega) (R27.st.rt c) ms_eq (by rw [Nat.pow_succ]; omega)).mono (fun r M' t => ⟨t.1, t.2.1, R27.st.tr t.2.2⟩)
        · rw [cif_neg (fun t => z ((sg_dig hT).mp t))]
          exact Sp.pos rfl (stop (fun t => z t.2.1))
theorem r_number {n L m a : Nat} {T : Nat → Nat} {M : Mem} (hT : T256 T) (hL : L ≤ 64) (hm1 : 1 ≤ m) (hm : m ≤ 3) (ha : a ≤ 64) (hn : 60 < n) (c : RTx L T M) (e2 : M 80 27 = nI a) : Sp (s9_number n 80 (nI m) M) (fun r M' => r = (if (nmA T L m a).2.2 = 0 then -1 else nI (nmA T L m a).2.1) ∧ M' 80 27 = nI (nmA T L m a).1 ∧ R27 M M') := by
  have e4 : nmA T L m a = cif (0 < m ∧ dgT T L a ∧ ((0 : Nat) = 0 ∨ 0 < (0 : Nat))) (nmR T L m 3 (a + 1) (0 * 10 + (T a - 48)) (0 + 1)) (a, 0, 0) := rfl
  unfold s9_number
  refine Sp_cbe (r_sign c hL ha e2) (Sp_cbe r_isDigit ?_)
  by_cases z : dgT T L a
  · obtain ⟨g1, g2, g3⟩ := id z
    have es : sgI T L a = nI (T a) := if_pos g1
    rw [cif_pos ((sg_dig hT).mpr z)]
    refine Sp.neg (by decide) (Sp_cbe (r_sign c hL ha e2) (Sp.ilet (Sp.mlet ?_)))
    have ev : sgI T L a - (48 : Int32) = nI (T a - 48) := by
      rw [es, show (48 : Int32) = nI 48 from rfl, sub_e g2]
    rw [ev, e2, nI_1, e4, cif_pos ⟨by omega, z, Or.inl rfl⟩, show 0 * 10 + (T a - 48) = T a - 48 by omega]
    have hd := (nmR_le (L := L) (m := m) hT 3 (a + 1) (T a - 48) (0 + 1)).2.2.2.2.2
    rw [if_neg (by omega)]
    exact (r_num36 hT hL hm n 1 (a + 1) (T a - 48) _ (by decide) hm1 (by omega) (by omega) (R27.st.rt c) ms_eq (by omega)).mono (fun r M' t => ⟨t.1, t.2.1, R27.st.tr t.2.2⟩)
  · rw [cif_neg (fun t => z ((sg_dig hT).mp t)), e4, cif_neg (fun t => z t.2.1)]
    exact Sp.pos rfl (Sp.ret ⟨rfl, e2, R27.rf⟩)
theorem r_takes {L a x : Nat} {T : Nat → Nat} {M : Mem} (hT : T256 T) (hL : L ≤ 64) (hx : x < 256) (ha : a ≤ 64) (c : RTx L T M) (e2 : M 80 27 = nI a) : Sp (s9_takes 80 (nI x) M) (fun r M' => R27 M M' ∧ ((r = 1 ∧ (a < L ∧ T a = x) ∧ M' 80 27 = nI (a + 1)) ∨ (r = 0 ∧ ¬ (a < L ∧ T a = x) ∧ M' 80 27 = nI a))) := by
  unfold s9_takes
  refine Sp_cbe (r_sign c hL ha e2) ?_
  by_cases z : a < L ∧ T a = x
  · refine Sp.pos ((sg_is hT hx).mpr z) (Sp.mlet (Sp.ret ⟨R27.st, Or.inl ⟨rfl, z, ?_⟩⟩))
    rw [ms_eq, e2, nI_1]
  · exact Sp.neg (fun t => z ((sg_is hT hx).mp t)) (Sp.ret ⟨R27.rf, Or.inr ⟨rfl, z, e2⟩⟩)
/-- only what a statement is kept in differs -/
def RK (k : Nat) (M M' : Mem) : Prop := (∀ q, q ≠ 80 → (q < 93 ∨ 97 < q) → M' q = M q) ∧ (∀ j, j ≠ 27 → M' 80 j = M 80 j) ∧ ∀ q, 93 ≤ q → q ≤ 97 → ∀ j, j ≠ k → M' q j = M q j
theorem RK.tr {k : Nat} {M M' M'' : Mem} (h : RK k M M') (h' : RK k M' M'') : RK k M M'' := ⟨fun q a b => (h'.1 q a b).trans (h.1 q a b), fun j a => (h'.2.1 j a).trans (h.2.1 j a), fun q a b j c => (h'.2.2 q a b j c).trans (h.2.2 q a b j c)⟩
theorem R27.rk {k : Nat} {M M' : Mem} (h : R27 M M') : RK k M M' := ⟨fun q a _ => h.1 q a, h.2, fun q a _ j _ => by rw [h.1 q (by omega)]⟩
theorem RK.st {k q : Nat} {M : Mem} {v : Int32} (h1 : 93 ≤ q) (h2 : q ≤ 97) : RK k M (mset M q k v) := ⟨fun r a b => ms_ne (by omega), fun j _ => by rw [ms_ne (by omega)], fun r a b j c => by
  by_cases e : r = q
  · subst e; exact ms_ne2 c
  · rw [ms_ne e]⟩
theorem RK.rt {L k : Nat} {T : Nat → Nat} {M M' : Mem} (h : RK k M M') (c : RTx L T M) : RTx L T M' := ⟨by rw [h.2.1 26 (by decide)]; exact c.1, fun j hj => by rw [h.1 92 (by decide) (by decide)]; exact c.2 j hj⟩
