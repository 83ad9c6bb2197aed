/-! ===== the program: a party becomes another; what comes ===== -/
theorem PO.dj {a b i j : Nat} (ha : PO a) (hb : PO b) (hne : a ≠ b) (hi : i < 23) (hj : j < 23) : a + i ≠ b + j := by
  rcases ha with rfl | rfl | rfl <;> rcases hb with rfl | rfl | rfl <;> omega
theorem mr_eq {M : Mem} {o : Nat} {f : Nat → Int32} : mrow M o f o = f := if_pos rfl
theorem mr_ne {M : Mem} {o q : Nat} {f : Nat → Int32} (h : q ≠ o) : mrow M o f q = M q := if_neg h
theorem cp_in {f g : Nat → Int32} {n j : Nat} (h : j < n) : va_cpy f g 0 0 n j = f j := by
  rw [pk_cpy_in (Nat.zero_le _) (by omega)]; congr 1; omega
theorem bzA {f : Nat → Int32} (h : ∀ i, i < 60 → bz (f i)) : bzAll f 60 = true :=
  List.all_eq_true.mpr (fun i hi => decide_eq_true (h i (List.mem_range.mp hi)))
theorem bz01 {x : Nat} (h : x ≤ 1) : bz (nI x) := by
  have : x = 0 ∨ x = 1 := by omega
  rcases this with rfl | rfl
  · exact Or.inl rfl
  · exact Or.inr rfl
/-- the cells of another party -/
theorem CP.kf {a b : Nat} {P : PAy} {M M' : Mem} (ha : PO a) (hb : PO b) (hne : a ≠ b) (c : CP b P M) (f : KFo a M M') (h12 : P 10 1 ≤ 12) : CP b P M' :=
  c.same (fun q h1 h2 => f q (by rcases ha with rfl | rfl | rfl <;> rcases hb with rfl | rfl | rfl <;> omega)) h12
theorem k_bec4 {a b : Nat} {P : PAy} {M : Mem} (ha : PO a) (hb : PO b) (hne : a ≠ b) (c : CP b P M) (hV : VA P) : Sp (s4_become (a + 1) (b + 1) M) (fun _ M' => CPr a P M' ∧ KFo a M M') := by
  have d := fun i j hi hj => PO.dj (i := i) (j := j) hb ha (Ne.symm hne) hi hj
  obtain ⟨⟨a1, a2, a3, a4⟩, -⟩ := c
  unfold s4_become
  rw [lr2 ha, lr2 hb, lr3 ha, lr3 hb]
  have e1 : mset M (a + 1) 0 (M (b + 1) 0) (b + 1) 1 = M (b + 1) 1 := by rw [ms_ne (d 1 1 (by decide) (by decide))]
  refine Sp.mlet ?_
  rw [e1]
  refine Sp.mlet (Sp.mlet ?_)
  have e3 : ∀ (f : Nat → Int32), mrow (mset (mset M (a + 1) 0 (M (b + 1) 0)) (a + 1) 1 (M (b + 1) 1)) (a + 2) f (b + 3) = M (b + 3) := fun f => by
    rw [mr_ne (d 3 2 (by decide) (by decide)), ms_ne (d 3 1 (by decide) (by decide)), ms_ne (d 3 1 (by decide) (by decide))]
  have e2 : mset (mset M (a + 1) 0 (M (b + 1) 0)) (a + 1) 1 (M (b + 1) 1) (b + 2) = M (b + 2) := by
    rw [ms_ne (d 2 1 (by decide) (by decide)), ms_ne (d 2 1 (by decide) (by decide))]
  rw [e2, e3]
  refine Sp.pos (bzA (fun i hi => by rw [a4 i hi]; exact bz01 (hV.c1 i))) (Sp.mlet (Sp.ret ⟨⟨?_, ?_, fun p hp => ?_, fun p hp => ?_⟩, ?_⟩))
  · rw [mr_ne (by omega), mr_ne (by omega), ms_ne2 (by decide), ms_eq]; exact a1
  · rw [mr_ne (by omega), mr_ne (by omega), ms_eq]; exact a2
  · have hr := rkp hV hp
    rw [mr_ne (by omega), mr_eq, cp_in (by omega)]; exact a3 p hp
  · rw [mr_eq, cp_in hp]; exact a4 p hp
  · exact (((KFo.st (by omega) (by omega)).tr (KFo.st (by omega) (by omega))).tr (KFo.rw (by omega) (by omega))).tr (KFo.rw (by omega) (by omega))
theorem k_bec7 {a b w : Nat} {P : PAy} {M : Mem} (ha : PO a) (hb : PO b) (hne : a ≠ b) (c : CP b P M) (hV : VA P) (hw : w < P 10 1) : Sp (s7_become (a + 11 + w) (b + 11 + w) M) (fun _ M' => (∀ k, k < 9 → M' (a + 11 + w) k = nI (P (1 + k) w)) ∧ ∀ q, q ≠ a + 11 + w → M' q = M q) := by
  have hne2 : b + 11 + w ≠ a + 11 + w := by omega
  have e : ∀ k, k < 9 → M (b + 11 + w) k = nI (P (1 + k) w) := fun k hk => c.w hw k hk
  have b3 := (hV.w hw).2.2.1
  unfold s7_become
  simp only [mlet_e]
  have r : ∀ (X : Mem) (j : Nat) (v : Int32), mset X (a + 11 + w) j v (b + 11 + w) = X (b + 11 + w) := fun X j v => ms_ne hne2
  simp only [r]
  refine Sp.pos (by rw [e 2 (by decide)]; exact bz01 b3) (Sp.ret ⟨fun k hk => ?_, fun q hq => ?_⟩)
  · have hk9 : k = 0 ∨ k = 1 ∨ k = 2 ∨ k = 3 ∨ k = 4 ∨ k = 5 ∨ k = 6 ∨ k = 7 ∨ k = 8 := by omega
    rw [← e k hk]
    rcases hk9 with rfl | rfl | rfl | rfl | rfl | rfl | rfl | rfl | rfl
    · rw [ms_ne2 (by decide), ms_ne2 (by decide), ms_ne2 (by decide), ms_ne2 (by decide), ms_ne2 (by decide), ms_ne2 (by decide), ms_ne2 (by decide), ms_ne2 (by decide), ms_eq]
    · rw [ms_ne2 (by decide), ms_ne2 (by decide), ms_ne2 (by decide), ms_ne2 (by decide), ms_ne2 (by decide), ms_ne2 (by decide), ms_ne2 (by decide), ms_eq]
    · rw [ms_ne2 (by decide), ms_ne2 (by decide), ms_ne2 (by decide), ms_ne2 (by decide), ms_ne2 (by decide), ms_ne2 (by decide), ms_eq]
    · rw [ms_ne2 (by decide), ms_ne2 (by decide), ms_ne2 (by decide), ms_ne2 (by decide), ms_ne2 (by decide), ms_eq]
    · rw [ms_ne2 (by decide), ms_ne2 (by decide), ms_ne2 (by decide), ms_ne2 (by decide), ms_eq]
    · rw [ms_ne2 (by decide), ms_ne2 (by decide), ms_ne2 (by decide), ms_eq]
    · rw [ms_ne2 (by decide), ms_ne2 (by decide), ms_eq]
    · rw [ms_ne2 (by decide), ms_eq]
    · rw [ms_eq]
  · rw [ms_ne hq, ms_ne hq, ms_ne hq, ms_ne hq, ms_ne hq, ms_ne hq, ms_ne hq, ms_ne hq, ms_ne hq]
theorem k_bec67 {a b n : Nat} {P : PAy} {N M : Mem} (ha : PO a) (hb : PO b) (hne : a ≠ b) (c : CP b P N) (hV : VA P) (f : KFo a N M) (h1 : CPr a P M) (h2 : CPl a P M) (h3 : CPw a P M) (h5 : M a 5 = nI (P 10 1)) : Sp (s2_become_67 n a b M) (fun _ M' => CP a P M' ∧ KFo a N M') := by
  have h12 := hV.w12
  have d := fun i j hi hj => PO.dj (i := i) (j := j) hb ha (Ne.symm hne) hi hj
  have cM := c.kf ha hb hne f h12
  obtain ⟨-, -, -, ⟨d1, d2, d3, d4, d5⟩, e1⟩ := cM
  have d0 : b ≠ a := fun e => hne e.symm
  have d10 : b + 10 ≠ a := fun e => by have := d 10 0 (by decide) (by decide); omega
  have d100 : b ≠ a + 10 := fun e => by have := d 0 10 (by decide) (by decide); omega
  unfold s2_become_67
  rw [lo4 ha, lo4 hb]
  simp only [mlet_e]
  have r1 : ∀ (X : Mem) (g : Nat → Int32), mrow X (a + 10) g b = X b := fun X g => mr_ne d100
  have r2 : ∀ (X : Mem) (j : Nat) (v : Int32), mset X a j v b = X b := fun X j v => ms_ne d0
  simp only [r1, r2]
  refine Sp.pos (bzA (fun i hi => by rw [e1 i hi]; exact bz01 (tkn_le _))) (Sp.pos (by rw [d5]; exact bz01 hV.s.2.2.2.2) (Sp.ret ⟨⟨⟨?_, ?_, fun p hp => ?_, fun p hp => ?_⟩, ⟨?_, ?_, ?_⟩, fun w hw k hk => ?_, ⟨?_, ?_, ?_, ?_, ?_⟩, fun p hp => ?_⟩, ?_⟩))
  · rw [ms_ne (by omega), ms_ne (by omega), ms_ne (by omega), ms_ne (by omega), mr_ne (by omega)]; exact h1.1
  · rw [ms_ne (by omega), ms_ne (by omega), ms_ne (by omega), ms_ne (by omega), mr_ne (by omega)]; exact h1.2.1
  · rw [ms_ne (by omega), ms_ne (by omega), ms_ne (by omega), ms_ne (by omega), mr_ne (by omega)]; exact h1.2.2.1 p hp
  · rw [ms_ne (by omega), ms_ne (by omega), ms_ne (by omega), ms_ne (by omega), mr_ne (by omega)]; exact h1.2.2.2 p hp
  · rw [ms_ne (by omega), ms_ne (by omega), ms_ne (by omega), ms_ne (by omega), mr_ne (by omega)]; exact h2.1
  · rw [ms_ne (by omega), ms_ne (by omega), ms_ne (by omega), ms_ne (by omega), mr_ne (by omega)]; exact h2.2.1
  · rw [ms_ne (by omega), ms_ne (by omega), ms_ne (by omega), ms_ne (by omega), mr_ne (by omega)]; exact h2.2.2
  · rw [ms_ne (by omega), ms_ne (by omega), ms_ne (by omega), ms_ne (by omega), mr_ne (by omega)]; exact h3 w hw k hk
  · rw [ms_ne2 (by decide), ms_ne2 (by decide), ms_ne2 (by decide), ms_ne2 (by decide), mr_ne (by omega)]; exact h5
  · rw [ms_ne2 (by decide), ms_ne2 (by decide), ms_ne2 (by decide), ms_eq]; exact d2
  · rw [ms_ne2 (by decide), ms_ne2 (by decide), ms_eq]; exact d3
  · rw [ms_ne2 (by decide), ms_eq]; exact d4
  · rw [ms_eq]; exact d5
  · rw [ms_ne (by omega), ms_ne (by omega), ms_ne (by omega), ms_ne (by omega), mr_eq, cp_in hp]; exact e1 p hp
  · exact ((((f.tr (KFo.rw (by omega) (by omega))).tr (KFo.st (by omega) (by omega))).tr (KFo.st (by omega) (by omega))).tr (KFo.st (by omega) (by omega))).tr (KFo.st (by omega) (by omega))
theorem k_bec32 {a b n : Nat} {P : PAy} {N : Mem} (ha : PO a) (hb : PO b) (hne : a ≠ b) (c : CP b P N) (hV : VA P) : ∀ (g i : Nat) (M : Mem), i ≤ P 10 1 → P 10 1 < i + g → KFo a N M → CPr a P M → CPl a P M → M a 5 = nI (P 10 1) → (∀ w, w < i → ∀ k, k < 9 → M (a + 11 + w) k = nI (P (1 + k) w)) → Sp (s2_become_32 n a b g (nI i) M) (fun _ M' => CP a P M' ∧ KFo a N M') := by
  have h12 := hV.w12
  intro g
  induction g with
  | zero => intro i M h1 h2; omega
  | succ g ih =>
    intro i M h1 h2 f r1 r2 h5 hw
    rw [s2_become_32, h5]
    by_cases q : i < P 10 1
    · have cM := c.kf ha hb hne f h12
      have ia : inB (nI i) (alen (a + 9)) := by rw [al9 ha]; exact vp_in_nI (by omega) (by decide)
      have ib : inB (nI i) (alen (b + 9)) := by rw [al9 hb]; exact vp_in_nI (by omega) (by decide)
      refine Sp.neg (nI_ge q (by omega)) (Sp.neg (show ¬ (12 : Int32) ≤ nI i from nI_ge (b := 12) (by omega) (by decide)) ?_)
      rw [lo3 ha, lo3 hb]
      refine Sp.pos ia (Sp.pos ib ?_)
      rw [nI_clamp (by omega), lw9 ha (by omega), lw9 hb (by omega)]
      refine Sp.cb (k_bec7 ha hb hne cM hV q) (fun r M1 t => Sp.ilet ?_)
      rw [nI_1]
      obtain ⟨t1, t2⟩ := t
      refine ih (i + 1) M1 (by omega) (by omega) (f.tr (fun q' hq' => t2 q' (by omega))) ?_ ?_ ?_ (fun w hw' k hk => ?_)
      · exact ⟨by rw [t2 _ (by omega)]; exact r1.1, by rw [t2 _ (by omega)]; exact r1.2.1, fun p hp => by rw [t2 _ (by omega)]; exact r1.2.2.1 p hp, fun p hp => by rw [t2 _ (by omega)]; exact r1.2.2.2 p hp⟩
      · exact ⟨by rw [t2 _ (by omega)]; exact r2.1, by rw [t2 _ (by omega)]; exact r2.2.1, by rw [t2 _ (by omega)]; exact r2.2.2⟩
      · rw [t2 _ (by omega)]; exact h5
      · by_cases e : w = i
        · subst e; exact t1 k hk
        · rw [t2 _ (by omega)]; exact hw w (by omega) k hk
    · have e : i = P 10 1 := by omega
      subst e
      exact Sp.pos (nI_le (Nat.le_refl _) (by omega)) (k_bec67 ha hb hne c hV f r1 r2 (fun w hw' k hk => hw w hw' k hk) h5)
theorem k_become {a b n : Nat} {P : PAy} {M : Mem} (ha : PO a) (hb : PO b) (hne : a ≠ b) (c : CP b P M) (hV : VA P) (hn : 60 < n) : Sp (s2_become n a b M) (fun _ M' => CP a P M' ∧ KFo a M M') := by
  have h12 := hV.w12
  have d := fun i j hi hj => PO.dj (i := i) (j := j) hb ha (Ne.symm hne) hi hj
  have d04 : b ≠ a := fun e => hne e.symm
  unfold s2_become
  rw [lo0 ha, lo0 hb, lo1 ha, lo1 hb]
  refine Sp.cb (k_bec4 ha hb hne c hV) (fun r M1 g => ?_)
  obtain ⟨g1, f1⟩ := g
  have c1 := c.kf ha hb hne f1 h12
  have hs3 : Sp (s3_become (a + 4) (b + 4) M1) (fun _ M' => CPl a P M' ∧ ∀ q, q ≠ a + 4 → M' q = M1 q) := by
    have r : ∀ (X : Mem) (j : Nat) (v : Int32), mset X (a + 4) j v (b + 4) = X (b + 4) := fun X j v => ms_ne (d 4 4 (by decide) (by decide))
    unfold s3_become
    simp only [mlet_e, r]
    refine Sp.ret ⟨⟨?_, ?_, ?_⟩, fun q hq => ?_⟩
    · rw [ms_ne2 (by decide), ms_ne2 (by decide), ms_eq]; exact c1.2.1.1
    · rw [ms_ne2 (by decide), ms_eq]; exact c1.2.1.2.1
    · rw [ms_eq]; exact c1.2.1.2.2
    · rw [ms_ne hq, ms_ne hq, ms_ne hq]
  refine Sp.cb hs3 (fun r M2 g => Sp.mlet ?_)
  obtain ⟨g2, g3⟩ := g
  have f2 : KFo a M M2 := f1.tr (fun q hq => g3 q (by omega))
  have c2 := c.kf ha hb hne f2 h12
  rw [c2.wc]
  refine k_bec32 ha hb hne c hV n 0 _ (Nat.zero_le _) (by omega) (f2.tr (KFo.st (by omega) (by omega))) ?_ ?_ ms_eq (fun w hw => by omega)
  · exact ⟨by rw [ms_ne (by omega), g3 _ (by omega)]; exact g1.1, by rw [ms_ne (by omega), g3 _ (by omega)]; exact g1.2.1, fun p hp => by rw [ms_ne (by omega), g3 _ (by omega)]; exact g1.2.2.1 p hp, fun p hp => by rw [ms_ne (by omega), g3 _ (by omega)]; exact g1.2.2.2 p hp⟩
  · exact ⟨by rw [ms_ne (by omega)]; exact g2.1, by rw [ms_ne (by omega)]; exact g2.2.1, by rw [ms_ne (by omega)]; exact g2.2.2⟩
/-! what comes -/
theorem k_addChair {o n p : Nat} {P : PAy} {M : Mem} (h : PO o) (c : CP o P M) (hV : VA P) (hp : P 0 p = 0) (hpN : p < P 10 0) (hr : rk P 60 ≤ 10) (hn : 60 < n) : Sp (s2_addChair n o (nI p) M) (fun r M' => r = nI (rk (adc P p) 60) ∧ CP o (adc P p) M' ∧ KFo o M M') := by
  unfold s2_addChair
  rw [lo0 h]
  refine Sp.cb (k_put h c hV hp hpN hr hn) (fun r M1 g => Sp.mlet ?_)
  have c1 : CP o (adc P p) (mset M1 o 9 0) := g.1.so 9 8 (v := 0) (by omega)
  exact Sp.ret ⟨c1.cs, c1, g.2.tr (KFo.st (by omega) (by omega))⟩
theorem tk_adw {P : PAy} {p k f q : Nat} : tk (adw P p k f) q = if q = p then 1 else tk P q := by
  have e1 := (adw_s1 (P := P) (p := p) (k := k) (f := f)).1
  obtain ⟨n1, n2, n3, -⟩ := adw_new (P := P) (p := p) (k := k) (f := f)
  have t1 : ∀ Q : PAy, tk Q q = 1 ↔ ∃ v, v < Q 10 1 ∧ Q 3 v = 1 ∧ Q 1 v = q := fun Q => tkn_1 _
  have tle : ∀ Q : PAy, tk Q q ≤ 1 := fun Q => tkn_le _
  by_cases z : q = p
  · rw [if_pos z]
    exact (t1 _).mpr ⟨P 10 1, by rw [e1]; omega, n3, by rw [n1]; exact z.symm⟩
  · rw [if_neg z]
    have : tk (adw P p k f) q = 1 ↔ tk P q = 1 := by
      rw [t1, t1, e1]
      constructor
      · intro ⟨v, v1, v2, v3⟩
        by_cases e : v = P 10 1
        · subst e; rw [n1] at v3; exact absurd v3.symm z
        · rw [adw_old (by decide) e] at v2 v3; exact ⟨v, by omega, v2, v3⟩
      · intro ⟨v, v1, v2, v3⟩
        exact ⟨v, by omega, by rw [adw_old (by decide) (by omega)]; exact v2, by rw [adw_old (by decide) (by omega)]; exact v3⟩
    have a := tle (adw P p k f)
    have b := tle P
    omega
theorem k_addWalker {o n p k f : Nat} {P : PAy} {M : Mem} (h : PO o) (c : CP o P M) (hV : VA P) (hp : p < P 10 0) (hf : f < 100) (hw : P 10 1 < 12) (hn : 60 < n) : Sp (s2_addWalker n o (nI p) (nI k) (nI f) M) (fun r M' => r = nI (P 10 1) ∧ CP o (adw P p k f) M' ∧ KFo o M M') := by
  have h60 := hV.n60
  have ia : inB (nI (P 10 1)) (alen (o + 9)) := by rw [al9 h]; exact vp_in_nI hw (by decide)
  have hdv : nI f / (2 : Int32) = nI (f / 2) := pk_div (d := 2) (by omega) (by decide) (by decide)
  -- the new one's cells
  have arr : Sp (s7_arrive n (o + 11 + P 10 1) (nI p) (nI k) (nI f) M) (fun _ M' => (∀ j, j < 9 → M' (o + 11 + P 10 1) j = nI (adw P p k f (1 + j) (P 10 1))) ∧ ∀ q, q ≠ o + 11 + P 10 1 → M' q = M q) := by
    obtain ⟨n1, n2, n3, n4, n5, n6, n7, n8, n9⟩ := adw_new (P := P) (p := p) (k := k) (f := f)
    have tail : ∀ t, t = nI (slo f) → Sp (s7_arrive_38 n (o + 11 + P 10 1) t (o + 11 + P 10 1) (mset (mset (mset (mset (mset M (o + 11 + P 10 1) 0 (nI p)) (o + 11 + P 10 1) 1 0) (o + 11 + P 10 1) 2 1) (o + 11 + P 10 1) 3 (nI k)) (o + 11 + P 10 1) 4 (nI f))) (fun _ M' => (∀ j, j < 9 → M' (o + 11 + P 10 1) j = nI (adw P p k f (1 + j) (P 10 1))) ∧ ∀ q, q ≠ o + 11 + P 10 1 → M' q = M q) := fun t ht => by
      unfold s7_arrive_38
      refine Sp.mlet (Sp.mlet (Sp.mlet (Sp.mlet (Sp.ret ⟨fun j hj => ?_, fun q hq => ?_⟩))))
      · have hj9 : j = 0 ∨ j = 1 ∨ j = 2 ∨ j = 3 ∨ j = 4 ∨ j = 5 ∨ j = 6 ∨ j = 7 ∨ j = 8 := by omega
        rcases hj9 with rfl | rfl | rfl | rfl | rfl | rfl | rfl | rfl | rfl
        · rw [ms_ne2 (by decide), ms_ne2 (by decide), ms_ne2 (by decide), ms_ne2 (by decide), ms_ne2 (by decide), ms_ne2 (by decide), ms_ne2 (by decide), ms_ne2 (by decide), ms_eq]
          exact congrArg nI n1.symm
        · rw [ms_ne2 (by decide), ms_ne2 (by decide), ms_ne2 (by decide), ms_ne2 (by decide), ms_ne2 (by decide), ms_ne2 (by decide), ms_ne2 (by decide), ms_eq]
          exact congrArg nI n2.symm
        · rw [ms_ne2 (by decide), ms_ne2 (by decide), ms_ne2 (by decide), ms_ne2 (by decide), ms_ne2 (by decide), ms_ne2 (by decide), ms_eq]
          exact congrArg nI n3.symm
        · rw [ms_ne2 (by decide), ms_ne2 (by decide), ms_ne2 (by decide), ms_ne2 (by decide), ms_ne2 (by decide), ms_eq]
          exact congrArg nI n4.symm
        · rw [ms_ne2 (by decide), ms_ne2 (by decide), ms_ne2 (by decide), ms_ne2 (by decide), ms_eq]
          exact congrArg nI n5.symm
        · rw [ms_ne2 (by decide), ms_ne2 (by decide), ms_ne2 (by decide), ms_eq, ht]
          exact congrArg nI n6.symm
        · rw [ms_ne2 (by decide), ms_ne2 (by decide), ms_eq]
          exact congrArg nI n7.symm
        · rw [ms_ne2 (by decide), ms_eq]
          exact congrArg nI n8.symm
        · rw [ms_eq]
          exact congrArg nI n9.symm
      · rw [ms_ne hq, ms_ne hq, ms_ne hq, ms_ne hq, ms_ne hq, ms_ne hq, ms_ne hq, ms_ne hq, ms_ne hq]
    unfold s7_arrive
    refine Sp.mlet (Sp.mlet (Sp.mlet (Sp.mlet (Sp.mlet ?_))))
    rw [hdv]
    by_cases q : 2 ≤ f
    · exact Sp.pos (nI_le (a := 2) q (by omega)) (tail _ (by unfold slo; rw [if_neg (by omega)]))
    · exact Sp.neg (nI_ge (b := 2) (by omega) (by decide)) (tail _ (by unfold slo; rw [if_pos (by omega)]; rfl))
  unfold s2_addWalker
  refine Sp.ilet ?_
  rw [c.wc]
  refine Sp.neg (nI_pos (by omega)) (Sp.neg (show ¬ (12 : Int32) ≤ nI (P 10 1) from nI_ge (b := 12) hw (by decide)) ?_)
  rw [lo3 h]
  refine Sp.pos ia ?_
  rw [nI_clamp (by omega), lw9 h hw]
  refine Sp.cb arr (fun r M1 g => Sp_cbe (k_mark (v := 1) h (by omega) (by decide)) (Sp.mlet (Sp.mlet (Sp.ret ⟨rfl, ?_, ?_⟩))))
  · obtain ⟨g1, g2⟩ := g
    have e1 := (adw_s1 (P := P) (p := p) (k := k) (f := f)).1
    have e8 := (adw_s1 (P := P) (p := p) (k := k) (f := f)).2
    obtain ⟨⟨a1, a2, a3, a4⟩, ⟨b1, b2, b3⟩, c1, ⟨d1, d2, d3, d4, d5⟩, t1⟩ := c
    have far : ∀ q, q ≠ o → q ≠ o + 10 → q ≠ o + 11 + P 10 1 → mset (mset (mset M1 (o + 10) p (nI 1)) o 5 (nI (P 10 1) + (1 : Int32))) o 9 0 q = M q := fun q q1 q2 q3 => by
      rw [ms_ne q1, ms_ne q1, ms_ne q2, g2 q q3]
    have fo : ∀ j, j ≠ 5 → j ≠ 9 → mset (mset (mset M1 (o + 10) p (nI 1)) o 5 (nI (P 10 1) + (1 : Int32))) o 9 0 o j = M o j := fun j j1 j2 => by
      rw [ms_ne2 j2, ms_ne2 j1, ms_ne (by omega), g2 o (by omega)]
    have kr : ∀ q, rk (adw P p k f) q = rk P q := fun q => rk_ext (fun p _ => adw_0)
    refine ⟨⟨?_, ?_, fun q hq => ?_, fun q hq => ?_⟩, ⟨?_, ?_, ?_⟩, fun u hu j hj => ?_, ⟨?_, ?_, ?_, ?_, ?_⟩, fun q hq => ?_⟩
    · rw [far _ (by omega) (by omega) (by omega), adw_sc (by decide) (by decide)]; exact a1
    · rw [far _ (by omega) (by omega) (by omega), kr]; exact a2
    · rw [adw_0] at hq
      rw [far _ (by omega) (by omega) (by omega), kr]; exact a3 q hq
    · rw [far _ (by omega) (by omega) (by omega), adw_0]; exact a4 q hq
    · rw [far _ (by omega) (by omega) (by omega), adw_sc (by decide) (by decide)]; exact b1
    · rw [far _ (by omega) (by omega) (by omega), adw_sc (by decide) (by decide)]; exact b2
    · rw [far _ (by omega) (by omega) (by omega), adw_sc (by decide) (by decide)]; exact b3
    · rw [e1] at hu
      by_cases e : u = P 10 1
      · subst e
        rw [ms_ne (by omega), ms_ne (by omega), ms_ne (by omega)]; exact g1 j hj
      · rw [far _ (by omega) (by omega) (by omega), adw_old (by omega) e]; exact c1 u (by omega) j hj
    · rw [ms_ne2 (by decide), ms_eq, e1, nI_1]
    · rw [fo _ (by decide) (by decide), adw_sc (by decide) (by decide)]; exact d2
    · rw [fo _ (by decide) (by decide), adw_sc (by decide) (by decide)]; exact d3
    · rw [fo _ (by decide) (by decide), adw_sc (by decide) (by decide)]; exact d4
    · rw [ms_eq, e8]; rfl
    · rw [tk_adw, ms_ne (by omega), ms_ne (by omega)]
      by_cases z : q = p
      · subst z; rw [ms_eq, if_pos rfl]
      · rw [ms_ne2 z, if_neg z, g2 _ (by omega)]; exact t1 q hq
  · obtain ⟨g1, g2⟩ := g
    intro q hq
    rw [ms_ne (by omega), ms_ne (by omega), ms_ne (by omega), g2 q (by omega)]
