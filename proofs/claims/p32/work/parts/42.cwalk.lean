/-! ===== the program: a chair comes, walking, a tenth ===== -/
theorem k_put25 {o n p : Nat} {P : PAy} {N : Mem} (h : PO o) (hV : VA P) (hp : P 0 p = 0) (hp60 : p < 60) (hr : rk P 60 ≤ 10) : ∀ (f i : Nat) (M : Mem), i ≤ rk P 60 → i < f → M (o + 1) 1 = nI (rk P 60) → (∀ q, P 0 q = 1 → i ≤ rk P q → p < q ∧ M (o + 2) (rk P q + 1) = nI q) → (∀ q, P 0 q = 1 → rk P q < i → M (o + 2) (rk P q) = nI q) → (∀ q, q ≠ o + 2 → M q = N q) → Sp (s4_putChair_25 n (o + 1) (nI p) f (nI i) M) (fun _ M' => M' (o + 1) 1 = nI (rk (pset P 0 p 1) 60) ∧ (∀ q, pset P 0 p 1 0 q = 1 → M' (o + 2) (rk (pset P 0 p 1) q) = nI q) ∧ (∀ k, k ≠ 1 → M' (o + 1) k = N (o + 1) k) ∧ M' (o + 3) p = 1 ∧ (∀ k, k ≠ p → M' (o + 3) k = N (o + 3) k) ∧ ∀ q, q ≠ o + 1 → q ≠ o + 2 → q ≠ o + 3 → M' q = N q) := by
  have hrk : ∀ q, rk (pset P 0 p 1) q = rk P q + (if p < q then 1 else 0) := fun q => by
    have := rk_set (P := P) (p := p) (v := 1) (by decide) q
    rw [hp, ite_self] at this
    omega
  have fin : ∀ (i : Nat) (M : Mem), i ≤ rk P 60 → M (o + 1) 1 = nI (rk P 60) → (∀ q, P 0 q = 1 → i ≤ rk P q → p < q ∧ M (o + 2) (rk P q + 1) = nI q) → (∀ q, P 0 q = 1 → rk P q < i → q < p ∧ M (o + 2) (rk P q) = nI q) → (∀ q, q ≠ o + 2 → M q = N q) → Sp (s4_putChair_61 n (o + 1) (nI p) (nI i) M) (fun _ M' => M' (o + 1) 1 = nI (rk (pset P 0 p 1) 60) ∧ (∀ q, pset P 0 p 1 0 q = 1 → M' (o + 2) (rk (pset P 0 p 1) q) = nI q) ∧ (∀ k, k ≠ 1 → M' (o + 1) k = N (o + 1) k) ∧ M' (o + 3) p = 1 ∧ (∀ k, k ≠ p → M' (o + 3) k = N (o + 3) k) ∧ ∀ q, q ≠ o + 1 → q ≠ o + 2 → q ≠ o + 3 → M' q = N q) := by
    intro i M h1 hc hhi hlo hfr
    have hip : rk P p = i := by
      rcases Nat.lt_trichotomy (rk P p) i with y | y | y
      · by_cases i0 : i = 0
        · omega
        · obtain ⟨r, r1, r2, r3⟩ := rk_surj (P := P) hV.c1 (c := i - 1) (n := 60) (by omega)
          have h3 := hlo r r2 (by omega)
          have h4 := rk_lt h3.1 r2
          omega
      · exact y
      · obtain ⟨r, r1, r2, r3⟩ := rk_surj (P := P) hV.c1 y
        have h3 := hhi r r2 (by omega)
        omega
    have ii : inB (nI i) (alen (o + 2)) := by rw [al2 h]; exact vp_in_nI (by omega) (by decide)
    have ip : inB (nI p) (alen (o + 3)) := by rw [al3 h]; exact vp_in_nI hp60 (by decide)
    unfold s4_putChair_61
    rw [lr2 h, lr3 h]
    refine Sp.pos ii (Sp.mlet (Sp.pos ip (Sp.mlet (Sp.mlet (Sp.ret ⟨?_, fun q hq => ?_, fun k hk => ?_, ?_, fun k hk => ?_, fun q q1 q2 q3 => ?_⟩)))))
    · rw [ms_eq, ms_ne (by omega), ms_ne (by omega), hc, nI_1, hrk, if_pos hp60]
    · rw [ms_ne (by omega), ms_ne (by omega), nI_clamp (by omega), hrk]
      by_cases e : q = p
      · subst e
        rw [if_neg (by omega), Nat.add_zero, hip]; exact ms_eq
      · rw [ps_j e] at hq
        by_cases z : rk P q < i
        · have := hlo q hq z
          rw [if_neg (by omega), Nat.add_zero, ms_ne2 (by omega)]; exact this.2
        · have := hhi q hq (by omega)
          rw [if_pos this.1, ms_ne2 (by omega)]; exact this.2
    · rw [ms_ne2 hk, ms_ne (by omega), ms_ne (by omega), hfr _ (by omega)]
    · rw [ms_ne (by omega), nI_clamp (by omega), nI_clamp (by omega), ms_eq]; rfl
    · rw [ms_ne (by omega), nI_clamp (by omega), nI_clamp (by omega), ms_ne2 hk, ms_ne (by omega), hfr _ (by omega)]
    · rw [ms_ne q1, ms_ne q3, ms_ne q2, hfr q q2]
  intro f
  induction f with
  | zero => intro i M h1 h2; omega
  | succ f ih =>
    intro i M h1 h2 hc hhi hlo hfr
    rw [s4_putChair_25]
    by_cases i0 : i = 0
    · refine Sp.pos (show nI i ≤ 0 by rw [i0]; decide) ?_
      exact fin i M h1 hc hhi (fun q q1 q2 => by omega) hfr
    · obtain ⟨r, r1, r2, r3⟩ := rk_surj (P := P) hV.c1 (c := i - 1) (n := 60) (by omega)
      have e1 : nI i - (1 : Int32) = nI (i - 1) := sub_e (b := 1) (by omega)
      have ii1 : inB (nI (i - 1)) (alen (o + 2)) := by rw [al2 h]; exact vp_in_nI (by omega) (by decide)
      have ii : inB (nI i) (alen (o + 2)) := by rw [al2 h]; exact vp_in_nI (by omega) (by decide)
      have er : M (o + 2) (nI (i - 1)).toNatClampNeg = nI r := by rw [nI_clamp (by omega), ← r3]; exact hlo r r2 (by omega)
      refine Sp.neg (nI_nle (by omega) (by omega)) ?_
      rw [e1, lr2 h]
      refine Sp.pos ii1 ?_
      rw [er]
      by_cases z : r ≤ p
      · refine Sp.pos (nI_le z (by omega)) ?_
        have hrp : r ≠ p := fun y => by subst y; omega
        exact fin i M h1 hc hhi (fun q q1 q2 => ⟨by
          have : rk P q ≤ rk P r := by omega
          by_cases y : rk P q = rk P r
          · have := rk_inj q1 r2 y; omega
          · have := (rk_lt_iff q1 r2).mp (by omega); omega, hlo q q1 q2⟩) hfr
      · refine Sp.neg (nI_ge (by omega) (by omega)) (Sp.pos ii1 (Sp.pos ii (Sp.mlet (Sp.ilet ?_))))
        have em : nI i + (-1) = nI (i - 1) := by
          have := pk_m1 (i - 1)
          rw [show i - 1 + 1 = i by omega] at this
          exact this
        rw [em, nI_clamp (by omega)]
        refine ih (i - 1) _ (by omega) (by omega) ?_ (fun q q1 q2 => ?_) (fun q q1 q2 => ?_) (fun q hq => ?_)
        · rw [ms_ne (by omega)]; exact hc
        · by_cases y : rk P q = i - 1
          · have e : q = r := rk_inj q1 r2 (by omega)
            refine ⟨by rw [e]; omega, ?_⟩
            rw [show rk P q + 1 = i by omega, ms_eq, e]
          · have := hhi q q1 (by omega)
            refine ⟨this.1, ?_⟩
            rw [ms_ne2 (by omega)]; exact this.2
        · rw [ms_ne2 (by omega)]; exact hlo q q1 (by omega)
        · rw [ms_ne hq]; exact hfr q hq
theorem k_put {o n p : Nat} {P : PAy} {M : Mem} (h : PO o) (c : CP o P M) (hV : VA P) (hp : P 0 p = 0) (hpN : p < P 10 0) (hr : rk P 60 ≤ 10) (hn : 60 < n) : Sp (s4_putChair n (o + 1) (nI p) M) (fun _ M' => CP o (pset P 0 p 1) M' ∧ KFo o M M') := by
  have h60 := hV.n60
  unfold s4_putChair
  rw [c.cs]
  refine Sp.neg (show ¬ (11 : Int32) ≤ nI (rk P 60) from nI_ge (b := 11) (by omega) (by decide)) (Sp.neg (nI_pos (by omega)) (Sp.pos (show nI p < (60 : Int32) from nI_lt (b := 60) (by omega) (by decide)) (Sp.ilet ?_)))
  refine (k_put25 (n := n) (N := M) h hV hp (by omega) hr n (rk P 60) M (Nat.le_refl _) (by omega) c.cs (fun q q1 q2 => ?_) (fun q q1 q2 => c.1.2.2.1 q q1) (fun _ _ => rfl)).mono (fun r M' z => ?_)
  · have := rk_lt (hV.c60 q1) q1; omega
  obtain ⟨z1, z2, z3, z4, z5, z6⟩ := z
  refine ⟨?_, fun q hq => z6 q (by omega) (by omega) (by omega)⟩
  obtain ⟨⟨a1, a2, a3, a4⟩, ⟨b1, b2, b3⟩, c1, ⟨d1, d2, d3, d4, d5⟩, e1⟩ := c
  have k : ∀ a b, a ≠ 0 → pset P 0 p 1 a b = P a b := fun a b ha => ps_i ha
  have h12 := hV.w12
  refine ⟨⟨?_, z1, z2, fun q hq => ?_⟩, ⟨?_, ?_, ?_⟩, fun w hw j hj => ?_, ⟨?_, ?_, ?_, ?_, ?_⟩, fun q hq => ?_⟩
  · rw [z3 0 (by decide), k _ _ (by decide)]; exact a1
  · by_cases e : q = p
    · subst e; rw [z4, ps_eq]; rfl
    · rw [z5 q e, ps_j e]; exact a4 q hq
  · rw [z6 _ (by omega) (by omega) (by omega), k _ _ (by decide)]; exact b1
  · rw [z6 _ (by omega) (by omega) (by omega), k _ _ (by decide)]; exact b2
  · rw [z6 _ (by omega) (by omega) (by omega), k _ _ (by decide)]; exact b3
  · rw [k _ _ (by decide)] at hw
    rw [z6 _ (by omega) (by omega) (by omega), k _ _ (by omega)]; exact c1 w hw j hj
  · rw [z6 _ (by omega) (by omega) (by omega), k _ _ (by decide)]; exact d1
  · rw [z6 _ (by omega) (by omega) (by omega), k _ _ (by decide)]; exact d2
  · rw [z6 _ (by omega) (by omega) (by omega), k _ _ (by decide)]; exact d3
  · rw [z6 _ (by omega) (by omega) (by omega), k _ _ (by decide)]; exact d4
  · rw [z6 _ (by omega) (by omega) (by omega), k _ _ (by decide)]; exact d5
  · have : tk (pset P 0 p 1) q = tk P q := by
      unfold tk
      rw [k _ _ (by decide)]
      exact tkn_ext (fun v => k _ _ (by decide)) (fun v => k _ _ (by decide)) _
    rw [z6 _ (by omega) (by omega) (by omega), this]; exact e1 q hq
theorem k_mark {o p v : Nat} {M : Mem} (h : PO o) (hp : p < 60) (hv : v ≤ 1) : s2_mark o (nI p) (nI v) M = some (0, mset M (o + 10) p (nI v)) := by
  have hi : inB (nI p) (alen (o + 10)) := by rw [al10 h]; exact vp_in_nI hp (by decide)
  have e : vp_nar .boolean (nI v) = nI v := by
    have : v = 0 ∨ v = 1 := by omega
    rcases this with rfl | rfl <;> rfl
  unfold s2_mark
  rw [if_neg (nI_pos (by omega)), if_neg (show ¬ (60 : Int32) ≤ nI p from nI_ge (b := 60) hp (by decide)), lo4 h, if_pos hi, mlet_e, nI_clamp (by omega), e]
/-- one's cell put -/
theorem CP.sw {o w k v : Nat} {P : PAy} {M : Mem} (c : CP o P M) (hV : P 10 1 ≤ 12) (hw : w < P 10 1) (hk : k < 9) (h0 : k ≠ 0) (h2 : k ≠ 2) : CP o (pset P (1 + k) w v) (mset M (o + 11 + w) k (nI v)) := by
  obtain ⟨⟨a1, a2, a3, a4⟩, ⟨b1, b2, b3⟩, c1, ⟨d1, d2, d3, d4, d5⟩, e1⟩ := c
  have kk : ∀ b, pset P (1 + k) w v 10 b = P 10 b := fun b => ps_i (by omega)
  have k0 : ∀ b, pset P (1 + k) w v 0 b = P 0 b := fun b => ps_i (by omega)
  have kr : ∀ q, rk (pset P (1 + k) w v) q = rk P q := fun q => rk_ext (fun p _ => k0 p)
  refine ⟨⟨?_, ?_, fun q hq => ?_, fun q hq => ?_⟩, ⟨?_, ?_, ?_⟩, fun u hu j hj => ?_, ⟨?_, ?_, ?_, ?_, ?_⟩, fun q hq => ?_⟩
  · rw [ms_ne (by omega), kk]; exact a1
  · rw [ms_ne (by omega), kr]; exact a2
  · rw [k0] at hq
    rw [ms_ne (by omega), kr]; exact a3 q hq
  · rw [ms_ne (by omega), k0]; exact a4 q hq
  · rw [ms_ne (by omega), kk]; exact b1
  · rw [ms_ne (by omega), kk]; exact b2
  · rw [ms_ne (by omega), kk]; exact b3
  · rw [kk] at hu
    by_cases e : u = w
    · subst e
      by_cases e2 : j = k
      · subst e2; rw [ms_eq, ps_eq]
      · rw [ms_ne2 e2, ps_i (by omega)]; exact c1 u hu j hj
    · rw [ms_ne (by omega), ps_j e]; exact c1 u hu j hj
  · rw [ms_ne (by omega), kk]; exact d1
  · rw [ms_ne (by omega), kk]; exact d2
  · rw [ms_ne (by omega), kk]; exact d3
  · rw [ms_ne (by omega), kk]; exact d4
  · rw [ms_ne (by omega), kk]; exact d5
  · have : tk (pset P (1 + k) w v) q = tk P q := by
      unfold tk
      rw [kk]
      exact tkn_ext (fun v => ps_i (by omega)) (fun v => ps_i (by omega)) _
    rw [ms_ne (by omega), this]; exact e1 q hq
/-- what one who stood alone at a place leaves -/
theorem tk_move {P : PAy} {w x q : Nat} (hV : VA P) (hw : w < P 10 1) (h3 : P 3 w = 1) (hx : tk P x ≠ 1) (hne : x ≠ P 1 w) : tk (pset P 1 w x) q = if q = P 1 w then 0 else if q = x then 1 else tk P q := by
  have e1 : pset P 1 w x 10 1 = P 10 1 := ps_i (by decide)
  have e3 : ∀ v, pset P 1 w x 3 v = P 3 v := fun v => ps_i (by decide)
  have hx0 : ∀ v, v < P 10 1 → P 3 v = 1 → P 1 v ≠ x := fun v a b c => hx ((tkn_1 _).mpr ⟨v, a, b, c⟩)
  have t1 : ∀ Q : PAy, tk Q q = 1 ↔ ∃ v, v < Q 10 1 ∧ Q 3 v = 1 ∧ Q 1 v = q := fun Q => tkn_1 _
  have tle : ∀ Q : PAy, tk Q q ≤ 1 := fun Q => tkn_le _
  by_cases z : q = P 1 w
  · rw [if_pos z]
    have : tk (pset P 1 w x) q ≠ 1 := fun y => by
      obtain ⟨v, v1, v2, v3⟩ := (t1 _).mp y
      rw [e1] at v1
      rw [e3] at v2
      by_cases e : v = w
      · subst e; rw [ps_eq] at v3; omega
      · rw [ps_j e] at v3
        exact e (hV.i v w v1 hw v2 h3 (by omega))
    have := tle (pset P 1 w x)
    omega
  · rw [if_neg z]
    by_cases z2 : q = x
    · rw [if_pos z2]
      exact (t1 _).mpr ⟨w, by rw [e1]; exact hw, by rw [e3]; exact h3, by rw [ps_eq]; exact z2.symm⟩
    · rw [if_neg z2]
      have : tk (pset P 1 w x) q = 1 ↔ tk P q = 1 := by
        rw [t1, t1, e1]
        constructor
        · intro ⟨v, v1, v2, v3⟩
          rw [e3] at v2
          by_cases e : v = w
          · subst e; rw [ps_eq] at v3; omega
          · rw [ps_j e] at v3; exact ⟨v, v1, v2, v3⟩
        · intro ⟨v, v1, v2, v3⟩
          by_cases e : v = w
          · subst e; exact absurd v3.symm z
          · exact ⟨v, v1, by rw [e3]; exact v2, by rw [ps_j e]; exact v3⟩
      have a := tle (pset P 1 w x)
      have b := tle P
      omega
/-- one comes to the next place -/
theorem CP.mv {o w x : Nat} {P : PAy} {M : Mem} (c : CP o P M) (hV : VA P) (hw : w < P 10 1) (h3 : P 3 w = 1) (hx : tk P x ≠ 1) (hne : x ≠ P 1 w) : CP o (pset P 1 w x) (mset (mset (mset M (o + 10) (P 1 w) 0) (o + 10) x 1) (o + 11 + w) 0 (nI x)) := by
  have h12 := hV.w12
  obtain ⟨⟨a1, a2, a3, a4⟩, ⟨b1, b2, b3⟩, c1, ⟨d1, d2, d3, d4, d5⟩, e1⟩ := c
  have kk : ∀ b, pset P 1 w x 10 b = P 10 b := fun b => ps_i (by omega)
  have k0 : ∀ b, pset P 1 w x 0 b = P 0 b := fun b => ps_i (by omega)
  have kr : ∀ q, rk (pset P 1 w x) q = rk P q := fun q => rk_ext (fun p _ => k0 p)
  have far : ∀ q, q ≠ o + 10 → q ≠ o + 11 + w → mset (mset (mset M (o + 10) (P 1 w) 0) (o + 10) x 1) (o + 11 + w) 0 (nI x) q = M q := fun q q1 q2 => by
    rw [ms_ne q2, ms_ne q1, ms_ne q1]
  refine ⟨⟨?_, ?_, fun q hq => ?_, fun q hq => ?_⟩, ⟨?_, ?_, ?_⟩, fun u hu j hj => ?_, ⟨?_, ?_, ?_, ?_, ?_⟩, fun q hq => ?_⟩
  · rw [far _ (by omega) (by omega), kk]; exact a1
  · rw [far _ (by omega) (by omega), kr]; exact a2
  · rw [k0] at hq
    rw [far _ (by omega) (by omega), kr]; exact a3 q hq
  · rw [far _ (by omega) (by omega), k0]; exact a4 q hq
  · rw [far _ (by omega) (by omega), kk]; exact b1
  · rw [far _ (by omega) (by omega), kk]; exact b2
  · rw [far _ (by omega) (by omega), kk]; exact b3
  · rw [kk] at hu
    by_cases e : u = w
    · subst e
      by_cases e2 : j = 0
      · subst e2; rw [ms_eq]; exact congrArg nI ps_eq.symm
      · rw [ms_ne2 e2, ms_ne (by omega), ms_ne (by omega), ps_i (by omega)]; exact c1 u hu j hj
    · rw [far _ (by omega) (by omega), ps_j e]; exact c1 u hu j hj
  · rw [far _ (by omega) (by omega), kk]; exact d1
  · rw [far _ (by omega) (by omega), kk]; exact d2
  · rw [far _ (by omega) (by omega), kk]; exact d3
  · rw [far _ (by omega) (by omega), kk]; exact d4
  · rw [far _ (by omega) (by omega), kk]; exact d5
  · rw [tk_move hV hw h3 hx hne, ms_ne (by omega)]
    by_cases z : q = x
    · subst z
      rw [ms_eq, if_neg hne, if_pos rfl]; rfl
    · rw [ms_ne2 z]
      by_cases z2 : q = P 1 w
      · subst z2; rw [ms_eq, if_pos rfl]; rfl
      · rw [ms_ne2 z2, if_neg z2, if_neg z]; exact e1 q hq
theorem k_walk {o n w : Nat} {P : PAy} {M : Mem} (h : PO o) (c : CP o P M) (hV : VA P) (hw : w < P 10 1) (h3 : P 3 w = 1) : Sp (s2_walk n o (o + 11 + w) M) (fun _ M' => CP o (wst P w) M' ∧ KFo o M M') := by
  have h12 := hV.w12
  have h60 := hV.n60
  have h4 := hV.n4
  obtain ⟨b1, b2, b3, b4, b5, b6, b7, b8, b9⟩ := hV.w hw
  have e0 : M (o + 11 + w) 0 = nI (P 1 w) := c.w hw 0 (by decide)
  have e1 : M (o + 11 + w) 1 = nI (P 2 w) := c.w hw 1 (by decide)
  have e4 : M (o + 11 + w) 4 = nI (P 5 w) := c.w hw 4 (by decide)
  have e5 : M (o + 11 + w) 5 = nI (P 6 w) := c.w hw 5 (by decide)
  have hp : pts P w ≤ 198 := by unfold pts; split <;> omega
  have hc := hV.c1 (P 1 w)
  -- from the new parts on
  have core : ∀ t : Nat, P 2 w + t = pts P w → Sp (s2_walk_30 n o (o + 11 + w) (nI t) (nI (P 2 w)) (o + 11 + w) M) (fun _ M' => CP o (wst P w) M' ∧ KFo o M M') := fun t ht => by
    unfold s2_walk_30
    refine Sp.mlet ?_
    rw [nI_add, ht]
    have c1 : CP o (pset P 2 w (pts P w)) (mset M (o + 11 + w) 1 (nI (pts P w))) := c.sw (k := 1) h12 hw (by decide) (by decide) (by decide)
    have f1 : KFo o M (mset M (o + 11 + w) 1 (nI (pts P w))) := KFo.st (by omega) (by omega)
    have n3 : P 3 w ≠ 0 := by omega
    rw [ms_eq]
    by_cases q : 100 ≤ pts P w
    · refine Sp.pos (nI_le (a := 100) q (by omega)) ?_
      have eN : mset M (o + 11 + w) 1 (nI (pts P w)) (link o 0) 0 = nI (P 10 0) := by rw [lo0 h, ms_ne (by omega)]; exact c.n
      have ep : mset M (o + 11 + w) 1 (nI (pts P w)) (o + 11 + w) 0 = nI (P 1 w) := by rw [ms_ne2 (by decide)]; exact e0
      rw [eN, ep, nI_1]
      have etk : ∀ x, tk (pset P 2 w (pts P w)) x = tk P x := fun x => by
        unfold tk
        rw [ps_i (by decide)]
        exact tkn_ext (fun v => ps_i (by decide)) (fun v => ps_i (by decide)) _
      have hnl := nxt_lt (P := P) (w := w) h4
      have hnn := nxt_ne (P := P) (w := w) h4
      have goon : ∀ x, x = nI (nxtA P w) → Sp (s2_walk_70 n o (o + 11 + w) x (mset M (o + 11 + w) 1 (nI (pts P w)))) (fun _ M' => CP o (wst P w) M' ∧ KFo o M M') := fun x hx => by
        rw [hx]
        unfold s2_walk_70
        refine Sp_cbe (k_stood h c1 (by omega)) ?_
        rw [etk]
        have htk : tk P (nxtA P w) ≤ 1 := tkn_le _
        by_cases z : tk P (nxtA P w) = 1
        · refine Sp.neg (fun y => by rw [z] at y; exact absurd y (by decide)) (Sp.mlet (Sp.ret ⟨?_, f1.tr (KFo.st (by omega) (by omega))⟩))
          have c2 : CP o (pset (pset P 2 w (pts P w)) 2 w 99) (mset (mset M (o + 11 + w) 1 (nI (pts P w))) (o + 11 + w) 1 (nI 99)) := c1.sw (k := 1) (by rw [ps_i (by decide)]; exact h12) (by rw [ps_i (by decide)]; exact hw) (by decide) (by decide) (by decide)
          rw [ps_two] at c2
          unfold wst
          rw [if_neg n3, if_neg (by omega), if_pos z]
          exact c2
        · have z0 : tk P (nxtA P w) = 0 := by omega
          refine Sp.pos (by rw [z0]; rfl) ?_
          rw [ep]
          refine Sp_cbe (k_mark (v := 0) h (by omega) (by decide)) (Sp_cbe (k_mark (v := 1) h (by omega) (by decide)) (Sp.mlet (Sp.mlet (Sp.ret ⟨?_, ?_⟩))))
          · -- the place first, then the parts
            have cm : CP o (pset P 1 w (nxtA P w)) (mset (mset (mset M (o + 10) (P 1 w) 0) (o + 10) (nxtA P w) 1) (o + 11 + w) 0 (nI (nxtA P w))) := c.mv hV hw h3 z hnn
            have cm2 : CP o (pset (pset P 1 w (nxtA P w)) 2 w (pts P w - 100)) (mset (mset (mset (mset M (o + 10) (P 1 w) 0) (o + 10) (nxtA P w) 1) (o + 11 + w) 0 (nI (nxtA P w))) (o + 11 + w) 1 (nI (pts P w - 100))) := cm.sw (k := 1) (by rw [ps_i (by decide)]; exact h12) (by rw [ps_i (by decide)]; exact hw) (by decide) (by decide) (by decide)
            have ew : wst P w = pset (pset P 1 w (nxtA P w)) 2 w (pts P w - 100) := by
              unfold wst
              rw [if_neg n3, if_neg (by omega), if_neg z]
            rw [ew]
            refine cm2.same (fun q q1 q2 => ?_) (by rw [ps_i (by decide), ps_i (by decide)]; exact h12)
            have es : mset (mset (mset M (o + 11 + w) 1 (nI (pts P w))) (o + 10) (P 1 w) (nI 0)) (o + 10) (nxtA P w) (nI 1) (o + 11 + w) 1 - (100 : Int32) = nI (pts P w - 100) := by
              rw [ms_ne (by omega), ms_ne (by omega), ms_eq]; exact sub_e (b := 100) (by omega)
            rw [es]
            by_cases y : q = o + 11 + w
            · subst y
              funext j
              by_cases j0 : j = 0
              · subst j0
                rw [ms_eq, ms_ne2 (by decide), ms_eq]
              · by_cases j1 : j = 1
                · subst j1
                  rw [ms_ne2 (by decide), ms_eq, ms_eq]
                · rw [ms_ne2 j0, ms_ne2 j1, ms_ne (by omega), ms_ne (by omega), ms_ne2 j1, ms_ne2 j1, ms_ne2 j0, ms_ne (by omega), ms_ne (by omega)]
            · rw [ms_ne y, ms_ne y, ms_ne y, ms_ne y]
              by_cases y2 : q = o + 10
              · subst y2
                funext j
                by_cases j0 : j = nxtA P w
                · subst j0; rw [ms_eq, ms_eq]; rfl
                · rw [ms_ne2 j0, ms_ne2 j0]
                  by_cases j1 : j = P 1 w
                  · subst j1; rw [ms_eq, ms_eq]; rfl
                  · rw [ms_ne2 j1, ms_ne2 j1, ms_ne (by omega)]
              · rw [ms_ne y2, ms_ne y2, ms_ne y2, ms_ne y2, ms_ne y]
          · exact (((f1.tr (KFo.st (by omega) (by omega))).tr (KFo.st (by omega) (by omega))).tr (KFo.st (by omega) (by omega))).tr (KFo.st (by omega) (by omega))
      by_cases z : P 1 w + 1 < P 10 0
      · refine Sp.neg (nI_ge z (by omega)) (goon _ ?_)
        unfold nxtA; rw [if_pos z]
      · refine Sp.pos (nI_le (by omega) (by omega)) (goon _ ?_)
        unfold nxtA; rw [if_neg z]; rfl
    · refine Sp.neg (fun y => q ((nI_leI (a := 100) (by decide) (by omega)).mp y)) (Sp.ret ⟨?_, f1⟩)
      unfold wst
      rw [if_neg n3, if_pos (by omega)]
      exact c1
  unfold s2_walk
  rw [lo0 h, e0]
  refine Sp_cbe (k_hasChair h c hV (by omega)) ?_
  rw [e1, e4, e5]
  by_cases q : P 0 (P 1 w) = 1
  · refine Sp.neg (fun z => by rw [q] at z; exact absurd z (by decide)) (core _ ?_)
    unfold pts; rw [if_pos q]
  · have q0 : P 0 (P 1 w) = 0 := by omega
    refine Sp.pos (by rw [q0]; rfl) (core _ ?_)
    unfold pts; rw [if_neg q]
theorem k_walkAll2 {o n : Nat} {P : PAy} (h : PO o) (hV : VA P) : ∀ (f i : Nat) (M : Mem), i ≤ P 10 1 → P 10 1 < i + f → CP o (wkn P i) M → Sp (s2_walkAll_2 n o f (nI i) M) (fun _ M' => CP o (wkA P) M' ∧ KFo o M M') := by
  have h12 := hV.w12
  intro f
  induction f with
  | zero => intro i M h1 h2; omega
  | succ f ih =>
    intro i M h1 h2 c
    have hVi := V_wkn hV i h1
    have k10 : ∀ k, wkn P i 10 k = P 10 k := fun k => wkn_keep i (Or.inl ⟨by decide, by decide⟩)
    rw [s2_walkAll_2, c.wc, k10]
    by_cases q : i < P 10 1
    · have q' : i < wkn P i 10 1 := by rw [k10]; exact q
      have b3 := (hVi.w q').2.2.1
      have hi : inB (nI i) (alen (o + 9)) := by rw [al9 h]; exact vp_in_nI (by omega) (by decide)
      have el : link (o + 9) (nI i).toNatClampNeg = o + 11 + i := by rw [nI_clamp (by omega), lw9 h (by omega)]
      have e2 : M (link (o + 9) (nI i).toNatClampNeg) 2 = nI (wkn P i 3 i) := by rw [el]; exact c.w q' 2 (by decide)
      refine Sp.neg (nI_ge q (by omega)) (Sp.neg (show ¬ (12 : Int32) ≤ nI i from nI_ge (b := 12) (by omega) (by decide)) ?_)
      rw [lo3 h]
      refine Sp.pos hi ?_
      rw [e2]
      by_cases z : wkn P i 3 i = 0
      · refine Sp.pos (by rw [z]; rfl) (Sp.ilet ?_)
        rw [nI_1]
        refine ih (i + 1) M (by omega) (by omega) ?_
        show CP o (wst (wkn P i) i) M
        unfold wst
        rw [if_pos z]; exact c
      · refine Sp.neg (fun y => z ((nI_is0 (by omega)).mp y)) (Sp.pos hi ?_)
        rw [el]
        refine Sp.cb (k_walk h c hVi q' (by omega)) (fun r M1 g => Sp.ilet ?_)
        rw [nI_1]
        exact (ih (i + 1) M1 (by omega) (by omega) g.1).mono (fun r M2 y => ⟨y.1, g.2.tr y.2⟩)
    · have e : i = P 10 1 := by omega
      subst e
      exact Sp.pos (nI_le (Nat.le_refl _) (by omega)) (Sp.ret ⟨c, KFo.rf⟩)
theorem k_walkAll {o n : Nat} {P : PAy} {M : Mem} (h : PO o) (c : CP o P M) (hV : VA P) (hn : 60 < n) : Sp (s2_walkAll n o M) (fun _ M' => CP o (wkA P) M' ∧ KFo o M M') :=
  k_walkAll2 h hV n 0 M (Nat.zero_le _) (by have := hV.w12; omega) c
