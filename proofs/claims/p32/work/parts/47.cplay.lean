/-! ===== the program: a whole party in mind, teams, films ===== -/
theorem notovr {P : PAy} (hV : VA P) (h : ¬ ovr P) : P 10 8 = 0 ∧ 2 ≤ insc P (P 10 1) ∧ 1 ≤ rk P 60 ∧ 1 ≤ P 10 1 := by
  have b := hV.s.2.2.2.2
  have h1 : P 10 8 ≠ 1 := fun q => h (Or.inl q)
  have h2 : ¬ insc P (P 10 1) < 2 := fun q => h (Or.inr (Or.inl q))
  have h3 : rk P 60 ≠ 0 := fun q => h (Or.inr (Or.inr q))
  have := insc_le hV (Nat.le_refl (P 10 1))
  exact ⟨by omega, by omega, by omega, by omega⟩
theorem k_play12 {n : Nat} {P : PAy} (hV : VA P) (ht : P 10 6 ≤ 299) (ho : ¬ ovr P) (hn : 60 < n) : ∀ (f k : Nat) (M : Mem), 3302 ≤ k + f → k ≤ 3301 → (∀ j, j < k → ¬ ovr (gN P j)) → CP 34 (gN P k) M → M 2 3 = nI k → M 2 4 = nI (gR P k) → Sp (s0_playOut_12 n 2 f (nI k) M) (fun _ M' => M' 2 3 = nI (pK P) ∧ M' 2 4 = nI (gR P (pK P)) ∧ CP 34 (gN P (pK P)) M' ∧ KMi M M') := by
  have hme := mes_le hV
  intro f
  induction f with
  | zero => intro k M h1 h2; omega
  | succ f ih =>
    intro k M h1 hk3 h2 c h3 h4
    obtain ⟨i1, i2, i3, i4, i5⟩ := gN_inv hV ht k h2
    have iff8 : ovr (gN P k) ↔ gN P k 10 8 = 1 := by
      by_cases k0 : k = 0
      · subst k0
        exact ⟨fun y => absurd y ho, fun y => Or.inl y⟩
      · exact i5 (by omega)
    have e9 : M (link 2 1) 9 = nI (gN P k 10 8) := c.2.2.2.1.2.2.2.2
    have b8 := i1.s.2.2.2.2
    rw [s0_playOut_12]
    by_cases q : ovr (gN P k)
    · have eK := pK_eq q h2
      have q8 := iff8.mp q
      by_cases z : 3900 ≤ k
      · omega
      · refine Sp.neg (nI_ge (b := 3900) (by omega) (by decide)) (Sp.neg (by rw [e9, q8]; decide) (Sp.ret ⟨?_, ?_, ?_, KMi.rf⟩))
        · rw [h3, eK]
        · rw [h4, eK]
        · rw [eK]; exact c
    · have i4' := i4 q
      obtain ⟨n8, n2, nr1, nW⟩ := notovr i1 q
      have hm1 := (go1_step i1 i2 q).2.2.2.2
      refine Sp.neg (nI_ge (b := 3900) (by omega) (by decide)) (Sp.pos (by rw [e9, n8]; rfl) (Sp.mlet ?_))
      rw [h3, nI_1]
      have c1 : CP 34 (gN P k) (mset M 2 3 (nI (k + 1))) := CP.same (o := 34) c (fun q' a b => ms_ne (by omega)) i1.w12
      refine Sp.cb (k_passTenth (o := 34) po34 c1 i1 i2 nW hn) (fun r M1 g => ?_)
      obtain ⟨g1, g2, g3⟩ := g
      have f1 : KMi M M1 := (KMi.s2 (M := M) (k := 3) (v := nI (k + 1))).tr g3.mi
      have e23 : M1 2 3 = nI (k + 1) := by rw [g3 2 (by decide), ms_eq]
      have e24 : M1 2 4 = nI (gR P k) := by rw [g3 2 (by decide), ms_ne2 (by decide)]; exact h4
      have hno : ∀ j, j < k + 1 → ¬ ovr (gN P j) := fun j hj => by
        by_cases e : j = k
        · subst e; exact q
        · exact h2 j (by omega)
      rcases stq_cases (tck (gN P k)) with ⟨e, es⟩ | ⟨e, es⟩
      · refine Sp.neg (by rw [g1, e]; decide) ?_
        obtain ⟨t8, ti, tr, t1⟩ := tck_facts (P := gN P k)
        refine Sp.cb (k_endRound (o := 34) po34 g2 (V_tck i1 i2) (by omega) (by omega) (by omega) hn) (fun r M2 t => Sp.mlet (Sp.ilet ?_))
        obtain ⟨t1', t2, t3⟩ := t
        have eg : gN P (k + 1) = er (tck (gN P k)) := by
          show go1 (gN P k) = _
          unfold go1
          rw [cif_pos es]
        have e24' : M2 2 4 = nI (gR P k) := by rw [t3 2 (by decide)]; exact e24
        refine (ih (k + 1) _ (by omega) (by omega) hno (by rw [eg]; exact CP.same (o := 34) t2 (fun q' a b => ms_ne (by omega)) (V_er (V_tck i1 i2)).w12) ?_ ?_).mono (fun r M3 z => ⟨z.1, z.2.1, z.2.2.1, ((f1.tr t3.mi).tr KMi.s2).tr z.2.2.2⟩)
        · rw [ms_ne2 (by decide), t3 2 (by decide)]; exact e23
        · rw [ms_eq, e24', gR_suc, cif_pos es]; exact nI_add _ 1
      · refine Sp.pos (by rw [g1, e]) (Sp.ilet ?_)
        have eg : gN P (k + 1) = tck (gN P k) := by
          show go1 (gN P k) = _
          unfold go1
          rw [cif_neg es]
        refine (ih (k + 1) M1 (by omega) (by omega) hno (by rw [eg]; exact g2) e23 ?_).mono (fun r M3 z => ⟨z.1, z.2.1, z.2.2.1, f1.tr z.2.2.2⟩)
        rw [e24, gR_suc, cif_neg es, Nat.add_zero]
theorem k_playOut {n : Nat} {P : PAy} {M : Mem} (c : CP 34 P M) (hV : VA P) (ht : P 10 6 ≤ 299) (ho : ¬ ovr P) (hn : 4000 < n) : Sp (s0_playOut n 2 M) (fun _ M' => M' 2 3 = nI (pK P) ∧ M' 2 4 = nI (gR P (pK P)) ∧ CP 34 (gN P (pK P)) M' ∧ VA (gN P (pK P)) ∧ KMi M M') := by
  have hfin : VA (gN P (pK P)) := by
    -- the end is reached
    have key : ∀ d, ∀ k, mes P + 1 ≤ k + d → (∀ j, j < k → ¬ ovr (gN P j)) → ∃ K, ovr (gN P K) ∧ ∀ j, j < K → ¬ ovr (gN P j) := by
      intro d
      induction d with
      | zero =>
        intro k h1 h2
        by_cases q : ovr (gN P k)
        · exact ⟨k, q, h2⟩
        · have := (gN_inv hV ht k h2).2.2.2.1 q
          omega
      | succ d ih =>
        intro k h1 h2
        by_cases q : ovr (gN P k)
        · exact ⟨k, q, h2⟩
        · exact ih (k + 1) (by omega) (fun j hj => by
            by_cases e : j = k
            · subst e; exact q
            · exact h2 j (by omega))
    obtain ⟨K, k1, k2⟩ := key (mes P + 1) 0 (by omega) (fun j hj => by omega)
    rw [pK_eq k1 k2]
    exact (gN_inv hV ht K k2).1
  unfold s0_playOut
  refine Sp.mlet (Sp.mlet ?_)
  refine (k_play12 hV ht ho (by omega) n 0 _ (by omega) (by omega) (fun j hj => by omega) (CP.same (o := 34) c (fun q' a b => by rw [ms_ne (by omega), ms_ne (by omega)]) hV.w12) ?_ ?_).mono (fun r M3 z => ⟨z.1, z.2.1, z.2.2.1, hfin, (KMi.s2.tr KMi.s2).tr z.2.2.2⟩)
  · rw [ms_ne2 (by decide), ms_eq]; rfl
  · rw [ms_eq]; rfl
theorem k_win5 {n : Nat} {Q : PAy} {M : Mem} (c : CP 34 Q M) (hV : VA Q) (hn : 60 < n) : ∀ (f i : Nat), i ≤ Q 10 1 → Q 10 1 < i + f → s2_winner_5 n 34 f (gI (lnn Q i)) (nI i) M = some (gI (winA Q), M) := by
  have h12 := hV.w12
  intro f
  induction f with
  | zero => intro i h1 h2; omega
  | succ f ih =>
    intro i h1 h2
    have e5 : M 34 5 = nI (Q 10 1) := c.wc
    rw [s2_winner_5, e5]
    by_cases q : i < Q 10 1
    · have en : lnn Q (i + 1) = if Q 3 i = 1 then i + 1 else lnn Q i := rfl
      have nx := ih (i + 1) (by omega) (by omega)
      have b3 := (hV.w q).2.2.1
      rw [ite_nge q (by omega), k_inY (o := 34) po34 c hV q, cb_some]
      by_cases z : Q 3 i = 1
      · rw [if_neg (show ¬ nI (Q 3 i) = 0 by rw [z]; decide), ilet_e, nI_1]
        rw [en, if_pos z, gI_suc] at nx
        exact nx
      · rw [if_pos (show nI (Q 3 i) = 0 by rw [show Q 3 i = 0 by omega]; rfl), ilet_e, nI_1]
        rw [en, if_neg z] at nx
        exact nx
    · have e : i = Q 10 1 := by omega
      have hi := insc_le hV (Nat.le_refl (Q 10 1))
      rw [e, ite_ge (Nat.le_refl _) (by omega), k_countIn (o := 34) po34 c hV hn, cb_some]
      unfold winA
      by_cases z : insc Q (Q 10 1) = 1
      · rw [if_pos (show nI (insc Q (Q 10 1)) = 1 by rw [z]; rfl), if_pos z]
      · rw [if_neg (fun y => z ((nI_is1 (by omega)).mp y)), if_neg z]; rfl
theorem k_winner {n : Nat} {Q : PAy} {M : Mem} (c : CP 34 Q M) (hV : VA Q) (hn : 60 < n) : s2_winner n 34 M = some (gI (winA Q), M) :=
  k_win5 c hV hn n 0 (Nat.zero_le _) (by have := hV.w12; omega)
/-- what a party in mind comes to -/
noncomputable def wT (P : PAy) : Nat := pK P
noncomputable def wR (P : PAy) : Nat := gR P (pK P)
noncomputable def wW (P : PAy) : Int32 := gI (winA (gN P (pK P)))
theorem k_ahead {n : Nat} {P : PAy} {M : Mem} {x : Int32} (c : CP 11 P M) (hV : VA P) (ht : P 10 6 ≤ 299) (ho : ¬ ovr P) (hn : 4000 < n) : Sp (s0_partyAhead n 2 x M) (fun r M' => r = (if x = 0 then nI (wT P) else if x = 1 then nI (wR P) else wW P) ∧ KMi M M') := by
  unfold s0_partyAhead
  refine Sp.cb (k_think c hV (by omega)) (fun r M1 g => Sp.cb (k_playOut g.1 hV ht ho hn) (fun r M2 t => ?_))
  obtain ⟨t1, t2, t3, t4, t5⟩ := t
  have f := g.2.2.mi.tr t5
  by_cases q : x = 0
  · refine Sp.pos q (Sp.ret ⟨?_, f⟩)
    rw [if_pos q]; exact t1
  · refine Sp.neg q ?_
    by_cases z : x = 1
    · refine Sp.pos z (Sp.ret ⟨?_, f⟩)
      rw [if_neg q, if_pos z]; exact t2
    · refine Sp.neg z (Sp_cbe (k_winner t3 t4 (by omega)) (Sp.ret ⟨?_, f⟩))
      rw [if_neg q, if_neg z]; rfl
theorem bys_ovr {P : PAy} {z f p : Nat} : ovr (bys P z f p) ↔ ovr P := by
  have k10 : ∀ b, b ≠ 5 → b ≠ 4 → b ≠ 2 → bys P z f p 10 b = P 10 b := fun b h1 h2 h3 => by
    unfold bys; rw [ps_j h3, ps_j h2, ps_j h1]
  have kr : ∀ a b, a ≠ 10 → bys P z f p a b = P a b := fun a b ha => by
    unfold bys; rw [ps_i ha, ps_i ha, ps_i ha]
  unfold ovr
  rw [k10 8 (by decide) (by decide) (by decide), k10 1 (by decide) (by decide) (by decide), insc_ext (fun w _ => kr 3 w (by decide)), rk_ext (fun p _ => kr 0 p (by decide))]
theorem bys_6 {P : PAy} {z f p : Nat} : bys P z f p 10 6 = P 10 6 := by
  unfold bys; rw [ps_j (by decide), ps_j (by decide), ps_j (by decide)]
theorem bys_z {P : PAy} {z : Nat} : bys P z (P 10 4) (P 10 2) = pset P 10 5 z := by
  unfold bys
  rw [ps_same (P := pset P 10 5 z) (i := 10) (j := 4) (ps_j (by decide)), ps_same (P := pset P 10 5 z) (i := 10) (j := 2) (ps_j (by decide))]
theorem bys_k {P : PAy} {p : Nat} : bys P (P 10 5) (P 10 4) p = pset P 10 2 p := by
  unfold bys
  rw [ps_same (P := P) (i := 10) (j := 5) rfl, ps_same (P := P) (i := 10) (j := 4) rfl]
theorem bys_0 {P : PAy} : bys P (P 10 5) (P 10 4) (P 10 2) = P := by
  rw [bys_k, ps_same rfl]
/-- how often a walker wins -/
noncomputable def wnC (P : PAy) (w z : Nat) : Nat → Nat
  | 0 => 0
  | k + 1 => wnC P w z k + cif (wW (pset P 10 5 (z + k)) = nI w) 1 0
theorem k_times {n m w z : Nat} {P : PAy} (hV : VA P) (ht : P 10 6 ≤ 299) (ho : ¬ ovr P) (hn : 4000 < n) (hm : m ≤ 20) : ∀ (f k : Nat) (M : Mem), k ≤ m → m < k + f → CP 11 P M → Sp (s0_timesWinner_6 n 2 (nI w) (nI m) (nI z) f (nI (wnC P w z k)) (nI k) M) (fun r M' => r = nI (wnC P w z m) ∧ KMi M M') := by
  have h12 := hV.w12
  intro f
  induction f with
  | zero => intro k M h1 h2; omega
  | succ f ih =>
    intro k M h1 h2 c
    rw [s0_timesWinner_6]
    by_cases q : k < m
    · refine Sp.neg (nI_ge q (by omega)) (Sp.cb (k_think c hV (by omega)) (fun r M1 g => Sp.mlet ?_))
      obtain ⟨g1, g2, g3⟩ := g
      rw [nI_add]
      have c1 : CP 34 (pset P 10 5 (z + k)) (mset M1 (link (link 2 1) 1) 2 (nI (z + k))) := CP.spl (o := 34) 2 5 g1 (by omega)
      have hb := bys_z (P := P) (z := z + k)
      have hVb : VA (pset P 10 5 (z + k)) := by rw [← hb]; exact V_bys hV hV.s.2.2.1 hV.s.1
      have f1 : KMi M (mset M1 (link (link 2 1) 1) 2 (nI (z + k))) := g3.mi.tr (fun q' _ _ h => ms_ne (by show q' ≠ 38; omega))
      refine Sp.cb (k_playOut c1 hVb (by rw [ps_j (by decide)]; exact ht) (by rw [← hb, bys_ovr]; exact ho) hn) (fun r M2 t => ?_)
      obtain ⟨t1, t2, t3, t4, t5⟩ := t
      have fM := f1.tr t5
      have c2 := fM.cp (Or.inl rfl) c h12
      refine Sp_cbe (k_winner t3 t4 (by omega)) ?_
      have en : wnC P w z (k + 1) = wnC P w z k + cif (wW (pset P 10 5 (z + k)) = nI w) 1 0 := rfl
      by_cases y : gI (winA (gN (pset P 10 5 (z + k)) (pK (pset P 10 5 (z + k))))) = nI w
      · refine Sp.pos y (Sp.ilet (Sp.ilet ?_))
        rw [nI_1, nI_1]
        have nx := ih (k + 1) M2 (by omega) (by omega) c2
        rw [en, cif_pos (show wW (pset P 10 5 (z + k)) = nI w from y)] at nx
        exact nx.mono (fun r M3 a => ⟨a.1, fM.tr a.2⟩)
      · refine Sp.neg y (Sp.ilet ?_)
        rw [nI_1]
        have nx := ih (k + 1) M2 (by omega) (by omega) c2
        rw [en, cif_neg (show ¬ wW (pset P 10 5 (z + k)) = nI w from y), Nat.add_zero] at nx
        exact nx.mono (fun r M3 a => ⟨a.1, fM.tr a.2⟩)
    · have e : k = m := by omega
      subst e
      exact Sp.pos (nI_le (Nat.le_refl _) (by omega)) (Sp.ret ⟨rfl, KMi.rf⟩)
/-- the shortest player -/
noncomputable def shBp (P : PAy) : Nat → Nat × Nat
  | 0 => (0, 0)
  | k + 1 => if k ≠ 0 ∧ (shBp P k).2 ≤ wT (pset P 10 2 k) then shBp P k else (k, wT (pset P 10 2 k))
theorem pK_le {P : PAy} (hV : VA P) (ht : P 10 6 ≤ 299) : pK P ≤ 3301 := by
  have hme := mes_le hV
  have key : ∀ d, ∀ k, mes P + 1 ≤ k + d → k ≤ mes P + 1 → (∀ j, j < k → ¬ ovr (gN P j)) → ∃ K, K ≤ mes P + 1 ∧ ovr (gN P K) ∧ ∀ j, j < K → ¬ ovr (gN P j) := by
    intro d
    induction d with
    | zero =>
      intro k h1 h1' h2
      by_cases q : ovr (gN P k)
      · exact ⟨k, h1', q, h2⟩
      · have := (gN_inv hV ht k h2).2.2.2.1 q
        omega
    | succ d ih =>
      intro k h1 h1' h2
      by_cases q : ovr (gN P k)
      · exact ⟨k, h1', q, h2⟩
      · have := (gN_inv hV ht k h2).2.2.2.1 q
        exact ih (k + 1) (by omega) (by omega) (fun j hj => by
          by_cases e : j = k
          · subst e; exact q
          · exact h2 j (by omega))
  obtain ⟨K, k0, k1, k2⟩ := key (mes P + 1) 0 (by omega) (by omega) (fun j hj => by omega)
  rw [pK_eq k1 k2]; omega
theorem shBp_le {P : PAy} (hV : VA P) (ht : P 10 6 ≤ 299) : ∀ k, k ≤ 5 → (shBp P k).2 ≤ 3301 := by
  intro k
  induction k with
  | zero => intro _; exact Nat.zero_le _
  | succ k ih =>
    intro hk
    show (if k ≠ 0 ∧ (shBp P k).2 ≤ wT (pset P 10 2 k) then shBp P k else (k, wT (pset P 10 2 k))).2 ≤ 3301
    split
    · exact ih (by omega)
    · have hVb : VA (pset P 10 2 k) := by rw [← bys_k]; exact V_bys hV hV.s.2.2.1 (by omega)
      exact pK_le hVb (by rw [ps_j (by decide)]; exact ht)
theorem k_kinds {n : Nat} {P : PAy} (hV : VA P) (ht : P 10 6 ≤ 299) (ho : ¬ ovr P) (hn : 4000 < n) : ∀ (f k : Nat) (x2 : Int32) (M : Mem), k ≤ 5 → 5 < k + f → CP 11 P M → (x2 = if k = 0 then 2147483647 else nI (shBp P k).2) → Sp (s0_kindOfFewestTenths_7 n 2 f (nI (shBp P k).1) x2 (nI k) M) (fun r M' => r = nI (shBp P 5).1 ∧ KMi M M') := by
  have h12 := hV.w12
  intro f
  induction f with
  | zero => intro k x2 M h1 h2; omega
  | succ f ih =>
    intro k x2 M h1 h2 c hx
    rw [s0_kindOfFewestTenths_7]
    by_cases q : k < 5
    · refine Sp.neg (nI_ge (b := 5) q (by decide)) (Sp.cb (k_think c hV (by omega)) (fun r M1 g => Sp.mlet ?_))
      obtain ⟨g1, g2, g3⟩ := g
      have c1 : CP 34 (pset P 10 2 k) (mset M1 (link (link 2 1) 1) 0 (nI k)) := CP.spl (o := 34) 0 2 g1 (by omega)
      have hb := bys_k (P := P) (p := k)
      have hVb : VA (pset P 10 2 k) := by rw [← hb]; exact V_bys hV hV.s.2.2.1 (by omega)
      have f1 : KMi M (mset M1 (link (link 2 1) 1) 0 (nI k)) := g3.mi.tr (fun q' _ _ h => ms_ne (by show q' ≠ 38; omega))
      have htb : pset P 10 2 k 10 6 ≤ 299 := by rw [ps_j (by decide)]; exact ht
      refine Sp.cb (k_playOut c1 hVb htb (by rw [← hb, bys_ovr]; exact ho) hn) (fun r M2 t => ?_)
      obtain ⟨t1, t2, t3, t4, t5⟩ := t
      have fM := f1.tr t5
      have c2 := fM.cp (Or.inl rfl) c h12
      have hT := pK_le hVb htb
      have hS := shBp_le hV ht k (by omega)
      have en : shBp P (k + 1) = if k ≠ 0 ∧ (shBp P k).2 ≤ wT (pset P 10 2 k) then shBp P k else (k, wT (pset P 10 2 k)) := rfl
      rw [t1]
      by_cases y : k ≠ 0 ∧ (shBp P k).2 ≤ wT (pset P 10 2 k)
      · have hle : x2 ≤ nI (pK (pset P 10 2 k)) := by rw [hx, if_neg y.1]; exact nI_le y.2 (by omega)
        refine Sp.pos hle (Sp.ilet ?_)
        rw [nI_1]
        have nx := ih (k + 1) x2 M2 (by omega) (by omega) c2 (by rw [en, if_pos y, if_neg (by omega), hx, if_neg y.1])
        rw [en, if_pos y] at nx
        exact nx.mono (fun r M3 a => ⟨a.1, fM.tr a.2⟩)
      · have hgt : ¬ x2 ≤ nI (pK (pset P 10 2 k)) := by
          rw [hx]
          by_cases k0 : k = 0
          · rw [if_pos k0]; exact nI_ge (b := 2147483647) (by omega) (by decide)
          · rw [if_neg k0]
            exact nI_ge (Nat.not_le.mp (fun z => y ⟨k0, z⟩)) (by omega)
        refine Sp.neg hgt (Sp.ilet (Sp.ilet ?_))
        rw [nI_1]
        have nx := ih (k + 1) (nI (pK (pset P 10 2 k))) M2 (by omega) (by omega) c2 (by rw [en, if_neg y, if_neg (by omega)]; rfl)
        rw [en, if_neg y] at nx
        exact nx.mono (fun r M3 a => ⟨a.1, fM.tr a.2⟩)
    · have e : k = 5 := by omega
      subst e
      exact Sp.pos (by decide) (Sp.ret ⟨rfl, KMi.rf⟩)
/-! teams -/
theorem k_team23 {n m a b : Nat} {P : PAy} (hV : VA P) (ha : a < P 10 1) (hb : b < P 10 1) (hn : 200 < n) (hm : m ≤ 200) : ∀ (f k : Nat) (M : Mem), k ≤ m → m < k + f → CP 34 (wI P k) M → Sp (s0_teamGain_23 n 2 (nI a) (nI b) (nI m) f (nI (cnA P a k)) (nI (cnA P b k)) (nI (tgA P a b k)) (nI k) M) (fun r M' => r = nI (tgA P a b m) - (if nI (cnA P a m) < nI (cnA P b m) then nI (cnA P b m) else nI (cnA P a m)) ∧ KMi M M') := by
  intro f
  induction f with
  | zero => intro k M h1 h2; omega
  | succ f ih =>
    intro k M h1 h2 c
    rw [s0_teamGain_23]
    by_cases q : k < m
    · have hVk1 := V_wI hV (k + 1)
      have e1 : wI P (k + 1) 10 1 = P 10 1 := wI_keep ⟨by decide, by decide⟩ _
      have h6 := (SV_sit hVk1).s60 hVk1
      refine Sp.neg (nI_ge q (by omega)) (Sp.cb (k_behind c (V_wI hV k) (by omega)) (fun r M1 g => ?_))
      obtain ⟨g1, g2, g3⟩ := g
      refine Sp_cbe (k_seatedY (o := 34) po34 hVk1 h6 g2 (by rw [e1]; exact ha)) (Sp_cbe (k_seatedY (o := 34) po34 hVk1 h6 g2 (by rw [e1]; exact hb)) ?_)
      have nx := (ih (k + 1) M1 (by omega) (by omega) g1).mono (fun r M2 z => (⟨z.1, g3.mi.tr z.2⟩ : r = nI (tgA P a b m) - (if nI (cnA P a m) < nI (cnA P b m) then nI (cnA P b m) else nI (cnA P a m)) ∧ KMi M M2))
      have ea : cnA P a (k + 1) = cnA P a k + (if sit (wI P (k + 1)) a = 0 then 0 else 1) := rfl
      have eb : cnA P b (k + 1) = cnA P b k + (if sit (wI P (k + 1)) b = 0 then 0 else 1) := rfl
      have et : tgA P a b (k + 1) = tgA P a b k + (if sit (wI P (k + 1)) a = 0 ∧ sit (wI P (k + 1)) b = 0 then 0 else 1) := rfl
      have n0 : ∀ x : Nat, nI x + 0 = nI x := fun x => nI_add x 0
      have n1 : ∀ x : Nat, nI x + 1 = nI (x + 1) := fun x => nI_1 x
      rw [ea, eb, et] at nx
      by_cases za : sit (wI P (k + 1)) a = 0
      · by_cases zb : sit (wI P (k + 1)) b = 0
        · rw [if_pos za, if_pos zb, if_pos ⟨za, zb⟩, Nat.add_zero, Nat.add_zero, Nat.add_zero] at nx
          rw [if_pos za, if_pos zb]
          refine Sp.pos rfl ?_
          unfold s0_teamGain_71
          refine Sp.ilet (Sp.pos rfl ?_)
          unfold s0_teamGain_86
          refine Sp.ilet (Sp.pos rfl (Sp.pos rfl (Sp.ilet (Sp.ilet ?_))))
          rw [n0, n0, n0, n1]
          exact nx
        · rw [if_pos za, if_neg zb, if_neg (fun y => zb y.2), Nat.add_zero] at nx
          rw [if_pos za, if_neg zb]
          refine Sp.pos rfl ?_
          unfold s0_teamGain_71
          refine Sp.ilet (Sp.neg (by decide) ?_)
          unfold s0_teamGain_86 s0_teamGain_101
          refine Sp.ilet (Sp.pos rfl (Sp.neg (by decide) (Sp.ilet (Sp.ilet ?_))))
          rw [n0, n1, n1, n1]
          exact nx
      · by_cases zb : sit (wI P (k + 1)) b = 0
        · rw [if_neg za, if_pos zb, if_neg (fun y => za y.1), Nat.add_zero] at nx
          rw [if_neg za, if_pos zb]
          refine Sp.neg (by decide) ?_
          unfold s0_teamGain_71
          refine Sp.ilet (Sp.pos rfl ?_)
          unfold s0_teamGain_86 s0_teamGain_101
          refine Sp.ilet (Sp.neg (by decide) (Sp.ilet (Sp.ilet ?_)))
          rw [n0, n1, n1, n1]
          exact nx
        · rw [if_neg za, if_neg zb, if_neg (fun y => za y.1)] at nx
          rw [if_neg za, if_neg zb]
          refine Sp.neg (by decide) ?_
          unfold s0_teamGain_71
          refine Sp.ilet (Sp.neg (by decide) ?_)
          unfold s0_teamGain_86 s0_teamGain_101
          refine Sp.ilet (Sp.neg (by decide) (Sp.ilet (Sp.ilet ?_)))
          rw [n1, n1, n1, n1]
          exact nx
    · have e : k = m := by omega
      subst e
      exact Sp.pos (nI_le (Nat.le_refl _) (by omega)) (Sp.ret ⟨rfl, KMi.rf⟩)
theorem k_team {n m a b : Nat} {P : PAy} {M : Mem} (c : CP 11 P M) (hV : VA P) (ha : a < P 10 1) (hb : b < P 10 1) (hn : 200 < n) (hm : m ≤ 200) : Sp (s0_teamGain n 2 (nI a) (nI b) (nI m) M) (fun r M' => r = nI (tgA P a b m) - (if nI (cnA P a m) < nI (cnA P b m) then nI (cnA P b m) else nI (cnA P a m)) ∧ KMi M M') := by
  unfold s0_teamGain
  refine Sp.cb (k_think c hV (by omega)) (fun r M1 g => ?_)
  exact (k_team23 hV ha hb hn hm n 0 M1 (Nat.zero_le _) (by omega) g.1).mono (fun r M2 z => ⟨z.1, g.2.2.mi.tr z.2⟩)
theorem k_held41 {n m a b : Nat} {P : PAy} (hV : VA P) (ha : a < P 10 1) (hb : b < P 10 1) (hn : 200 < n) (hm : m ≤ 200) : ∀ (f k : Nat) (M : Mem), k ≤ m → m < k + f → CP 34 (wI P k) M → Sp (s0_sitsWhenHeld_41 n 2 (nI a) (nI b) (nI m) (34 + 11 + b) f (nI (hlA P a b k)) (nI k) M) (fun r M' => r = nI (hlA P a b m) ∧ KMi M M') := by
  have h12 := hV.w12
  intro f
  induction f with
  | zero => intro k M h1 h2; omega
  | succ f ih =>
    intro k M h1 h2 c
    rw [s0_sitsWhenHeld_41]
    by_cases q : k < m
    · have hVk1 := V_wI hV (k + 1)
      have e1 : wI P (k + 1) 10 1 = P 10 1 := wI_keep ⟨by decide, by decide⟩ _
      have e0 : wI P (k + 1) 10 0 = P 10 0 := wI_keep ⟨by decide, by decide⟩ _
      have e7 : wI P (k + 1) 7 b = P 7 b := wI_keep ⟨by decide, by decide⟩ _
      have hS := SV_sit hVk1
      have h6 := hS.s60 hVk1
      have h60 := hVk1.n60
      have ha1 : a < wI P (k + 1) 10 1 := by rw [e1]; exact ha
      have hb1 : b < wI P (k + 1) 10 1 := by rw [e1]; exact hb
      obtain ⟨w1, w2, w3, w4, w5, w6, w7, w8, w9⟩ := hVk1.w hb1
      refine Sp.neg (nI_ge q (by omega)) (Sp.cb (k_behind c (V_wI hV k) (by omega)) (fun r M1 g => ?_))
      obtain ⟨g1, g2, g3⟩ := g
      have g1' : CP 34 (wI P (k + 1)) M1 := g1
      have g2' : CS 34 (wI P (k + 1)) (sit (wI P (k + 1))) M1 := g2
      have nx := (ih (k + 1) M1 (by omega) (by omega) g1).mono (fun r M2 z => (⟨z.1, g3.mi.tr z.2⟩ : r = nI (hlA P a b m) ∧ KMi M M2))
      have en : hlA P a b (k + 1) = hlA P a b k + (if sit (wI P (k + 1)) b ≠ 0 ∨ (sit (wI P (k + 1)) a ≠ 0 ∧ frA (P 10 0) (wI P (k + 1) 1 b) (sit (wI P (k + 1)) a - 1) ≤ P 7 b) then 1 else 0) := rfl
      rw [en] at nx
      have ep : s5_placeOf (34 + 5) (nI a) (34 + 1) M1 = some (if sit (wI P (k + 1)) a = 0 then -9 else nI (sit (wI P (k + 1)) a - 1), M1) := by
        have hi : inB (nI a) (alen (34 + 6)) := vp_in_nI (N := 12) (by omega) (by decide)
        unfold s5_placeOf
        rw [k_seatedY po34 hVk1 h6 g2' ha1, cb_some]
        by_cases z : sit (wI P (k + 1)) a = 0
        · rw [if_pos (show (if sit (wI P (k + 1)) a = 0 then (0 : Int32) else 1) = 0 from if_pos z), if_pos z]
        · have ec : M1 (34 + 6) (nI a).toNatClampNeg = nI (rk (wI P (k + 1)) (sit (wI P (k + 1)) a - 1)) := by
            rw [nI_clamp (by omega), g2'.2.2 a ha1]; exact if_neg z
          rw [if_neg (show ¬ (if sit (wI P (k + 1)) a = 0 then (0 : Int32) else 1) = 0 by rw [if_neg z]; decide), if_neg z, ls0 po34, if_pos hi, ec, k_place po34 g1' hVk1 (hS a z).2.2, cb_some]
      -- without what is given
      have no : ∀ (hng : ¬ (sit (wI P (k + 1)) a ≠ 0 ∧ frA (P 10 0) (wI P (k + 1) 1 b) (sit (wI P (k + 1)) a - 1) ≤ P 7 b)), Sp (s0_sitsWhenHeld_105 n (s0_sitsWhenHeld_41 n 2 (nI a) (nI b) (nI m) (34 + 11 + b) f) 2 (nI a) (nI b) (nI m) (34 + 11 + b) (nI (hlA P a b k)) (nI k) M1) (fun r M' => r = nI (hlA P a b m) ∧ KMi M M') := fun hng => by
        unfold s0_sitsWhenHeld_105 s0_sitsWhenHeld_106
        refine Sp.pos rfl (Sp_cbe (k_seatedY (o := 34) po34 hVk1 h6 g2' hb1) ?_)
        by_cases z : sit (wI P (k + 1)) b = 0
        · rw [if_pos z]
          rw [if_neg (fun y => y.elim (fun t => t z) hng), Nat.add_zero] at nx
          refine Sp.pos rfl (Sp.ilet ?_)
          rw [nI_1]
          exact nx
        · rw [if_neg z]
          rw [if_pos (Or.inl z)] at nx
          refine Sp.neg (by decide) (Sp.ilet (Sp.ilet ?_))
          rw [nI_1, nI_1]
          exact nx
      refine Sp_cbe ep ?_
      by_cases z : sit (wI P (k + 1)) a = 0
      · rw [if_pos z]
        exact Sp.pos (by decide) (no (fun y => y.1 z))
      · rw [if_neg z]
        have hpN := hVk1.cN (hS a z).2.2
        have e00 : M1 (34 + 11 + b) 0 = nI (wI P (k + 1) 1 b) := g1'.w hb1 0 (by decide)
        have e66 : M1 (34 + 11 + b) 6 = nI (P 7 b) := by rw [← e7]; exact g1'.w hb1 6 (by decide)
        have hfr := fr_lt w1 hpN h60
        refine Sp.neg (nI_pos (by omega)) ?_
        rw [e00]
        refine Sp_cbe (k_far (o := 34) g1' hVk1 w1 hpN) ?_
        rw [e66, e0]
        rw [e0] at hfr
        rw [e7] at w7
        by_cases y : frA (P 10 0) (wI P (k + 1) 1 b) (sit (wI P (k + 1)) a - 1) ≤ P 7 b
        · refine Sp.neg (nI_nlt y (by omega)) ?_
          rw [if_pos (Or.inr ⟨z, y⟩)] at nx
          unfold s0_sitsWhenHeld_106
          refine Sp.neg (by decide) (Sp.ilet (Sp.ilet ?_))
          rw [nI_1, nI_1]
          exact nx
        · exact Sp.pos (nI_lt (by omega) (by omega)) (no (fun t => y t.2))
    · have e : k = m := by omega
      subst e
      exact Sp.pos (nI_le (Nat.le_refl _) (by omega)) (Sp.ret ⟨rfl, KMi.rf⟩)
theorem k_held {n m a b : Nat} {P : PAy} {M : Mem} (c : CP 11 P M) (hV : VA P) (ha : a < P 10 1) (hb : b < P 10 1) (h3 : P 3 b = 1) (hn : 200 < n) (hm : m ≤ 200) : Sp (s0_sitsWhenHeld n 2 (nI a) (nI b) (nI m) M) (fun r M' => r = nI (hlA P a b m) ∧ KMi M M') := by
  have h12 := hV.w12
  unfold s0_sitsWhenHeld
  refine Sp.cb (k_think c hV (by omega)) (fun r M1 g => ?_)
  have hi : inB (nI b) (alen (34 + 9)) := vp_in_nI (N := 12) (by omega) (by decide)
  refine Sp_cbe (k_inY (o := 34) po34 g.1 hV hb) (Sp.neg (by rw [h3]; decide) (Sp.pos hi ?_))
  have el : link (link (link 2 1) 3) (nI b).toNatClampNeg = 34 + 11 + b := by
    rw [nI_clamp (by omega)]; exact lw9 po34 (by omega)
  rw [el]
  exact (k_held41 hV ha hb hn hm n 0 M1 (Nat.zero_le _) (by omega) g.1).mono (fun r M2 z => ⟨z.1, g.2.2.mi.tr z.2⟩)
/-! films -/
/-- the first wrong picture: 0 none -/
noncomputable def fwA (P : PAy) (w : Nat) (F : Nat → Nat) (m : Nat) : Nat := cif (∃ k, FstA (fun j => j < m ∧ wI P (j + 1) 1 w ≠ F j) k) (Classical.epsilon (fun k => FstA (fun j => j < m ∧ wI P (j + 1) 1 w ≠ F j) k) + 1) 0
theorem fwA_some {P : PAy} {w m k : Nat} {F : Nat → Nat} (h1 : k < m) (h2 : wI P (k + 1) 1 w ≠ F k) (h3 : ∀ j, j < k → wI P (j + 1) 1 w = F j) : fwA P w F m = k + 1 := by
  have hF : FstA (fun j => j < m ∧ wI P (j + 1) 1 w ≠ F j) k := ⟨⟨h1, h2⟩, fun u hu z => z.2 (h3 u hu)⟩
  unfold fwA
  rw [cif_pos ⟨k, hF⟩, Fst_eps hF]
theorem fwA_none {P : PAy} {w m : Nat} {F : Nat → Nat} (h3 : ∀ j, j < m → wI P (j + 1) 1 w = F j) : fwA P w F m = 0 := by
  unfold fwA
  rw [cif_neg]
  intro ⟨k, hk⟩
  exact hk.1.2 (h3 k hk.1.1)
theorem k_film27 {n m w : Nat} {P : PAy} {F : Nat → Nat} (hV : VA P) (hw : w < P 10 1) (hn : 60 < n) (hm : m ≤ 60) (hF : ∀ j, j < m → F j < 60) : ∀ (f k : Nat) (M : Mem), k ≤ m → m < k + f → CP 34 (wI P k) M → M 6 1 = nI m → (∀ j, j < m → M 7 j = nI (F j)) → (∀ j, j < k → wI P (j + 1) 1 w = F j) → Sp (s0_firstWrong_27 n 2 (nI w) 6 f (nI k) M) (fun r M' => r = gI (fwA P w F m) ∧ KMi M M') := by
  have h12 := hV.w12
  intro f
  induction f with
  | zero => intro k M h1 h2; omega
  | succ f ih =>
    intro k M h1 h2 c h6 h7 hno
    rw [s0_firstWrong_27, h6]
    by_cases q : k < m
    · have hVk1 := V_wI hV (k + 1)
      have e1 : wI P (k + 1) 10 1 = P 10 1 := wI_keep ⟨by decide, by decide⟩ _
      have hw1 : w < wI P (k + 1) 10 1 := by rw [e1]; exact hw
      have hp := (hVk1.w hw1).1
      have h60 := hVk1.n60
      have hi : inB (nI w) (alen (34 + 9)) := vp_in_nI (N := 12) (by omega) (by decide)
      refine Sp.neg (nI_ge q (by omega)) (Sp.cb (k_walkAll (o := 34) po34 c (V_wI hV k) hn) (fun r M1 g => Sp.pos hi ?_))
      obtain ⟨g1, g2⟩ := g
      have i7 : inB (nI k) (alen 7) := vp_in_nI (N := 60) (by omega) (by decide)
      have ea : s1_at 6 (nI k) M1 = some (nI (F k), M1) := by
        have e6 : M1 6 1 = nI m := by rw [g2 6 (by decide)]; exact h6
        have e7 : M1 (link 6 0) (nI k).toNatClampNeg = nI (F k) := by
          rw [nI_clamp (by omega)]
          show M1 7 k = nI (F k)
          rw [g2 7 (by decide)]; exact h7 k q
        unfold s1_at
        rw [if_neg (nI_pos (by omega)), e6, ite_nge q (by omega), if_pos (show inB (nI k) (alen (link 6 0)) from i7), e7]
      have el : M1 (link (link (link 2 1) 3) (nI w).toNatClampNeg) 0 = nI (wI P (k + 1) 1 w) := by
        have : link (link (link 2 1) 3) (nI w).toNatClampNeg = 34 + 11 + w := by rw [nI_clamp (by omega)]; exact lw9 po34 (by omega)
        rw [this]
        exact CP.w (o := 34) (P := wI P (k + 1)) g1 hw1 0 (by decide)
      refine Sp_cbe ea ?_
      rw [el]
      have hFk := hF k q
      by_cases z : wI P (k + 1) 1 w = F k
      · refine Sp.pos (by rw [z]) (Sp.ilet ?_)
        rw [nI_1]
        exact (ih (k + 1) M1 (by omega) (by omega) g1 (by rw [g2 6 (by decide)]; exact h6) (fun j hj => by rw [g2 7 (by decide)]; exact h7 j hj) (fun j hj => by
          by_cases e : j = k
          · subst e; exact z
          · exact hno j (by omega))).mono (fun r M2 t => ⟨t.1, g2.mi.tr t.2⟩)
      · refine Sp.neg (fun y => z ((nI_eq (by omega) (by omega)).mp y)) (Sp.ret ⟨?_, g2.mi⟩)
        rw [fwA_some q z hno, gI_suc]
    · have e : k = m := by omega
      subst e
      refine Sp.pos (nI_le (Nat.le_refl _) (by omega)) (Sp.ret ⟨?_, KMi.rf⟩)
      rw [fwA_none hno]; rfl
theorem k_wrong {n m w : Nat} {P : PAy} {M : Mem} {F : Nat → Nat} (c : CP 11 P M) (hV : VA P) (hw : w < P 10 1) (h3 : P 3 w = 1) (hn : 60 < n) (hm : m ≤ 60) (hF : ∀ j, j < m → F j < 60) (h6 : M 6 1 = nI m) (h7 : ∀ j, j < m → M 7 j = nI (F j)) : Sp (s0_firstWrong n 2 (nI w) 6 M) (fun r M' => r = gI (fwA P w F m) ∧ KMi M M') := by
  unfold s0_firstWrong
  refine Sp.cb (k_think c hV hn) (fun r M1 g => ?_)
  obtain ⟨g1, g2, g3⟩ := g
  refine Sp_cbe (k_inY (o := 34) po34 g1 hV hw) (Sp.neg (by rw [h3]; decide) ?_)
  exact (k_film27 hV hw hn hm hF n 0 M1 (Nat.zero_le _) (by omega) g1 (by rw [g3 6 (by decide)]; exact h6) (fun j hj => by rw [g3 7 (by decide)]; exact h7 j hj) (fun j hj => by omega)).mono (fun r M2 t => ⟨t.1, g3.mi.tr t.2⟩)
