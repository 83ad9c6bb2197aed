/-! ===== the calls: asked, gone on, stopped, sat ===== -/
theorem c_of {x x2 : Int32} {M : Mem} (hI : IV M) : Ag M IV (s8_of 0 x x2) (s9_of 80 x x2) := by
  refine nrm hI (fun P c r hV ht => ?_)
  have h12 := hV.w12
  rcases plW x hV with ⟨w, hw, rfl⟩ | hx
  · have hww := hV.w hw
    unfold VWa at hww
    have iw : inB (nI w) (alen (link 11 3)) := vp_in_nI (N := 12) (by omega) (by decide)
    have lw : link (link 11 3) (nI w).toNatClampNeg = 22 + w := by rw [nI_clamp (by omega)]; exact lw9 po11 (by omega)
    rcases six x2 (b := 5) (by decide) with ⟨k, hk, rfl⟩ | h2
    · refine ⟨nI (P (1 + k) w), P, hV, ht, ?_, fun N rN => ?_⟩
      · have e := fun j hj => c.w hw j hj
        have t : s7_tell (22 + w) (nI k) M = some (nI (P (1 + k) w), M) := by
          have hc : k = 0 ∨ k = 1 ∨ k = 2 ∨ k = 3 ∨ k = 4 ∨ k = 5 := by omega
          rcases hc with rfl | rfl | rfl | rfl | rfl | rfl
          · exact congrArg (fun z => some (z, M)) (e 0 (by decide))
          · exact congrArg (fun z => some (z, M)) (e 1 (by decide))
          · have e2 : M (22 + w) 2 = nI (P 3 w) := e 2 (by decide)
            show (if M (22 + w) 2 = 0 then some ((0 : Int32), M) else some ((1 : Int32), M)) = _
            rw [e2]
            by_cases z : P 3 w = 0
            · rw [if_pos (by rw [z]; rfl), z]; rfl
            · rw [if_neg (fun t => z ((nI_is0 (by omega)).mp t)), show P 3 w = 1 by omega]; rfl
          · exact congrArg (fun z => some (z, M)) (e 3 (by decide))
          · exact congrArg (fun z => some (z, M)) (e 4 (by decide))
          · exact congrArg (fun z => some (z, M)) (e 5 (by decide))
        unfold s8_of
        rw [show link 0 1 = 11 from rfl, k_kY c hV hw, cb_some, if_neg (by decide), if_neg (nI_pos (n := k) (by omega)), if_pos (show nI k ≤ (5 : Int32) from nI_le (b := 5) hk (by decide)), if_pos iw, lw, t, cb_some]
        exact Sp.ret ⟨rfl, c, FPg.rf⟩
      · have e := fun i hi => rN.rowc i (j := w) hi (by omega)
        have i12 : ∀ q, alen q = 12 → inB (nI w) (alen q) := fun q hq => by rw [hq]; exact vp_in_nI (by omega) (by decide)
        unfold s9_of
        rw [r_isWalkerY rN hV hw, cb_some, if_neg (by decide)]
        have hc : k = 0 ∨ k = 1 ∨ k = 2 ∨ k = 3 ∨ k = 4 ∨ k = 5 := by omega
        rcases hc with rfl | rfl | rfl | rfl | rfl | rfl
        · exact Sp.pos rfl (Sp.pos (i12 _ rfl) (Sp.ret ⟨e 0 (by decide), rN, FRg.rf⟩))
        · exact Sp.neg (by decide) (Sp.pos rfl (Sp.pos (i12 _ rfl) (Sp.ret ⟨e 1 (by decide), rN, FRg.rf⟩)))
        · exact Sp.neg (by decide) (Sp.neg (by decide) (Sp.pos rfl (Sp.pos (i12 _ rfl) (Sp.ret ⟨e 2 (by decide), rN, FRg.rf⟩))))
        · exact Sp.neg (by decide) (Sp.neg (by decide) (Sp.neg (by decide) (Sp.pos rfl (Sp.pos (i12 _ rfl) (Sp.ret ⟨e 3 (by decide), rN, FRg.rf⟩)))))
        · exact Sp.neg (by decide) (Sp.neg (by decide) (Sp.neg (by decide) (Sp.neg (by decide) (Sp.pos rfl (Sp.pos (i12 _ rfl) (Sp.ret ⟨e 4 (by decide), rN, FRg.rf⟩))))))
        · exact Sp.neg (by decide) (Sp.neg (by decide) (Sp.neg (by decide) (Sp.neg (by decide) (Sp.neg (by decide) (Sp.pos rfl (Sp.pos (i12 _ rfl) (Sp.ret ⟨e 5 (by decide), rN, FRg.rf⟩)))))))
    · refine ⟨-2, P, hV, ht, ?_, fun N rN => ?_⟩
      · unfold s8_of
        rw [show link 0 1 = 11 from rfl, k_kY c hV hw, cb_some, if_neg (by decide)]
        by_cases a : x2 < 0
        · rw [if_pos a]
          exact SA_ref (x := 2) c h12 FPg.rf (by decide)
        · rw [if_neg a, if_neg (show ¬ x2 ≤ 5 from h2.elim (fun t => absurd t a) id)]
          exact SA_ref (x := 2) c h12 FPg.rf (by decide)
      · have ne : ∀ k : Nat, k ≤ 5 → ¬ x2 = nI k := fun k hk e => by
          rw [e] at h2
          exact h2.elim (nI_pos (by omega)) (fun t => t (nI_le hk (by decide)))
        unfold s9_of
        rw [r_isWalkerY rN hV hw, cb_some, if_neg (by decide)]
        exact Sp.neg (ne 0 (by decide)) (Sp.neg (ne 1 (by decide)) (Sp.neg (ne 2 (by decide)) (Sp.neg (ne 3 (by decide)) (Sp.neg (ne 4 (by decide)) (Sp.neg (ne 5 (by decide)) (SB_no rN FRg.rf (by decide)))))))
  · refine ⟨-1, P, hV, ht, ?_, fun N rN => ?_⟩
    · unfold s8_of
      rw [show link 0 1 = 11 from rfl, (k_kN c hx).1, cb_some, if_pos rfl]
      exact SA_ref (x := 1) c h12 FPg.rf (by decide)
    · unfold s9_of
      rw [r_isWalkerN rN hx, cb_some, if_pos rfl]
      exact SB_no rN FRg.rf (by decide)
theorem c_has {x : Int32} {M : Mem} (hI : IV M) : Ag M IV (s8_has 0 x) (s9_has 80 x) := by
  refine nrm hI (fun P c r hV ht => ?_)
  have h60 := hV.n60
  rcases pl0 x hV with ⟨p, hp, rfl⟩ | hx
  · have hc := hV.c1 p
    refine ⟨nI (P 0 p), P, hV, ht, ?_, fun N rN => ?_⟩
    · unfold s8_has
      rw [show link (link 0 1) 0 = 11 + 1 from rfl, k_isPlY c hV hp, cb_some, if_neg (by decide), k_hasChair po11 c hV (by omega), cb_some]
      by_cases z : P 0 p = 0
      · rw [if_pos (by rw [z]; rfl), z]
        exact Sp.ret ⟨rfl, c, FPg.rf⟩
      · rw [if_neg (fun t => z ((nI_is0 (by omega)).mp t)), show P 0 p = 1 by omega]
        exact Sp.ret ⟨rfl, c, FPg.rf⟩
    · unfold s9_has
      rw [r_isPlaceY rN hV hp, cb_some, if_neg (by decide)]
      exact Sp.pos (show inB (nI p) (alen (link 80 1)) from vp_in_nI (N := 60) (by omega) (by decide)) (Sp.ret ⟨rN.chc (by omega), rN, FRg.rf⟩)
  · refine ⟨-1, P, hV, ht, ?_, fun N rN => ?_⟩
    · unfold s8_has
      rw [show link (link 0 1) 0 = 11 + 1 from rfl, k_isPlN c hx, cb_some, if_pos rfl]
      exact SA_ref (x := 1) c hV.w12 FPg.rf (by decide)
    · unfold s9_has
      rw [r_isPlaceN rN hx, cb_some, if_pos rfl]
      exact SB_no rN FRg.rf (by decide)
theorem frA_60 {N a b : Nat} (h : N ≤ 60) : frA N a b ≤ 60 := by
  unfold frA
  by_cases q : wy2 a b ≤ N - wy2 a b
  · rw [if_pos q]; omega
  · rw [if_neg q]; omega
theorem c_haste {n : Nat} {x x2 : Int32} {M : Mem} (hI : IV M) : Ag M IV (s8_haste n 0 x x2) (s9_haste n 80 x x2) := by
  refine nrm hI (fun P c r hV ht => ?_)
  have h60 := hV.n60
  have h12 := hV.w12
  rcases plW x hV with ⟨w, hw, rfl⟩ | hx
  · have hww := hV.w hw
    unfold VWa at hww
    have iw : inB (nI w) (alen (link 11 3)) := vp_in_nI (N := 12) (by omega) (by decide)
    have lw : link (link 11 3) (nI w).toNatClampNeg = 11 + 11 + w := by rw [nI_clamp (by omega)]; exact lw9 po11 (by omega)
    rcases pl0 x2 hV with ⟨p, hp, rfl⟩ | hx2
    · refine ⟨nI (hst P w p), P, hV, ht, ?_, fun N rN => ?_⟩
      · unfold s8_haste
        rw [show link (link 0 1) 0 = 11 + 1 from rfl, show link 0 1 = 11 from rfl, k_kY c hV hw, cb_some, if_neg (by decide), k_isPlY c hV hp, cb_some, if_neg (by decide), if_pos iw, lw, c.w hw 0 (by decide), k_far c hV hww.1 hp, cb_some, k_haste c hV hw (frA_60 h60), cb_some]
        exact Sp.ret ⟨rfl, c, FPg.rf⟩
      · unfold s9_haste
        rw [r_isWalkerY rN hV hw, cb_some, if_neg (by decide), r_isPlaceY rN hV hp, cb_some, if_neg (by decide), r_hasteOf rN hV hw hp, cb_some]
        exact Sp.ret ⟨rfl, rN, FRg.rf⟩
    · refine ⟨-1, P, hV, ht, ?_, fun N rN => ?_⟩
      · unfold s8_haste
        rw [show link (link 0 1) 0 = 11 + 1 from rfl, show link 0 1 = 11 from rfl, k_kY c hV hw, cb_some, if_neg (by decide), k_isPlN c hx2, cb_some, if_pos rfl]
        exact SA_ref (x := 1) c hV.w12 FPg.rf (by decide)
      · unfold s9_haste
        rw [r_isWalkerY rN hV hw, cb_some, if_neg (by decide), r_isPlaceN rN hx2, cb_some, if_pos rfl]
        exact SB_no rN FRg.rf (by decide)
  · refine ⟨-1, P, hV, ht, ?_, fun N rN => ?_⟩
    · unfold s8_haste
      rw [show link 0 1 = 11 from rfl, (k_kN c hx).1, cb_some, if_pos rfl]
      exact SA_ref (x := 1) c hV.w12 FPg.rf (by decide)
    · unfold s9_haste
      rw [r_isWalkerN rN hx, cb_some, if_pos rfl]
      exact SB_no rN FRg.rf (by decide)
noncomputable def goA (P : PAy) : Nat → Int32 × PAy
  | 0 => (0, P)
  | k + 1 => cif (stb (tck P)) (if er (tck P) 10 8 = 0 then 1 else 2, er (tck P)) (goA (tck P) k)
theorem tck_on {P : PAy} (hV : VA P) (ht : P 10 6 ≤ 299) (ho : ¬ ovr P) (hs : ¬ stb (tck P)) : VA (tck P) ∧ tck P 10 6 ≤ 299 ∧ ¬ ovr (tck P) := by
  have g := go1_step hV ht ho
  have e : go1 P = tck P := cif_neg hs
  rw [e] at g
  refine ⟨g.1, g.2.1, fun z => ?_⟩
  have := g.2.2.1.mp z
  rw [tck_facts.1] at this
  have := (notovr hV ho).1
  omega
theorem goA_V {P : PAy} (hV : VA P) (ht : P 10 6 ≤ 299) (ho : ¬ ovr P) : ∀ k, VA (goA P k).2 ∧ (goA P k).2 10 6 ≤ 299 := by
  intro k
  induction k generalizing P with
  | zero => exact ⟨hV, ht⟩
  | succ k ih =>
    unfold goA
    by_cases q : stb (tck P)
    · rw [cif_pos q]
      exact ⟨V_er (V_tck hV ht), by show er (tck P) 10 6 ≤ 299; rw [er_6]; omega⟩
    · rw [cif_neg q]
      obtain ⟨a, b, d⟩ := tck_on hV ht ho q
      exact ih a b d
theorem k_go {n m : Nat} (hm : m ≤ 300) (hn : 4000 < n) : ∀ (f i : Nat) (P : PAy) (M : Mem), i ≤ m → m < i + f → CP 11 P M → VA P → P 10 6 ≤ 299 → ¬ ovr P → SA M (goA P (m - i)).2 (goA P (m - i)).1 (s8_go_35 n 0 (nI m) f (nI i) M) := by
  intro f
  induction f with
  | zero => intro i P M h1 h2; omega
  | succ f ih =>
    intro i P M h1 h2 c hV ht ho
    rw [s8_go_35]
    by_cases q : i = m
    · subst q
      rw [show i - i = 0 by omega]
      exact Sp.pos (nI_le (Nat.le_refl _) (by omega)) (Sp.ret ⟨rfl, c, FPg.rf⟩)
    · obtain ⟨o8, o2, or, oW⟩ := notovr hV ho
      rw [show m - i = (m - (i + 1)) + 1 by omega]
      refine Sp.neg (nI_ge (by omega) (by omega)) (Sp.cb (k_passTenth po11 c hV ht oW (by omega)) (fun r M1 t => ?_))
      obtain ⟨t1, t2, t3⟩ := t
      rw [t1]
      unfold goA
      by_cases s : stb (tck P)
      · rw [cif_pos s]
        have hT := V_tck hV ht
        obtain ⟨f8, fi, fr, f1⟩ := tck_facts (P := P)
        refine Sp.neg (fun z => (stqI_0.mp z) s) (Sp.cb (k_endRound po11 t2 hT (by omega) (by omega) (by omega) (by omega)) (fun r2 M2 u => ?_))
        have e9 : M2 (link 0 1) 9 = nI (er (tck P) 10 8) := u.2.1.2.2.2.1.2.2.2.2
        have l1 := (V_er hT).s.2.2.2.2
        rw [e9]
        have fr2 : FPg M M2 := (t3.fp).tr u.2.2.fp
        by_cases z : er (tck P) 10 8 = 0
        · exact Sp.pos (by rw [z]; rfl) (Sp.ret ⟨(if_pos z).symm, u.2.1, fr2⟩)
        · exact Sp.neg (fun y => z ((nI_is0 (by omega)).mp y)) (Sp.ret ⟨(if_neg z).symm, u.2.1, fr2⟩)
      · rw [cif_neg s]
        obtain ⟨a, b, d⟩ := tck_on hV ht ho s
        refine Sp.pos (stqI_0.mpr s) (Sp.ilet ?_)
        rw [nI_1]
        exact (ih (i + 1) (tck P) M1 (by omega) (by omega) t2 a b d).mono (fun _ _ w => ⟨w.1, w.2.1, t3.fp.tr w.2.2⟩)
theorem r_go {n m : Nat} (hm : m ≤ 300) (hn : 4000 < n) : ∀ (f i : Nat) (P : PAy) (M : Mem), i ≤ m → m < i + f → RP P M → VA P → P 10 6 ≤ 299 → ¬ ovr P → SB M (goA P (m - i)).2 (goA P (m - i)).1 (s9_go_35 n 80 (nI m) f (nI i) M) := by
  intro f
  induction f with
  | zero => intro i P M h1 h2; omega
  | succ f ih =>
    intro i P M h1 h2 c hV ht ho
    rw [s9_go_35]
    by_cases q : i = m
    · subst q
      rw [show i - i = 0 by omega]
      exact Sp.pos (nI_le (Nat.le_refl _) (by omega)) (Sp.ret ⟨rfl, c, FRg.rf⟩)
    · obtain ⟨o8, o2, or, oW⟩ := notovr hV ho
      rw [show m - i = (m - (i + 1)) + 1 by omega]
      refine Sp.neg (nI_ge (by omega) (by omega)) (Sp.cb (r_goesOn c hV ht oW (by omega)) (fun r M1 t => ?_))
      obtain ⟨t1, t2, t3⟩ := t
      rw [t1]
      unfold goA
      by_cases s : stb (tck P)
      · rw [cif_pos s]
        have hT := V_tck hV ht
        have eg : go1 P = er (tck P) := cif_pos s
        rw [eg] at t2
        have l1 := (V_er hT).s.2.2.2.2
        have e9 : M1 80 19 = nI (er (tck P) 10 8) := t2.one 8 (by decide)
        refine Sp.neg (fun z => (stqI_0.mp z) s) ?_
        rw [e9]
        by_cases z : er (tck P) 10 8 = 0
        · exact Sp.neg (by rw [z]; decide) (Sp.ret ⟨(if_pos z).symm, t2, t3.fr⟩)
        · exact Sp.pos (show nI (er (tck P) 10 8) = 1 by rw [show er (tck P) 10 8 = 1 by omega]; rfl) (Sp.ret ⟨(if_neg z).symm, t2, t3.fr⟩)
      · rw [cif_neg s]
        have eg : go1 P = tck P := cif_neg s
        rw [eg] at t2
        obtain ⟨a, b, d⟩ := tck_on hV ht ho s
        refine Sp.pos (stqI_0.mpr s) (Sp.ilet ?_)
        rw [nI_1]
        exact (ih (i + 1) (tck P) M1 (by omega) (by omega) t2 a b d).mono (fun _ _ w => ⟨w.1, w.2.1, t3.fr.tr w.2.2⟩)
theorem c_go {n : Nat} {x : Int32} {M : Mem} (hn : 4000 < n) (hI : IV M) : Ag M IV (s8_go n 0 x) (s9_go n 80 x) := by
  refine nrm hI (fun P c r hV ht => ?_)
  have h12 := hV.w12
  by_cases o : ovr P
  · refine ⟨-3, P, hV, ht, ?_, fun N rN => ?_⟩
    · unfold s8_go s8_go_22
      rw [show link 0 1 = 11 from rfl, k_canGoOn po11 c hV (by omega), cif_pos o, cb_some, if_pos rfl, if_neg (by decide)]
      exact SA_ref (x := 3) c h12 FPg.rf (by decide)
    · unfold s9_go
      rw [r_isOver rN hV (by omega), cif_pos o, cb_some, if_neg (by decide)]
      exact SB_no rN FRg.rf (by decide)
  · have eA : s8_go n 0 x M = if wy x 1 300 = 0 then s8_go_35 n 0 x n 0 M else cb (s8_refuse 0 (wy x 1 300) M) (fun r M' => some (r, M')) := by
      unfold s8_go s8_go_22
      rw [show link 0 1 = 11 from rfl, k_canGoOn po11 c hV (by omega), cif_neg o, cb_some, if_neg (by decide), k_within, cb_some]
    have eB : ∀ N, RP P N → s9_go n 80 x N = if -wy x 1 300 = 0 then s9_go_35 n 80 x n 0 N else cb (s9_no 80 (-wy x 1 300) N) (fun r M' => some (r, M')) := fun N rN => by
      unfold s9_go
      rw [r_isOver rN hV (by omega), cif_neg o, cb_some, if_pos rfl, k_bound, cb_some]
    by_cases a : wy x 1 300 = 0
    · obtain ⟨m, m1, m2, rfl⟩ := inI1 (b := 300) (by decide) a
      obtain ⟨v1, v2⟩ := goA_V hV ht o m
      refine ⟨(goA P m).1, (goA P m).2, v1, v2, ?_, fun N rN => ?_⟩
      · rw [eA, if_pos a]
        exact k_go m2 hn n 0 P M (Nat.zero_le _) (by omega) c hV ht o
      · rw [eB N rN, if_pos (by rw [a]; decide)]
        exact r_go m2 hn n 0 P N (Nat.zero_le _) (by omega) rN hV ht o
    · refine ⟨-wy x 1 300, P, hV, ht, ?_, fun N rN => ?_⟩
      · rw [eA, if_neg a]
        exact SA_ref c h12 FPg.rf (wy_ref a)
      · rw [eB N rN, if_neg (wy_neg a)]
        exact SB_no rN FRg.rf (wy_no a)
theorem c_stop {n : Nat} {M : Mem} (hn : 4000 < n) (hI : IV M) : Ag M IV (s8_stop n 0) (s9_stop n 80) := by
  refine nrm hI (fun P c r hV ht => ?_)
  by_cases o : ovr P
  · refine ⟨-3, P, hV, ht, ?_, fun N rN => ?_⟩
    · unfold s8_stop
      rw [show link 0 1 = 11 from rfl, k_canGoOn po11 c hV (by omega), cif_pos o, cb_some, if_pos rfl]
      exact SA_ref (x := 3) c hV.w12 FPg.rf (by decide)
    · unfold s9_stop
      rw [r_isOver rN hV (by omega), cif_pos o, cb_some, if_neg (by decide)]
      exact SB_no rN FRg.rf (by decide)
  · obtain ⟨o8, o2, or, oW⟩ := notovr hV o
    refine ⟨gI (goer P), er P, V_er hV, by rw [er_6]; omega, ?_, fun N rN => ?_⟩
    · unfold s8_stop
      rw [show link 0 1 = 11 from rfl, k_canGoOn po11 c hV (by omega), cif_neg o, cb_some, if_neg (by decide)]
      exact Sp.cb (k_endRound po11 c hV o8 o2 or (by omega)) (fun _ _ t => Sp.ret ⟨t.1, t.2.1, t.2.2.fp⟩)
    · unfold s9_stop
      rw [r_isOver rN hV (by omega), cif_neg o, cb_some, if_pos rfl]
      exact Sp.cb (r_stops rN hV (by omega)) (fun _ _ t => Sp.ret ⟨t.1, t.2.1, t.2.2.fr⟩)
theorem c_sits {n : Nat} {x : Int32} {M : Mem} (hn : 4000 < n) (hI : IV M) : Ag M IV (s8_sits n 0 x) (s9_sits n 80 x) := by
  refine nrm hI (fun P c r hV ht => ?_)
  have h12 := hV.w12
  have no : ∀ y : Int32, s2_knowsIn 11 x M = some (0, M) → (∀ N, RP P N → s9_isThere 80 x N = some (0, N)) → SA M P (-1) (s8_sits n 0 x M) ∧ ∀ N, RP P N → SB N P (-1) (s9_sits n 80 x N) := fun _ h1 h2 => by
    refine ⟨?_, fun N rN => ?_⟩
    · unfold s8_sits
      rw [show link 0 1 = 11 from rfl, h1, cb_some, if_pos rfl]
      exact SA_ref (x := 1) c h12 FPg.rf (by decide)
    · unfold s9_sits
      rw [h2 N rN, cb_some, if_pos rfl]
      exact SB_no rN FRg.rf (by decide)
  rcases plW x hV with ⟨w, hw, rfl⟩ | hx
  · have hww := hV.w hw
    unfold VWa at hww
    by_cases q : P 3 w = 0
    · have := no 0 (by rw [k_inY po11 c hV hw, q]; rfl) (fun N rN => by rw [r_isThereY rN hV hw, q]; rfl)
      exact ⟨-1, P, hV, ht, this.1, this.2⟩
    · have h3 : P 3 w = 1 := by omega
      have s6 : S60 (sit P) := (SV_sit hV).s60 hV
      refine ⟨gI (sit P w), P, hV, ht, ?_, fun N rN => ?_⟩
      · unfold s8_sits
        rw [show link (link 0 1) 2 = 11 + 5 from rfl, show link (link 0 1) 0 = 11 + 1 from rfl, show link 0 1 = 11 from rfl, k_inY po11 c hV hw, h3, cb_some]
        refine Sp.neg (by decide) (Sp.cb (k_seatAll po11 c hV (by omega)) (fun _ M1 g => ?_))
        have cM := g.2.cp c
        unfold s5_placeOf
        rw [k_seatedY po11 hV s6 g.1 hw, cb_some]
        by_cases z : sit P w = 0
        · rw [if_pos z, if_pos rfl, cb_some]
          exact Sp.ret ⟨by rw [z]; rfl, cM, g.2.kf.fp⟩
        · obtain ⟨-, -, p1⟩ := SV_sit hV w z
          have e6 : M1 (link (11 + 5) 0) (nI w).toNatClampNeg = nI (rk P (sit P w - 1)) := by
            rw [nI_clamp (by omega)]
            exact (g.1.2.2 w hw).trans (if_neg z)
          rw [if_neg z, if_neg (by decide), if_pos (show inB (nI w) (alen (link (11 + 5) 0)) from vp_in_nI (N := 12) (by omega) (by decide)), e6, k_place po11 cM hV p1, cb_some, cb_some]
          exact Sp.ret ⟨(if_neg z).symm, cM, g.2.kf.fp⟩
      · unfold s9_sits
        rw [r_isThereY rN hV hw, h3, cb_some]
        refine Sp.neg (by decide) (Sp.cb (r_sit rN hV (by omega)) (fun _ N1 g => ?_))
        have i33 : inB (nI w) (alen (link 80 33)) := vp_in_nI (N := 12) (by omega) (by decide)
        have e33 : N1 (link 80 33) (nI w).toNatClampNeg = sI (sit P w) := by rw [nI_clamp (by omega)]; exact g.1 w hw
        have f : FRg N N1 := g.2.RF.fr
        have rP := g.2.rp rN
        refine Sp.pos i33 ?_
        rw [e33]
        by_cases z : sit P w = 0
        · rw [z]
          exact Sp.neg (by decide) (Sp.ret ⟨rfl, rP, f⟩)
        · have := s6 w
          have e : sI (sit P w) = nI (sit P w - 1) := if_neg z
          rw [e]
          exact Sp.pos (nI_pos' (by omega)) (Sp.pos i33 (Sp.ret ⟨(if_neg z).symm, rP, f⟩))
  · have := no 0 (k_kN c hx).2 (fun N rN => r_isThereN rN hx)
    exact ⟨-1, P, hV, ht, this.1, this.2⟩
