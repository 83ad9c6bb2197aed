/-! ===== the calls: what is thought ===== -/
theorem nrmhI {A B : Mem → Option Res} {M : Mem} (hI : IV M) (h : ∀ P, CP 11 P M → RP P M → VA P → P 10 6 ≤ 299 → Sp (A M) (fun _ M1 => CP 11 P M1 ∧ FPg M M1) ∧ ∀ N, RP P N → Sp (B N) (fun _ M2 => RP P M2 ∧ FRg N M2)) : Ah M A B := nrmh hI h
theorem SA.un {M : Mem} {P : PAy} {a : Int32} {E : Option Res} (h : SA M P a E) : Sp E (fun _ M1 => CP 11 P M1 ∧ FPg M M1) := h.mono (fun _ _ t => t.2)
theorem SB.un {M : Mem} {P : PAy} {a : Int32} {E : Option Res} (h : SB M P a E) : Sp E (fun _ M1 => RP P M1 ∧ FRg M M1) := h.mono (fun _ _ t => t.2)
theorem c_would {n : Nat} {x : Int32} {M : Mem} (hn : 4000 < n) (hI : IV M) : Ah M (s8_would n 0 x) (s9_would n 80 x) := by
  refine nrmh hI (fun P c r hV ht => ?_)
  have h12 := hV.w12
  have h11 := hV.c11
  refine ⟨?_, fun N rN => ?_⟩
  · unfold s8_would
    by_cases a : x < 0
    · rw [if_pos a]; exact (SA_ref (x := 2) c h12 FPg.rf (by decide)).un
    · rw [if_neg a]
      by_cases b : x ≤ 1
      · rw [if_pos b, show link (link 0 1) 2 = 11 + 5 from rfl, show link (link 0 1) 0 = 11 + 1 from rfl, show link 0 1 = 11 from rfl]
        refine Sp.cb (k_seatAll po11 c hV (by omega)) (fun _ M1 g => ?_)
        have cM := g.2.cp c
        have fM : FPg M M1 := g.2.kf.fp
        rw [k_whoGoes po11 cM hV ((SV_sit hV).s60 hV) g.1 (by omega), cb_some]
        by_cases z : x = 0
        · exact Sp.pos z (Sp.ret ⟨cM, fM⟩)
        · refine Sp.neg z ?_
          have el : s2_losesChair 11 (gI (gon P (sit P) (P 10 1))) M1 = some (if gI (gon P (sit P) (P 10 1)) < 0 then 0 else if nI (rk P 60) ≤ 1 then 0 else 1, M1) := by
            unfold s2_losesChair
            rw [show link 11 0 = 11 + 1 from rfl, cM.cs]
            by_cases q1 : gI (gon P (sit P) (P 10 1)) < 0
            · rw [if_pos q1, if_pos q1]
            · rw [if_neg q1, if_neg q1]
              by_cases q2 : nI (rk P 60) ≤ 1
              · rw [if_pos q2, if_pos q2]
              · rw [if_neg q2, if_neg q2]
          rw [el, cb_some]
          by_cases q1 : gI (gon P (sit P) (P 10 1)) < 0
          · rw [if_pos q1]; exact Sp.pos rfl (Sp.ret ⟨cM, fM⟩)
          · rw [if_neg q1]
            by_cases q2 : nI (rk P 60) ≤ 1
            · rw [if_pos q2]; exact Sp.pos rfl (Sp.ret ⟨cM, fM⟩)
            · rw [if_neg q2]
              have : ¬ rk P 60 ≤ 1 := fun t => q2 (nI_le (b := 1) t (by decide))
              refine Sp.neg (by decide) ?_
              rw [show M1 11 6 = nI (P 10 4) from cM.2.2.2.1.2.1, k_leaving po11 cM hV (by omega) (by omega), cb_some]
              exact Sp.ret ⟨cM, fM⟩
      · rw [if_neg b]; exact (SA_ref (x := 2) c h12 FPg.rf (by decide)).un
  · unfold s9_would
    rw [k_isIn, cb_some]
    by_cases a : (0 : Int32) ≤ x ∧ x ≤ 1
    · rw [if_pos a, if_neg (by decide)]
      by_cases z : x = 1
      · rw [if_pos z, r_leaver rN hV (by omega), cb_some]
        exact Sp.ret ⟨rN, FRg.rf⟩
      · rw [if_neg z]
        refine Sp.cb (r_sit rN hV (by omega)) (fun _ N1 g => ?_)
        have rP := g.2.rp rN
        rw [r_goer rP hV g.1 ((SV_sit hV).s60 hV) (by omega), cb_some]
        exact Sp.ret ⟨rP, g.2.RF.fr⟩
    · rw [if_neg a, if_pos rfl]; exact (SB_no rN FRg.rf (by decide)).un
theorem ps_self {P : PAy} {i j : Nat} : pset P i j (P i j) = P := by
  funext a b
  unfold pset
  by_cases q : a = i ∧ b = j
  · rw [if_pos q, q.1, q.2]
  · rw [if_neg q]
theorem wIn {P : PAy} {w : Nat} (hV : VA P) (hw : w < P 10 1) : P 3 w = 0 ∨ P 3 w = 1 := by
  have hww := hV.w hw
  unfold VWa at hww
  omega
theorem c_odds {n : Nat} {x x2 : Int32} {M : Mem} (hn : 4000 < n) (hI : IV M) : Ag M IV (s8_odds n 0 x x2) (s9_odds n 80 x x2) := by
  refine nrm hI (fun P c r hV ht => ?_)
  have h12 := hV.w12
  have no : s2_knowsIn 11 x M = some (0, M) → (∀ N, RP P N → s9_isThere 80 x N = some (0, N)) → SA M P (-1) (s8_odds n 0 x x2 M) ∧ ∀ N, RP P N → SB N P (-1) (s9_odds n 80 x x2 N) := fun h1 h2 => by
    refine ⟨?_, fun N rN => ?_⟩
    · unfold s8_odds s8_odds_23
      rw [show link 0 1 = 11 from rfl, h1, cb_some, if_pos rfl, if_neg (by decide)]
      exact SA_ref (x := 1) c h12 FPg.rf (by decide)
    · unfold s9_odds s9_notOdds
      rw [h2 N rN, cb_some, if_pos rfl, cb_some, if_neg (by decide)]
      exact SB_no rN FRg.rf (by decide)
  rcases plW x hV with ⟨w, hw, rfl⟩ | hx
  · rcases wIn hV hw with q | h3
    · have := no (by rw [k_inY po11 c hV hw, q]; rfl) (fun N rN => by rw [r_isThereY rN hV hw, q]; rfl)
      exact ⟨-1, P, hV, ht, this.1, this.2⟩
    · have hww := hV.w hw
      unfold VWa at hww
      have iw : inB (nI w) (alen (link 11 3)) := vp_in_nI (N := 12) (by omega) (by decide)
      have lw : link (link 11 3) (nI w).toNatClampNeg = 11 + 11 + w := by rw [nI_clamp (by omega)]; exact lw9 po11 (by omega)
      have eA : s8_odds n 0 (nI w) x2 M = if wy x2 1 200 = 0 then cb (s0_oddsAt n 2 (nI w) x2 (nI (P 6 w)) M) (fun r5 M4 => some (r5, M4)) else cb (s8_refuse 0 (wy x2 1 200) M) (fun r M' => some (r, M')) := by
        unfold s8_odds s8_odds_23
        rw [show link 0 1 = 11 from rfl, k_inY po11 c hV hw, h3, cb_some, if_neg (by decide), k_within, cb_some, if_pos iw, lw, c.w hw 5 (by decide)]
        rfl
      have eB : ∀ N, RP P N → s9_odds n 80 (nI w) x2 N = if -wy x2 1 200 = 0 then cb (s9_oddsOf n 80 (nI w) x2 N) (fun r M' => some (r, M')) else cb (s9_no 80 (-wy x2 1 200) N) (fun r M' => some (r, M')) := fun N rN => by
        unfold s9_odds s9_notOdds
        rw [r_isThereY rN hV hw, h3, cb_some, if_neg (by decide), k_bound, cb_some, cb_some]
      by_cases a : wy x2 1 200 = 0
      · obtain ⟨m, m1, m2, rfl⟩ := inI1 (b := 200) (by decide) a
        refine ⟨nI (cnA P w m), P, hV, ht, ?_, fun N rN => ?_⟩
        · rw [eA, if_pos a]
          refine Sp.cb (k_oddsAt c hV hw hww.2.2.2.2.2.1.1 hww.2.2.2.2.2.1.2 (by omega) m2) (fun _ M1 t => Sp.ret ⟨?_, t.2.cp (Or.inl rfl) c h12, t.2.fp⟩)
          rw [t.1 h3, ps_self]
        · rw [eB N rN, if_pos (by rw [a]; decide)]
          exact Sp.cb (r_oddsOf rN hV hw (by omega) m2) (fun _ _ t => Sp.ret ⟨t.1, t.2.1, t.2.2.fr⟩)
      · refine ⟨-wy x2 1 200, P, hV, ht, ?_, fun N rN => ?_⟩
        · rw [eA, if_neg a]
          exact SA_ref c h12 FPg.rf (wy_ref a)
        · rw [eB N rN, if_neg (wy_neg a)]
          exact SB_no rN FRg.rf (wy_no a)
  · have := no (k_kN c hx).2 (fun N rN => r_isThereN rN hx)
    exact ⟨-1, P, hV, ht, this.1, this.2⟩
theorem c_fair {n : Nat} {x : Int32} {M : Mem} (hn : 4000 < n) (hI : IV M) : Ag M IV (s8_fair n 0 x) (s9_fair n 80 x) := by
  refine nrm hI (fun P c r hV ht => ?_)
  have h12 := hV.w12
  by_cases a : wy x 1 200 = 0
  · obtain ⟨m, m1, m2, rfl⟩ := inI1 (b := 200) (by decide) a
    refine ⟨nI (frI P m), P, hV, ht, ?_, fun N rN => ?_⟩
    · unfold s8_fair
      rw [k_within, a, cb_some, if_pos rfl]
      exact Sp.cb (k_fair c hV (by omega) m2) (fun _ M1 t => Sp.ret ⟨t.1, t.2.cp (Or.inl rfl) c h12, t.2.fp⟩)
    · unfold s9_fair
      rw [k_bound, a, cb_some, if_pos (by decide)]
      refine Sp.cb (r_findOdds (a := 0) (b := 0) rN hV (by omega) m2 (Or.inl rfl)) (fun _ N1 t => ?_)
      have e := r_fair34 (n := n) t.1 hV m2 t.2.2.1 n 0 (-1) 0 (Nat.zero_le _) (by omega) rfl rfl
      exact ⟨_, _, e, rfl, t.1, t.2.1.fr⟩
  · refine ⟨-wy x 1 200, P, hV, ht, ?_, fun N rN => ?_⟩
    · unfold s8_fair
      rw [k_within, cb_some, if_neg a]
      exact SA_ref c h12 FPg.rf (wy_ref a)
    · unfold s9_fair
      rw [k_bound, cb_some, if_neg (wy_neg a)]
      exact SB_no rN FRg.rf (wy_no a)
theorem r_notOdds {P : PAy} {N : Mem} {x x2 : Int32} (hV : VA P) (rN : RP P N) : ∃ y, s9_notOdds 80 x x2 N = some (y, N) ∧ ((y = -1 ∨ y = -4 ∨ y = -6) ∨ (y = 0 ∧ ∃ w m, w < P 10 1 ∧ x = nI w ∧ m ≤ 200 ∧ x2 = nI m)) := by
  unfold s9_notOdds
  rcases plW x hV with ⟨w, hw, rfl⟩ | hx
  · rcases wIn hV hw with q | h3
    · refine ⟨-1, ?_, Or.inl (Or.inl rfl)⟩
      rw [r_isThereY rN hV hw, q, cb_some, if_pos (show nI 0 = 0 from rfl)]
    · refine ⟨-wy x2 1 200, ?_, ?_⟩
      · rw [r_isThereY rN hV hw, h3, cb_some, if_neg (by decide), k_bound, cb_some]
      · by_cases a : wy x2 1 200 = 0
        · obtain ⟨m, m1, m2, rfl⟩ := inI1 (b := 200) (by decide) a
          exact Or.inr ⟨by rw [a]; decide, w, m, hw, rfl, m2, rfl⟩
        · rcases wy3 (x := x2) (a := 1) (b := 200) with q | q | q
          · exact absurd q a
          · exact Or.inl (Or.inr (Or.inl (by rw [q])))
          · exact Or.inl (Or.inr (Or.inr (by rw [q])))
  · refine ⟨-1, ?_, Or.inl (Or.inl rfl)⟩
    rw [r_isThereN rN hx, cb_some, if_pos rfl]
theorem c_bestSlow {n : Nat} {x x2 : Int32} {M : Mem} (hn : 4000 < n) (hI : IV M) : Ah M (s8_bestSlow n 0 x x2) (s9_bestSlow n 80 x x2) := by
  refine nrmh hI (fun P c r hV ht => ?_)
  have h12 := hV.w12
  refine ⟨?_, fun N rN => ?_⟩
  · unfold s8_bestSlow s8_bestSlow_23
    rw [show link 0 1 = 11 from rfl]
    rcases plW x hV with ⟨w, hw, rfl⟩ | hx
    · rw [k_kY c hV hw, cb_some, if_neg (by decide), k_within, cb_some]
      by_cases a : wy x2 1 200 = 0
      · obtain ⟨m, m1, m2, rfl⟩ := inI1 (b := 200) (by decide) a
        rw [if_pos a]
        unfold s0_slowOfGreatestOdds
        exact Sp.cb (k_best10 (m := m) (w := w) hV hw (by omega) m2 n 1 10 (-1) M (by omega) (by omega) (by omega) c) (fun _ M1 t => Sp.ret ⟨t.cp (Or.inl rfl) c h12, t.fp⟩)
      · rw [if_neg a]; exact (SA_ref c h12 FPg.rf (wy_ref a)).un
    · rw [(k_kN c hx).1, cb_some, if_pos rfl, if_neg (by decide)]
      exact (SA_ref (x := 1) c h12 FPg.rf (by decide)).un
  · unfold s9_bestSlow
    obtain ⟨y, e, h⟩ := r_notOdds (x := x) (x2 := x2) hV rN
    rw [e, cb_some]
    rcases h with h | ⟨rfl, w, m, hw, rfl, m2, rfl⟩
    · rw [if_neg (by rcases h with rfl | rfl | rfl <;> decide)]
      exact (SB_no rN FRg.rf (by rcases h with rfl | rfl | rfl <;> decide)).un
    · rw [if_pos rfl]
      exact (r_best27 (m := m) (w := w) hV hw (by omega) m2 n 1 0 (-1) N (by omega) (by omega) (by omega) rN).mono (fun _ _ t => ⟨t.1, t.2.fr⟩)
theorem c_cheat {n : Nat} {x x2 : Int32} {M : Mem} (hn : 4000 < n) (hI : IV M) : Ah M (s8_cheat n 0 x x2) (s9_cheat n 80 x x2) := by
  refine nrmh hI (fun P c r hV ht => ?_)
  have h12 := hV.w12
  refine ⟨?_, fun N rN => ?_⟩
  · unfold s8_cheat s8_cheat_23
    rw [show link 0 1 = 11 from rfl]
    rcases plW x hV with ⟨w, hw, rfl⟩ | hx
    · rw [k_kY c hV hw, cb_some, if_neg (by decide), k_within, cb_some]
      by_cases a : wy x2 1 200 = 0
      · obtain ⟨m, m1, m2, rfl⟩ := inI1 (b := 200) (by decide) a
        rw [if_pos a]
        exact Sp.cb (k_cheat c hV hw (by omega) m2) (fun _ M1 t => Sp.ret ⟨t.cp (Or.inl rfl) c h12, t.fp⟩)
      · rw [if_neg a]; exact (SA_ref c h12 FPg.rf (wy_ref a)).un
    · rw [(k_kN c hx).1, cb_some, if_pos rfl, if_neg (by decide)]
      exact (SA_ref (x := 1) c h12 FPg.rf (by decide)).un
  · unfold s9_cheat
    obtain ⟨y, e, h⟩ := r_notOdds (x := x) (x2 := x2) hV rN
    rw [e, cb_some]
    rcases h with h | ⟨rfl, w, m, hw, rfl, m2, rfl⟩
    · rw [if_neg (by rcases h with rfl | rfl | rfl <;> decide)]
      exact (SB_no rN FRg.rf (by rcases h with rfl | rfl | rfl <;> decide)).un
    · rw [if_pos rfl]
      refine Sp.cb (r_oddsOf rN hV hw (by omega) m2) (fun _ N1 t => ?_)
      exact (r_cheat28 (m := m) (w := w) hV hw (by omega) m2 n 0 N1 (by omega) (by omega) t.2.1).mono (fun _ _ u => ⟨u.1, t.2.2.fr.tr u.2.fr⟩)
theorem c_lasts {n : Nat} {x : Int32} {M : Mem} (hn : 4000 < n) (hI : IV M) : Ag M IV (s8_lasts n 0 x) (s9_lasts n 80 x) := by
  refine nrm hI (fun P c r hV ht => ?_)
  have h12 := hV.w12
  by_cases a : (0 : Int32) ≤ x ∧ x ≤ 2
  · by_cases o : ovr P
    · refine ⟨-3, P, hV, ht, ?_, fun N rN => ?_⟩
      · unfold s8_lasts
        rw [if_neg (Inl a.1), if_pos a.2, show link 0 1 = 11 from rfl, k_canGoOn po11 c hV (by omega), cif_pos o, cb_some, if_pos rfl]
        exact SA_ref (x := 3) c h12 FPg.rf (by decide)
      · unfold s9_lasts
        rw [k_isIn, if_pos a, cb_some, if_neg (by decide), r_isOver rN hV (by omega), cif_pos o, cb_some, if_neg (by decide)]
        exact SB_no rN FRg.rf (by decide)
    · have s1 := hV.s
      unfold VSa at s1
      obtain ⟨av, hav⟩ : ∃ av, av = if x = 0 then nI (wT P) else if x = 1 then nI (wR P) else wW P := ⟨_, rfl⟩
      refine ⟨av, P, hV, ht, ?_, fun N rN => ?_⟩
      · unfold s8_lasts
        rw [if_neg (Inl a.1), if_pos a.2, show link 0 1 = 11 from rfl, k_canGoOn po11 c hV (by omega), cif_neg o, cb_some, if_neg (by decide)]
        exact Sp.cb (k_ahead c hV ht o hn) (fun _ M1 t => Sp.ret ⟨by rw [hav]; exact t.1, t.2.cp (Or.inl rfl) c h12, t.2.fp⟩)
      · unfold s9_lasts
        rw [k_isIn, if_pos a, cb_some, if_neg (by decide), r_isOver rN hV (by omega), cif_neg o, cb_some, if_pos rfl, show N 80 16 = nI (P 10 5) from rN.one 5 (by decide), show N 80 15 = nI (P 10 4) from rN.one 4 (by decide), show N 80 13 = nI (P 10 2) from rN.one 2 (by decide)]
        refine Sp.cb (r_partyBy rN hV ht s1.2.2.1 s1.1 hn) (fun _ N1 t => ?_)
        rw [bys_0] at t
        obtain ⟨t1, t2, t3, t4, t5⟩ := t
        by_cases z : x = 0
        · exact Sp.pos z (Sp.ret ⟨by rw [hav, if_pos z]; exact t3, t1, t2.fr⟩)
        · refine Sp.neg z ?_
          by_cases y : x = 1
          · exact Sp.pos y (Sp.ret ⟨by rw [hav, if_neg z, if_pos y]; exact t4, t1, t2.fr⟩)
          · exact Sp.neg y (Sp.ret ⟨by rw [hav, if_neg z, if_neg y]; exact t5, t1, t2.fr⟩)
  · refine ⟨-2, P, hV, ht, ?_, fun N rN => ?_⟩
    · unfold s8_lasts
      by_cases b : x < 0
      · rw [if_pos b]
        exact SA_ref (x := 2) c h12 FPg.rf (by decide)
      · rw [if_neg b, if_neg (show ¬ x ≤ 2 from fun t => a ⟨Ile b, t⟩)]
        exact SA_ref (x := 2) c h12 FPg.rf (by decide)
    · unfold s9_lasts
      rw [k_isIn, if_neg a, cb_some, if_pos rfl]
      exact SB_no rN FRg.rf (by decide)
theorem k_seeds {n : Nat} {x : Int32} {P : PAy} {M : Mem} (c : CP 11 P M) (hV : VA P) (hn : 4000 < n) : s8_whyNotSeeds n 0 x M = some (if wy x 1 20 = 0 then cif (ovr P) 3 0 else wy x 1 20, M) := by
  unfold s8_whyNotSeeds
  rw [k_within, cb_some]
  by_cases a : wy x 1 20 = 0
  · rw [if_pos a, if_pos a, show link 0 1 = 11 from rfl, k_canGoOn po11 c hV (by omega), cb_some]
    by_cases o : ovr P
    · rw [cif_pos o, cif_pos o, if_pos rfl]
    · rw [cif_neg o, cif_neg o, if_neg (by decide), a]
  · rw [if_neg a, if_neg a]
theorem c_wins {n : Nat} {x x2 x3 : Int32} {M : Mem} (hn : 4000 < n) (hI : IV M) : Ag M IV (s8_wins n 0 x x2 x3) (s9_wins n 80 x x2 x3) := by
  refine nrm hI (fun P c r hV ht => ?_)
  have h12 := hV.w12
  obtain ⟨z, rfl⟩ := oneI x3
  rcases plW x hV with ⟨w, hw, rfl⟩ | hx
  · have eA : s8_wins n 0 (nI w) x2 (nI z) M = s8_wins_20 n 0 (nI w) x2 (nI z) (if wy x2 1 20 = 0 then cif (ovr P) 3 0 else wy x2 1 20) M := by
      unfold s8_wins
      rw [show link 0 1 = 11 from rfl, k_kY c hV hw, cb_some, if_neg (by decide), k_seeds c hV hn, cb_some]
    by_cases a : wy x2 1 20 = 0
    · obtain ⟨m, m1, m2, rfl⟩ := inI1 (b := 20) (by decide) a
      by_cases o : ovr P
      · refine ⟨-3, P, hV, ht, ?_, fun N rN => ?_⟩
        · rw [eA, if_pos a, cif_pos o]
          unfold s8_wins_20
          rw [if_neg (by decide)]
          exact SA_ref (x := 3) c h12 FPg.rf (by decide)
        · unfold s9_wins
          rw [r_isWalkerY rN hV hw, cb_some, if_neg (by decide), k_bound, a, cb_some, if_pos (by decide), r_isOver rN hV (by omega), cif_pos o, cb_some, if_neg (by decide)]
          unfold s9_wins_39
          rw [if_neg (by decide)]
          exact SB_no rN FRg.rf (by decide)
      · refine ⟨nI (wnC P w z m), P, hV, ht, ?_, fun N rN => ?_⟩
        · rw [eA, if_pos a, cif_neg o]
          unfold s8_wins_20
          rw [if_pos rfl]
          unfold s0_timesWinner
          exact Sp.cb (k_times (m := m) (w := w) (z := z) hV ht o hn m2 n 0 M (Nat.zero_le _) (by omega) c) (fun _ M1 t => Sp.ret ⟨t.1, t.2.cp (Or.inl rfl) c h12, t.2.fp⟩)
        · unfold s9_wins
          rw [r_isWalkerY rN hV hw, cb_some, if_neg (by decide), k_bound, a, cb_some, if_pos (by decide), r_isOver rN hV (by omega), cif_neg o, cb_some, if_pos rfl]
          unfold s9_wins_39
          rw [if_pos (by decide)]
          exact (r_wins57 (m := m) (w := w) (z := z) hV ht hn m2 n 0 N (Nat.zero_le _) (by omega) rN).mono (fun _ _ t => ⟨t.1, t.2.1, t.2.2.fr⟩)
    · refine ⟨-wy x2 1 20, P, hV, ht, ?_, fun N rN => ?_⟩
      · rw [eA, if_neg a]
        unfold s8_wins_20
        rw [if_neg a]
        exact SA_ref c h12 FPg.rf (wy_ref a)
      · unfold s9_wins
        rw [r_isWalkerY rN hV hw, cb_some, if_neg (by decide), k_bound, cb_some, if_neg (wy_neg a)]
        unfold s9_wins_39
        rw [if_neg (wy_neg a)]
        exact SB_no rN FRg.rf (wy_no a)
  · refine ⟨-1, P, hV, ht, ?_, fun N rN => ?_⟩
    · unfold s8_wins s8_wins_20
      rw [show link 0 1 = 11 from rfl, (k_kN c hx).1, cb_some, if_pos rfl, if_neg (by decide)]
      exact SA_ref (x := 1) c h12 FPg.rf (by decide)
    · unfold s9_wins
      rw [r_isWalkerN rN hx, cb_some, if_pos rfl]
      exact SB_no rN FRg.rf (by decide)
theorem c_fairest {n : Nat} {x x2 : Int32} {M : Mem} (hn : 4000 < n) (hI : IV M) : Ag M IV (s8_fairest n 0 x x2) (s9_fairest n 80 x x2) := by
  refine nrm hI (fun P c r hV ht => ?_)
  have h12 := hV.w12
  obtain ⟨z, rfl⟩ := oneI x2
  by_cases a : wy x 1 20 = 0
  · obtain ⟨m, m1, m2, rfl⟩ := inI1 (b := 20) (by decide) a
    by_cases o : ovr P
    · refine ⟨-3, P, hV, ht, ?_, fun N rN => ?_⟩
      · unfold s8_fairest
        rw [k_seeds c hV hn, if_pos a, cif_pos o, cb_some, if_neg (by decide)]
        exact SA_ref (x := 3) c h12 FPg.rf (by decide)
      · unfold s9_fairest
        rw [k_bound, a, cb_some, if_pos (by decide), r_isOver rN hV (by omega), cif_pos o, cb_some, if_neg (by decide)]
        unfold s9_fairest_22
        rw [if_neg (by decide)]
        exact SB_no rN FRg.rf (by decide)
    · refine ⟨(fTz P z m 3).1, P, hV, ht, ?_, fun N rN => ?_⟩
      · unfold s8_fairest
        rw [k_seeds c hV hn, if_pos a, cif_neg o, cb_some, if_pos rfl]
        unfold s0_formOfMostWinners
        exact Sp.cb (k_form11 (m := m) (z := z) hV ht o hn m2 n 0 M (Nat.zero_le _) (by omega) c) (fun _ M1 t => Sp.ret ⟨t.1, t.2.cp (Or.inl rfl) c h12, t.2.fp⟩)
      · unfold s9_fairest
        rw [k_bound, a, cb_some, if_pos (by decide), r_isOver rN hV (by omega), cif_neg o, cb_some, if_pos rfl]
        unfold s9_fairest_22
        rw [if_pos (by decide)]
        exact (r_fair44 (m := m) (z := z) hV ht hn m2 n 0 N (Nat.zero_le _) (by omega) rN).mono (fun _ _ t => ⟨t.1, t.2.1, t.2.2.fr⟩)
  · refine ⟨-wy x 1 20, P, hV, ht, ?_, fun N rN => ?_⟩
    · unfold s8_fairest
      rw [k_seeds c hV hn, if_neg a, cb_some, if_neg a]
      exact SA_ref c h12 FPg.rf (wy_ref a)
    · unfold s9_fairest
      rw [k_bound, cb_some, if_neg (wy_neg a)]
      unfold s9_fairest_22
      rw [if_neg (wy_neg a)]
      exact SB_no rN FRg.rf (wy_no a)
theorem c_shortest {n : Nat} {M : Mem} (hn : 4000 < n) (hI : IV M) : Ag M IV (s8_shortest n 0) (s9_shortest n 80) := by
  refine nrm hI (fun P c r hV ht => ?_)
  have h12 := hV.w12
  by_cases o : ovr P
  · refine ⟨-3, P, hV, ht, ?_, fun N rN => ?_⟩
    · unfold s8_shortest
      rw [show link 0 1 = 11 from rfl, k_canGoOn po11 c hV (by omega), cif_pos o, cb_some, if_pos rfl]
      exact SA_ref (x := 3) c h12 FPg.rf (by decide)
    · unfold s9_shortest
      rw [r_isOver rN hV (by omega), cif_pos o, cb_some, if_neg (by decide)]
      exact SB_no rN FRg.rf (by decide)
  · refine ⟨nI (shBp P 5).1, P, hV, ht, ?_, fun N rN => ?_⟩
    · unfold s8_shortest
      rw [show link 0 1 = 11 from rfl, k_canGoOn po11 c hV (by omega), cif_neg o, cb_some, if_neg (by decide)]
      unfold s0_kindOfFewestTenths
      exact Sp.cb (k_kinds hV ht o hn n 0 2147483647 M (Nat.zero_le _) (by omega) c rfl) (fun _ M1 t => Sp.ret ⟨t.1, t.2.cp (Or.inl rfl) c h12, t.2.fp⟩)
    · unfold s9_shortest
      rw [r_isOver rN hV (by omega), cif_neg o, cb_some, if_pos rfl]
      exact (r_short20 hV ht hn n 0 (-1) N (Nat.zero_le _) (by omega) rN rfl).mono (fun _ _ t => ⟨t.1, t.2.1, t.2.2.fr⟩)
