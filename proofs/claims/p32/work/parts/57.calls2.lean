/-! ===== the calls: what is set and asked ===== -/
def SetH (c r lo hi : Nat) : Prop := (c = 0 ∧ r = 5 ∧ lo = 1 ∧ hi = 99) ∨ (c = 1 ∧ r = 6 ∧ lo = 1 ∧ hi = 99) ∨ (c = 2 ∧ r = 7 ∧ lo = 0 ∧ hi = 9) ∨ (c = 3 ∧ r = 8 ∧ lo = 0 ∧ hi = 9) ∨ (c = 4 ∧ r = 9 ∧ lo = 0 ∧ hi = 9) ∨ (c = 5 ∧ r = 4 ∧ lo = 0 ∧ hi = 6)
theorem SetH_ex {c : Nat} (h : c ≤ 5) : ∃ r lo hi, SetH c r lo hi := by
  have : c = 0 ∨ c = 1 ∨ c = 2 ∨ c = 3 ∨ c = 4 ∨ c = 5 := by omega
  unfold SetH
  rcases this with rfl | rfl | rfl | rfl | rfl | rfl
  · exact ⟨5, 1, 99, by omega⟩
  · exact ⟨6, 1, 99, by omega⟩
  · exact ⟨7, 0, 9, by omega⟩
  · exact ⟨8, 0, 9, by omega⟩
  · exact ⟨9, 0, 9, by omega⟩
  · exact ⟨4, 0, 6, by omega⟩
theorem chg {c r lo hi o : Nat} {x : Int32} {M : Mem} (h : SetH c r lo hi) : s7_change o (nI c) x M = some (M o (r - 1), mset M o (r - 1) x) := by
  rcases h with ⟨rfl, rfl, -⟩ | ⟨rfl, rfl, -⟩ | ⟨rfl, rfl, -⟩ | ⟨rfl, rfl, -⟩ | ⟨rfl, rfl, -⟩ | ⟨rfl, rfl, -⟩ <;> rfl
theorem lst {c r lo hi : Nat} {M : Mem} (h : SetH c r lo hi) : s8_leastOf (nI c) M = some (nI lo, M) ∧ s8_greatestOf (nI c) M = some (nI hi, M) := by
  rcases h with ⟨rfl, -, rfl, rfl⟩ | ⟨rfl, -, rfl, rfl⟩ | ⟨rfl, -, rfl, rfl⟩ | ⟨rfl, -, rfl, rfl⟩ | ⟨rfl, -, rfl, rfl⟩ | ⟨rfl, -, rfl, rfl⟩ <;> exact ⟨rfl, rfl⟩
theorem set62 {n c r lo hi : Nat} {x1 x3 : Int32} {N : Mem} (h : SetH c r lo hi) : s9_set_62 n 80 x1 (nI c) x3 0 N = s9_set_139 n x1 x3 (82 + r) N := by
  rcases h with ⟨rfl, rfl, -⟩ | ⟨rfl, rfl, -⟩ | ⟨rfl, rfl, -⟩ | ⟨rfl, rfl, -⟩ | ⟨rfl, rfl, -⟩ | ⟨rfl, rfl, -⟩ <;> rfl
theorem set_to {n c r lo hi : Nat} {x1 x3 : Int32} {N : Mem} (h : SetH c r lo hi) : (if (2 : Int32) ≤ nI c then (if nI c = (5 : Int32) then (s9_set_59 n 80 x1 (nI c) x3 (6 : Int32) (0 : Int32) x3 N) else (s9_set_59 n 80 x1 (nI c) x3 (9 : Int32) (0 : Int32) x3 N)) else (cb (s9_bound x3 (1 : Int32) (99 : Int32) N) (fun r12 M11 => s9_set_62 n 80 x1 (nI c) x3 r12 M11))) = s9_set_62 n 80 x1 (nI c) x3 (-wy x3 (nI lo) (nI hi)) N := by
  have b : ∀ a b : Int32, s9_set_59 n 80 x1 (nI c) x3 b a x3 N = s9_set_62 n 80 x1 (nI c) x3 (-wy x3 a b) N := fun a b => by
    unfold s9_set_59; rw [k_bound, cb_some]
  rcases h with ⟨rfl, -, rfl, rfl⟩ | ⟨rfl, -, rfl, rfl⟩ | ⟨rfl, -, rfl, rfl⟩ | ⟨rfl, -, rfl, rfl⟩ | ⟨rfl, -, rfl, rfl⟩ | ⟨rfl, -, rfl, rfl⟩
  · rw [if_neg (by decide), k_bound, cb_some]; rfl
  · rw [if_neg (by decide), k_bound, cb_some]; rfl
  · rw [if_pos (by decide), if_neg (by decide), b]; rfl
  · rw [if_pos (by decide), if_neg (by decide), b]; rfl
  · rw [if_pos (by decide), if_neg (by decide), b]; rfl
  · rw [if_pos (by decide), if_pos (by decide), b]; rfl
theorem c_set {n : Nat} {x x2 x3 : Int32} {M : Mem} (hI : IV M) : Ag M IV (s8_set 0 x x2 x3) (s9_set n 80 x x2 x3) := by
  refine nrm hI (fun P c r hV ht => ?_)
  have h12 := hV.w12
  rcases plW x hV with ⟨w, hw, rfl⟩ | hx
  · rcases six x2 (b := 5) (by decide) with ⟨k, hk, rfl⟩ | h2
    · obtain ⟨q, lo, hi, H⟩ := SetH_ex hk
      have hq : 4 ≤ q ∧ q ≤ 9 ∧ hi < 1000 ∧ lo ≤ 1 := by unfold SetH at H; omega
      have iw : inB (nI w) (alen (link 11 3)) := vp_in_nI (N := 12) (by omega) (by decide)
      have eA : s8_set 0 (nI w) (nI k) x3 M = if wy x3 (nI lo) (nI hi) = 0 then some (M (22 + w) (q - 1), mset M (22 + w) (q - 1) x3) else cb (s8_refuse 0 (wy x3 (nI lo) (nI hi)) M) (fun r M' => some (r, M')) := by
        unfold s8_set
        rw [show link 0 1 = 11 from rfl, k_kY c hV hw, cb_some, if_neg (by decide), if_neg (nI_pos (by omega)), if_pos (show nI k ≤ (5 : Int32) from nI_le (b := 5) hk (by decide)), (lst H).1, cb_some, (lst H).2, cb_some]
        unfold wy
        by_cases a : x3 < nI lo
        · rw [if_neg (Inle a), if_pos a, if_neg (by decide)]
        · rw [if_pos (Ile a), if_neg a]
          by_cases b : nI hi < x3
          · rw [if_neg (Inle b), if_pos b, if_neg (by decide)]
          · rw [if_pos (Ile b), if_neg b, if_pos rfl, if_pos iw, nI_clamp (by omega), show link (link 11 3) w = 22 + w from lw9 po11 (by omega), chg H, cb_some]
      have eB : ∀ N, RP P N → s9_set n 80 (nI w) (nI k) x3 N = s9_set_62 n 80 (nI w) (nI k) x3 (-wy x3 (nI lo) (nI hi)) N := fun N rN => by
        unfold s9_set
        rw [r_isWalkerY rN hV hw, cb_some, if_neg (by decide), k_isIn, if_pos (show (0 : Int32) ≤ nI k ∧ nI k ≤ 5 from ⟨nI_le (a := 0) (Nat.zero_le _) (by omega), nI_le (b := 5) hk (by decide)⟩), cb_some, if_neg (by decide)]
        exact set_to H
      by_cases a : wy x3 (nI lo) (nI hi) = 0
      · obtain ⟨v, v1, rfl, v2⟩ := inI hq.2.2.1 (nI_pos' (by omega)) a
        have v3 : lo ≤ v := (nI_leI (by omega) (by omega)).mp v2
        have hVQ : VA (pset P q w v) := V_wset hV (by unfold SetH at H; omega)
        refine ⟨nI (P q w), pset P q w v, hVQ, ?_, ?_, fun N rN => ?_⟩
        · rw [ps_i (by omega)]; exact ht
        · rw [eA, if_pos a]
          have e1 : M (22 + w) (q - 1) = nI (P (1 + (q - 1)) w) := c.w hw (q - 1) (by omega)
          have e2 := c.sw (k := q - 1) (v := v) h12 hw (by omega) (by omega) (by omega)
          rw [show 1 + (q - 1) = q by omega] at e1 e2
          exact Sp.ret ⟨e1, e2, fun j _ _ _ d => ms_ne (by omega)⟩
        · rw [eB N rN, a, show -(0 : Int32) = 0 from by decide, set62 H]
          unfold s9_set_139
          have iq : inB (nI w) (alen (82 + q)) := by
            have : alen (82 + q) = 12 := by
              have : q = 4 ∨ q = 5 ∨ q = 6 ∨ q = 7 ∨ q = 8 ∨ q = 9 := by omega
              rcases this with rfl | rfl | rfl | rfl | rfl | rfl <;> rfl
            rw [this]
            exact vp_in_nI (by omega) (by decide)
          have e1 : N (83 + (q - 1)) (nI w).toNatClampNeg = nI (P (1 + (q - 1)) w) := rN.rowc (q - 1) (by omega) (by omega)
          have e2 := rN.srow (q - 1) (w := w) (v := v) (by omega)
          rw [show 1 + (q - 1) = q by omega, show 83 + (q - 1) = 82 + q by omega] at e1 e2
          refine Sp.pos iq (Sp.ilet (Sp.pos iq (Sp.mlet (Sp.ret ⟨e1, ?_, ?_⟩))))
          · rw [nI_clamp (by omega)]; exact e2
          · exact (RF.row (by omega) (by omega)).fr
      · refine ⟨-wy x3 (nI lo) (nI hi), P, hV, ht, ?_, fun N rN => ?_⟩
        · rw [eA, if_neg a]
          exact SA_ref c h12 FPg.rf (wy_ref a)
        · rw [eB N rN]
          unfold s9_set_62
          rw [if_neg (wy_neg a)]
          exact SB_no rN FRg.rf (wy_no a)
    · refine ⟨-2, P, hV, ht, ?_, fun N rN => ?_⟩
      · unfold s8_set
        rw [show link 0 1 = 11 from rfl, k_kY c hV hw, cb_some, if_neg (by decide)]
        by_cases a : x2 < 0
        · rw [if_pos a]
          exact SA_ref (x := 2) c h12 FPg.rf (by decide)
        · rw [if_neg a, if_neg (show ¬ x2 ≤ 5 from h2.elim (fun t => absurd t a) id)]
          exact SA_ref (x := 2) c h12 FPg.rf (by decide)
      · unfold s9_set
        rw [r_isWalkerY rN hV hw, cb_some, if_neg (by decide), k_isIn, if_neg (show ¬ ((0 : Int32) ≤ x2 ∧ x2 ≤ 5) from fun t => h2.elim (Inl t.1) (fun s => s t.2)), cb_some, if_pos rfl]
        exact SB_no rN FRg.rf (by decide)
  · refine ⟨-1, P, hV, ht, ?_, fun N rN => ?_⟩
    · unfold s8_set
      rw [show link 0 1 = 11 from rfl, (k_kN c hx).1, cb_some, if_pos rfl]
      exact SA_ref (x := 1) c h12 FPg.rf (by decide)
    · unfold s9_set
      rw [r_isWalkerN rN hx, cb_some, if_pos rfl]
      exact SB_no rN FRg.rf (by decide)
theorem c_player {x x2 : Int32} {M : Mem} (hI : IV M) : Ag M IV (s8_player 0 x x2) (s9_player 80 x x2) := by
  refine nrm hI (fun P c r hV ht => ?_)
  have h12 := hV.w12
  rcases six x (b := 4) (by decide) with ⟨k, hk, rfl⟩ | h2
  · have eA : s8_player 0 (nI k) x2 M = if wy x2 1 99 = 0 then some (M 15 0, mset (mset M 15 0 (nI k)) 15 1 x2) else cb (s8_refuse 0 (wy x2 1 99) M) (fun r M' => some (r, M')) := by
      unfold s8_player s3_whyNot
      rw [if_neg (nI_pos (n := k) (by omega)), if_pos (show nI k < (5 : Int32) from nI_lt (b := 5) (by omega) (by decide)), k_within, cb_some, cb_some]
      rfl
    have eB : ∀ N, s9_player 80 (nI k) x2 N = if -wy x2 1 99 = 0 then some (N 80 13, mset (mset N 80 13 (nI k)) 80 14 x2) else cb (s9_no 80 (-wy x2 1 99) N) (fun r M' => some (r, M')) := fun N => by
      unfold s9_player
      rw [k_isIn, if_pos (show (0 : Int32) ≤ nI k ∧ nI k ≤ 4 from ⟨nI_le (a := 0) (Nat.zero_le _) (by omega), nI_le (b := 4) hk (by decide)⟩), cb_some, if_neg (by decide), k_bound, cb_some]
      rfl
    by_cases a : wy x2 1 99 = 0
    · obtain ⟨f, f1, f2, rfl⟩ := inI1 (b := 99) (by decide) a
      have hVQ : VA (cmP P 112 (fun j => if j = 0 then k else f)) := V_cm hV ⟨hk, f1, f2⟩
      refine ⟨nI (P 10 2), pset (pset P 10 2 k) 10 3 f, hVQ, ?_, ?_, fun N rN => ?_⟩
      · rw [ps_j (by decide), ps_j (by decide)]; exact ht
      · rw [eA, if_pos a]
        have c1 : CP 11 (pset P 10 2 k) (mset M 15 0 (nI k)) := c.spl 0 2 (by omega)
        have c2 : CP 11 (pset (pset P 10 2 k) 10 3 f) (mset (mset M 15 0 (nI k)) 15 1 (nI f)) := c1.spl 1 3 (by omega)
        exact Sp.ret ⟨c.2.1.1, c2, fun j _ _ _ d => by rw [ms_ne (by omega), ms_ne (by omega)]⟩
      · rw [eB, if_pos (by rw [a]; decide)]
        have r1 : RP (pset P 10 2 k) (mset N 80 13 (nI k)) := rN.sone 2
        exact Sp.ret ⟨rN.one 2 (by decide), r1.sone 3, ((RF.sc (by decide) (by decide)).tr (RF.sc (by decide) (by decide))).fr⟩
    · refine ⟨-wy x2 1 99, P, hV, ht, ?_, fun N rN => ?_⟩
      · rw [eA, if_neg a]
        exact SA_ref c h12 FPg.rf (wy_ref a)
      · rw [eB, if_neg (wy_neg a)]
        exact SB_no rN FRg.rf (wy_no a)
  · refine ⟨-1, P, hV, ht, ?_, fun N rN => ?_⟩
    · unfold s8_player s3_whyNot
      by_cases a : x < 0
      · rw [if_pos a, cb_some, if_neg (by decide)]
        exact SA_ref (x := 1) c h12 FPg.rf (by decide)
      · have : ¬ x < 5 := fun s => (h2.elim (fun t => absurd t a) id) (by
          rw [Int32.lt_iff_toInt_lt] at s
          rw [Int32.le_iff_toInt_le, nI_toInt (by decide)]
          have : (5 : Int32).toInt = 5 := by decide
          omega)
        rw [if_neg a, if_neg this, cb_some, if_neg (by decide)]
        exact SA_ref (x := 1) c h12 FPg.rf (by decide)
    · unfold s9_player
      rw [k_isIn, if_neg (show ¬ ((0 : Int32) ≤ x ∧ x ≤ 4) from fun t => h2.elim (Inl t.1) (fun s => s t.2)), cb_some, if_pos rfl]
      exact SB_no rN FRg.rf (by decide)
theorem c_form {x : Int32} {M : Mem} (hI : IV M) : Ag M IV (s8_form 0 x) (s9_form 80 x) := by
  refine nrm hI (fun P c r hV ht => ?_)
  have h12 := hV.w12
  have eA : s8_form 0 x M = if wy x 0 2 = 0 then some (M 11 6, mset M 11 6 x) else cb (s8_refuse 0 (wy x 0 2) M) (fun r M' => some (r, M')) := by
    unfold s8_form
    rw [k_within, cb_some]
    rfl
  have eB : ∀ N, s9_form 80 x N = if -wy x 0 2 = 0 then some (N 80 15, mset N 80 15 x) else cb (s9_no 80 (-wy x 0 2) N) (fun r M' => some (r, M')) := fun N => by
    unfold s9_form
    rw [k_bound, cb_some]
    rfl
  by_cases a : wy x 0 2 = 0
  · obtain ⟨v, v1, rfl, -⟩ := inI (a := 0) (b := 2) (by decide) (by decide) a
    have hVQ : VA (cmP P 102 (fun _ => v)) := V_cm hV v1
    refine ⟨nI (P 10 4), pset P 10 4 v, hVQ, ?_, ?_, fun N rN => ?_⟩
    · rw [ps_j (by decide)]; exact ht
    · rw [eA, if_pos a]
      exact Sp.ret ⟨c.2.2.2.1.2.1, c.so 6 4 (by omega), fun j _ _ _ d => ms_ne (by omega)⟩
    · rw [eB, if_pos (by rw [a]; decide)]
      exact Sp.ret ⟨rN.one 4 (by decide), rN.sone 4, (RF.sc (by decide) (by decide)).fr⟩
  · refine ⟨-wy x 0 2, P, hV, ht, ?_, fun N rN => ?_⟩
    · rw [eA, if_neg a]
      exact SA_ref c h12 FPg.rf (wy_ref a)
    · rw [eB, if_neg (wy_neg a)]
      exact SB_no rN FRg.rf (wy_no a)
theorem c_seed {x : Int32} {M : Mem} (hI : IV M) : Ag M IV (s8_seed 0 x) (s9_seed 80 x) := by
  refine nrm hI (fun P c r hV ht => ?_)
  obtain ⟨z, rfl⟩ := oneI x
  have s1 := hV.s
  have hVQ : VA (pset P 10 5 z) := by
    refine V_sc hV (by decide) ?_
    unfold VSa at s1 ⊢
    rw [ps_j (b := 2) (by decide), ps_j (b := 3) (by decide), ps_j (b := 4) (by decide), ps_j (b := 6) (by decide), ps_j (b := 8) (by decide)]
    exact s1
  refine ⟨nI (P 10 5), pset P 10 5 z, hVQ, ?_, ?_, fun N rN => ?_⟩
  · rw [ps_j (by decide)]; exact ht
  · unfold s8_seed
    exact Sp.ilet (Sp.mlet (Sp.ret ⟨c.2.1.2.2, c.spl 2 5 (by omega), fun j _ _ _ d => ms_ne (by show j ≠ 15; omega)⟩))
  · unfold s9_seed
    exact Sp.ilet (Sp.mlet (Sp.ret ⟨rN.one 5 (by decide), rN.sone 5, (RF.sc (by decide) (by decide)).fr⟩))
