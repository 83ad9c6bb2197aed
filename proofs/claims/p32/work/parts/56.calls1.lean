/-! ===== the calls: what comes and what is told ===== -/
theorem oneI (x : Int32) : ∃ z : Nat, x = nI z := by
  refine ⟨x.toUInt32.toNat, ?_⟩
  show x = Int32.ofNat _
  simp [Int32.ofNat]
theorem plW {P : PAy} (x : Int32) (hV : VA P) : (∃ w, w < P 10 1 ∧ x = nI w) ∨ (x < 0 ∨ nI (P 10 1) ≤ x) := plc x (by have := hV.w12; omega)
theorem pl0 {P : PAy} (x : Int32) (hV : VA P) : (∃ p, p < P 10 0 ∧ x = nI p) ∨ (x < 0 ∨ nI (P 10 0) ≤ x) := plc x hV.n60
theorem six (x : Int32) {b : Nat} (hb : b < 1000) : (∃ c, c ≤ b ∧ x = nI c) ∨ (x < 0 ∨ ¬ x ≤ nI b) := by
  by_cases q : x < 0
  · exact Or.inr (Or.inl q)
  · by_cases z : x ≤ nI b
    · obtain ⟨v, v1, v2, -⟩ := inI (x := x) (a := 0) hb (by decide) (by
        unfold wy
        rw [if_neg q, if_neg (Inl z)])
      exact Or.inl ⟨v, v1, v2⟩
    · exact Or.inr (Or.inr z)
theorem c_chair {n : Nat} {x : Int32} {M : Mem} (hn : 4000 < n) (hI : IV M) : Ag M IV (s8_chair n 0 x) (s9_chair n 80 x) := by
  refine nrm hI (fun P c r hV ht => ?_)
  have h60 := hV.n60
  have h11 := hV.c11
  rcases pl0 x hV with ⟨p, hp, rfl⟩ | hx
  · have hc := hV.c1 p
    have i1 : inB (nI p) (alen (link 80 1)) := vp_in_nI (N := 60) (by omega) (by decide)
    have eA : ∀ y : Int32, s2_whyNoChair 11 (nI p) M = some (y, M) → s8_chair n 0 (nI p) M = if y = 0 then (cb (s2_addChair n 11 (nI p) M) (fun r4 M3 => some (r4, M3))) else (cb (s8_refuse 0 y M) (fun r6 M5 => some (r6, M5))) := fun y hy => by
      unfold s8_chair
      rw [show link 0 1 = 11 from rfl, hy]; rfl
    have kA := k_noChair po11 c hV hp
    have eB : ∀ N, RP P N → s9_chair n 80 (nI p) N = if nI (P 0 p) = 1 then (cb (s9_no 80 (-3 : Int32) N) (fun r12 M11 => some (r12, M11))) else (if nI (rk P 60) = (11 : Int32) then (cb (s9_no 80 (-6 : Int32) N) (fun r10 M9 => some (r10, M9))) else (cb (s9_comesChair 80 (nI p) N) (fun _ M5 => cb (s9_chairs n 80 M5) (fun r8 M7 => some (r8, M7))))) := fun N rN => by
      unfold s9_chair
      rw [r_isPlaceY rN hV hp, cb_some, if_neg (by decide), if_pos i1, show N (link 80 1) (nI p).toNatClampNeg = nI (P 0 p) from rN.chc (by omega), r_chairs rN hV (by omega)]
      rfl
    by_cases q : P 0 p = 1
    · refine ⟨-3, P, hV, ht, ?_, fun N rN => ?_⟩
      · rw [eA _ (by rw [kA, if_pos q]), if_neg (by decide)]
        exact SA_ref (x := 3) c hV.w12 FPg.rf (by decide)
      · rw [eB N rN, if_pos (by rw [q]; rfl)]
        exact SB_no rN FRg.rf (by decide)
    · by_cases z : rk P 60 = 11
      · refine ⟨-6, P, hV, ht, ?_, fun N rN => ?_⟩
        · rw [eA _ (by rw [kA, if_neg q, if_pos z]), if_neg (by decide)]
          exact SA_ref (x := 6) c hV.w12 FPg.rf (by decide)
        · rw [eB N rN, if_neg (fun t => q ((nI_is1 (by omega)).mp t)), if_pos (by rw [z]; rfl)]
          exact SB_no rN FRg.rf (by decide)
      · have hVQ := V_adc hV hp (by omega) (by omega)
        refine ⟨nI (rk (adc P p) 60), adc P p, hVQ, ?_, ?_, fun N rN => ?_⟩
        · unfold adc; rw [ps_j (by decide), ps_i (by decide)]; exact ht
        · rw [eA _ (by rw [kA, if_neg q, if_neg z]), if_pos rfl]
          exact Sp.cb (k_addChair po11 c hV (by omega) hp (by omega) (by omega)) (fun _ _ t => Sp.ret ⟨t.1, t.2.1, t.2.2.fp⟩)
        · rw [eB N rN, if_neg (fun t => q ((nI_is1 (by omega)).mp t)), if_neg (show ¬ nI (rk P 60) = (11 : Int32) from fun t => z ((nI_eq (b := 11) (by omega) (by decide)).mp t))]
          refine Sp.cb (r_comesChair rN (by omega)) (fun _ N1 t => ?_)
          rw [r_chairs t.1 hVQ (by omega), cb_some]
          exact Sp.ret ⟨rfl, t.1, t.2.fr⟩
  · refine ⟨-1, P, hV, ht, ?_, fun N rN => ?_⟩
    · unfold s8_chair
      rw [show link 0 1 = 11 from rfl, k_noChairN po11 c hx, cb_some, if_neg (by decide)]
      exact SA_ref (x := 1) c hV.w12 FPg.rf (by decide)
    · unfold s9_chair
      rw [r_isPlaceN rN hx, cb_some, if_pos rfl]
      exact SB_no rN FRg.rf (by decide)
theorem c_walker {n : Nat} {x x2 x3 : Int32} {M : Mem} (hn : 4000 < n) (hI : IV M) : Ag M IV (s8_walker n 0 x x2 x3) (s9_walker n 80 x x2 x3) := by
  refine nrm hI (fun P c r hV ht => ?_)
  have h60 := hV.n60
  have h12 := hV.w12
  rcases pl0 x hV with ⟨p, hp, rfl⟩ | hx
  · have eA : ∀ y : Int32, s2_whyNoWalker 11 (nI p) x2 x3 M = some (y, M) → s8_walker n 0 (nI p) x2 x3 M = if y = 0 then (cb (s2_addWalker n 11 (nI p) x2 x3 M) (fun r4 M3 => some (r4, M3))) else (cb (s8_refuse 0 y M) (fun r6 M5 => some (r6, M5))) := fun y hy => by
      unfold s8_walker
      rw [show link 0 1 = 11 from rfl, hy]; rfl
    have kA := k_noWalk (x2 := x2) (x3 := x3) po11 c hV hp
    rcases six x2 (b := 6) (by decide) with ⟨k, hk, rfl⟩ | h2
    · have n1 : ¬ (nI k < 0 ∨ ¬ nI k < 7) := fun t => t.elim (nI_pos (by omega)) (fun s => s (nI_lt (b := 7) (by omega) (by decide)))
      have i2 : (if (0 : Int32) ≤ nI k ∧ nI k ≤ 6 then (1 : Int32) else 0) = 1 := if_pos ⟨nI_le (a := 0) (Nat.zero_le _) (by omega), nI_le (b := 6) hk (by decide)⟩
      by_cases w : wy x3 1 99 = 0
      · obtain ⟨f, f1, f2, rfl⟩ := inI1 (b := 99) (by decide) w
        have eB : ∀ N, RP P N → s9_walker n 80 (nI p) (nI k) (nI f) N = if nI (P 10 1) = 12 then s9_walker_51 n 80 (nI p) (nI k) (nI f) (-6) N else s9_walker_51 n 80 (nI p) (nI k) (nI f) 0 N := fun N rN => by
          unfold s9_walker
          rw [r_isPlaceY rN hV hp, cb_some, if_neg (by decide), k_isIn, i2, cb_some, if_neg (by decide), k_bound, w, cb_some, if_pos (by decide), show N 80 12 = nI (P 10 1) from rN.one 1 (by decide)]
          rfl
        by_cases z : P 10 1 = 12
        · refine ⟨-6, P, hV, ht, ?_, fun N rN => ?_⟩
          · rw [eA _ (by rw [kA, if_neg n1, if_neg (show ¬ wy (nI f) 1 99 ≠ 0 from fun t => t w), if_pos z]), if_neg (by decide)]
            exact SA_ref (x := 6) c hV.w12 FPg.rf (by decide)
          · rw [eB N rN, if_pos (by rw [z]; rfl)]
            unfold s9_walker_51 s9_walker_68
            rw [if_neg (by decide), if_neg (by decide)]
            exact SB_no rN FRg.rf (by decide)
        · have tle : tk P p ≤ 1 := tkn_le _
          have eB2 : ∀ N, RP P N → s9_walker_51 n 80 (nI p) (nI k) (nI f) 0 N = if nI (tk P p) = 0 then (s9_walker_68 n 80 (nI p) (nI k) (nI f) 0 N) else (s9_walker_68 n 80 (nI p) (nI k) (nI f) (-3 : Int32) N) := fun N rN => by
            unfold s9_walker_51
            rw [if_pos rfl, r_isTaken rN h12 hV.b13 (by omega) (by omega), cb_some]
          have zz : ¬ nI (P 10 1) = 12 := fun t => z ((nI_eq (b := 12) (by omega) (by decide)).mp t)
          by_cases v : tk P p = 1
          · refine ⟨-3, P, hV, ht, ?_, fun N rN => ?_⟩
            · rw [eA _ (by rw [kA, if_neg n1, if_neg (show ¬ wy (nI f) 1 99 ≠ 0 from fun t => t w), if_neg z, if_pos v]), if_neg (by decide)]
              exact SA_ref (x := 3) c hV.w12 FPg.rf (by decide)
            · rw [eB N rN, if_neg zz, eB2 N rN, if_neg (by rw [v]; decide)]
              unfold s9_walker_68
              rw [if_neg (by decide)]
              exact SB_no rN FRg.rf (by decide)
          · refine ⟨nI (P 10 1), adw P p k f, V_adw hV hp hk f1 f2 (by omega) v, ?_, ?_, fun N rN => ?_⟩
            · rw [adw_sc (by decide) (by decide)]; exact ht
            · rw [eA _ (by rw [kA, if_neg n1, if_neg (show ¬ wy (nI f) 1 99 ≠ 0 from fun t => t w), if_neg z, if_neg v]), if_pos rfl]
              exact Sp.cb (k_addWalker po11 c hV hp (by omega) (by omega) (by omega)) (fun _ _ t => Sp.ret ⟨t.1, t.2.1, t.2.2.fp⟩)
            · rw [eB N rN, if_neg zz, eB2 N rN, if_pos (by rw [show tk P p = 0 by omega]; rfl)]
              unfold s9_walker_68
              rw [if_pos rfl]
              refine Sp.cb (r_comesWalker rN (by omega) (by omega)) (fun _ N1 t => Sp.ret ⟨?_, t.1, t.2.fr⟩)
              rw [show N1 80 12 = nI (adw P p k f 10 1) from t.1.one 1 (by decide), adw_s1.1]
              exact nI_pred (P 10 1)
      · refine ⟨-wy x3 1 99, P, hV, ht, ?_, fun N rN => ?_⟩
        · rw [eA _ (by rw [kA, if_neg n1, if_pos w]), if_neg w]
          exact SA_ref c hV.w12 FPg.rf (wy_ref w)
        · unfold s9_walker
          rw [r_isPlaceY rN hV hp, cb_some, if_neg (by decide), k_isIn, i2, cb_some, if_neg (by decide), k_bound, cb_some, if_neg (wy_neg w)]
          unfold s9_walker_51 s9_walker_68
          rw [if_neg (wy_neg w), if_neg (wy_neg w)]
          exact SB_no rN FRg.rf (wy_no w)
    · refine ⟨-1, P, hV, ht, ?_, fun N rN => ?_⟩
      · have : x2 < 0 ∨ ¬ x2 < 7 := h2.imp id (fun t s => t (by
          rw [Int32.lt_iff_toInt_lt] at s
          rw [Int32.le_iff_toInt_le, nI_toInt (by decide)]
          have : (7 : Int32).toInt = 7 := by decide
          omega))
        rw [eA _ (by rw [kA, if_pos this]), if_neg (by decide)]
        exact SA_ref (x := 1) c hV.w12 FPg.rf (by decide)
      · unfold s9_walker
        rw [r_isPlaceY rN hV hp, cb_some, if_neg (by decide), k_isIn, if_neg (show ¬ ((0 : Int32) ≤ x2 ∧ x2 ≤ 6) from fun t => h2.elim (Inl t.1) (fun s => s t.2)), cb_some, if_pos rfl]
        exact SB_no rN FRg.rf (by decide)
  · refine ⟨-1, P, hV, ht, ?_, fun N rN => ?_⟩
    · unfold s8_walker
      rw [show link 0 1 = 11 from rfl, k_noWalkN po11 c hx, cb_some, if_neg (by decide)]
      exact SA_ref (x := 1) c hV.w12 FPg.rf (by decide)
    · unfold s9_walker
      rw [r_isPlaceN rN hx, cb_some, if_pos rfl]
      exact SB_no rN FRg.rf (by decide)
theorem V_wset {P : PAy} {r w v : Nat} (hV : VA P) (h : (r = 4 ∧ v ≤ 6) ∨ ((r = 5 ∨ r = 6) ∧ 1 ≤ v ∧ v ≤ 99) ∨ ((r = 7 ∨ r = 8 ∨ r = 9) ∧ v ≤ 9)) : VA (pset P r w v) := by
  have k : ∀ a b, a ≠ r → pset P r w v a b = P a b := fun a b ha => ps_i ha
  refine ⟨?_, ?_, ⟨?_, ?_, ?_⟩, ?_, ?_, ?_⟩
  · rw [k _ _ (by omega)]; exact hV.1
  · rw [k _ _ (by omega)]; exact hV.2.1
  · intro p; rw [k _ _ (by omega)]; exact hV.c1 p
  · intro p; rw [k 0 _ (by omega), k 10 _ (by omega)]; exact fun q => hV.c0 q
  · rw [rk_ext (fun p _ => k 0 p (by omega))]; exact hV.c11
  · intro u hu
    rw [k _ _ (by omega)] at hu
    have hh := hV.w hu
    by_cases e : u = w
    · subst e
      unfold VWa at hh ⊢
      rcases h with ⟨rfl, h⟩ | ⟨rfl | rfl, h⟩ | ⟨rfl | rfl | rfl, h⟩
      · rw [k 10 _ (by decide), k 1 _ (by decide), k 2 _ (by decide), k 3 _ (by decide), ps_eq, k 5 _ (by decide), k 6 _ (by decide), k 7 _ (by decide), k 8 _ (by decide), k 9 _ (by decide)]
        exact ⟨hh.1, hh.2.1, hh.2.2.1, h, hh.2.2.2.2⟩
      · rw [k 10 _ (by decide), k 1 _ (by decide), k 2 _ (by decide), k 3 _ (by decide), ps_eq, k 4 _ (by decide), k 6 _ (by decide), k 7 _ (by decide), k 8 _ (by decide), k 9 _ (by decide)]
        exact ⟨hh.1, hh.2.1, hh.2.2.1, hh.2.2.2.1, h, hh.2.2.2.2.2⟩
      · rw [k 10 _ (by decide), k 1 _ (by decide), k 2 _ (by decide), k 3 _ (by decide), ps_eq, k 4 _ (by decide), k 5 _ (by decide), k 7 _ (by decide), k 8 _ (by decide), k 9 _ (by decide)]
        exact ⟨hh.1, hh.2.1, hh.2.2.1, hh.2.2.2.1, hh.2.2.2.2.1, h, hh.2.2.2.2.2.2⟩
      · rw [k 10 _ (by decide), k 1 _ (by decide), k 2 _ (by decide), k 3 _ (by decide), ps_eq, k 4 _ (by decide), k 5 _ (by decide), k 6 _ (by decide), k 8 _ (by decide), k 9 _ (by decide)]
        exact ⟨hh.1, hh.2.1, hh.2.2.1, hh.2.2.2.1, hh.2.2.2.2.1, hh.2.2.2.2.2.1, h, hh.2.2.2.2.2.2.2⟩
      · rw [k 10 _ (by decide), k 1 _ (by decide), k 2 _ (by decide), k 3 _ (by decide), ps_eq, k 4 _ (by decide), k 5 _ (by decide), k 6 _ (by decide), k 7 _ (by decide), k 9 _ (by decide)]
        exact ⟨hh.1, hh.2.1, hh.2.2.1, hh.2.2.2.1, hh.2.2.2.2.1, hh.2.2.2.2.2.1, hh.2.2.2.2.2.2.1, h, hh.2.2.2.2.2.2.2.2⟩
      · rw [k 10 _ (by decide), k 1 _ (by decide), k 2 _ (by decide), k 3 _ (by decide), ps_eq, k 4 _ (by decide), k 5 _ (by decide), k 6 _ (by decide), k 7 _ (by decide), k 8 _ (by decide)]
        exact ⟨hh.1, hh.2.1, hh.2.2.1, hh.2.2.2.1, hh.2.2.2.2.1, hh.2.2.2.2.2.1, hh.2.2.2.2.2.2.1, hh.2.2.2.2.2.2.2.1, h⟩
    · unfold VWa at hh ⊢
      have k2 : ∀ a, pset P r w v a u = P a u := fun a => ps_j e
      rw [k 10 _ (by omega), k2, k2, k2, k2, k2, k2, k2, k2, k2]
      exact hh
  · intro u s
    rw [k 10 _ (by omega), k 1 _ (by omega), k 1 _ (by omega), k 3 _ (by omega), k 3 _ (by omega)]
    exact hV.i u s
  · unfold VSa
    rw [k 10 _ (by omega), k 10 _ (by omega), k 10 _ (by omega), k 10 _ (by omega), k 10 _ (by omega)]
    exact hV.s
