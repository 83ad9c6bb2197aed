/-! ===== the calls: teams, rows, films ===== -/
theorem nrmF {A B : Mem → Option Res} {M : Mem} (hI : IV M) (h : ∀ P, CP 11 P M → RP P M → VA P → P 10 6 ≤ 299 → ∃ a Q, VA Q ∧ Q 10 6 ≤ 299 ∧ SA M Q a (A M) ∧ ∀ N, RP P N → FPg M N → SB N Q a (B N)) : Ag M IV A B := by
  obtain ⟨⟨P, h1, h2, h3, h4⟩, h5⟩ := hI
  obtain ⟨a, Q, q1, q2, qA, qB⟩ := h P h1 h2 h3 h4
  obtain ⟨r, M1, e1, e2, e3, e4⟩ := qA
  obtain ⟨r', M2, g1, g2, g3, g4⟩ := qB M1 (h2.fp e4) e4
  exact ⟨r, M1, M2, e1, by rw [g1, g2, e2], ⟨Q, e3.fr g4 q1.w12, g3, q1, q2⟩, rest_keep h5 e4 g4⟩
theorem FPg.o {M M' : Mem} (h : FPg M M') (q : Nat) (hq : q = 80 ∨ (q < 11 ∧ 3 < q) ∨ q = 0 ∨ 57 ≤ q) : M' q = M q := h q (by omega) (by omega) (by omega) (by omega)
theorem c_team {n : Nat} {x x2 x3 x4 : Int32} {M : Mem} (hn : 4000 < n) (hI : IV M) : Ag M IV (s8_team n 0 x x2 x3 x4) (s9_team n 80 x x2 x3 x4) := by
  refine nrm hI (fun P c r hV ht => ?_)
  have h12 := hV.w12
  -- who is there, on both sides
  have wh : ∀ y : Int32, (s2_knowsIn 11 y M = some (0, M) ∧ ∀ N, RP P N → s9_isThere 80 y N = some (0, N)) ∨ ∃ w, w < P 10 1 ∧ P 3 w = 1 ∧ y = nI w ∧ s2_knowsIn 11 y M = some (1, M) ∧ ∀ N, RP P N → s9_isThere 80 y N = some (1, N) := fun y => by
    rcases plW y hV with ⟨w, hw, rfl⟩ | hx
    · rcases wIn hV hw with q | q
      · exact Or.inl ⟨by rw [k_inY po11 c hV hw, q]; rfl, fun N rN => by rw [r_isThereY rN hV hw, q]; rfl⟩
      · exact Or.inr ⟨w, hw, q, rfl, by rw [k_inY po11 c hV hw, q]; rfl, fun N rN => by rw [r_isThereY rN hV hw, q]; rfl⟩
    · exact Or.inl ⟨(k_kN c hx).2, fun N rN => r_isThereN rN hx⟩
  rcases wh x with ⟨h1, g1⟩ | ⟨a, ha, a3, rfl, h1, g1⟩
  · refine ⟨-1, P, hV, ht, ?_, fun N rN => ?_⟩
    · unfold s8_team
      rw [show link 0 1 = 11 from rfl]
      by_cases e : x = x2
      · rw [if_pos e]; exact SA_ref (x := 1) c h12 FPg.rf (by decide)
      · rw [if_neg e, h1, cb_some, if_pos rfl]; exact SA_ref (x := 1) c h12 FPg.rf (by decide)
    · unfold s9_team
      rw [g1 N rN, cb_some, if_pos rfl]; exact SB_no rN FRg.rf (by decide)
  rcases wh x2 with ⟨h2, g2⟩ | ⟨b, hb, b3, rfl, h2, g2⟩
  · refine ⟨-1, P, hV, ht, ?_, fun N rN => ?_⟩
    · unfold s8_team
      rw [show link 0 1 = 11 from rfl]
      by_cases e : nI a = x2
      · rw [if_pos e]; exact SA_ref (x := 1) c h12 FPg.rf (by decide)
      · rw [if_neg e, h1, cb_some, if_neg (by decide), h2, cb_some, if_pos rfl]; exact SA_ref (x := 1) c h12 FPg.rf (by decide)
    · unfold s9_team
      rw [g1 N rN, cb_some, if_neg (by decide), g2 N rN, cb_some, if_pos rfl]; exact SB_no rN FRg.rf (by decide)
  by_cases e : nI a = nI b
  · refine ⟨-1, P, hV, ht, ?_, fun N rN => ?_⟩
    · unfold s8_team
      rw [if_pos e]; exact SA_ref (x := 1) c h12 FPg.rf (by decide)
    · unfold s9_team
      rw [g1 N rN, cb_some, if_neg (by decide), g2 N rN, cb_some, if_neg (by decide), if_pos e]; exact SB_no rN FRg.rf (by decide)
  by_cases w : (0 : Int32) ≤ x4 ∧ x4 ≤ 1
  · have eA : s8_team n 0 (nI a) (nI b) x3 x4 M = if wy x3 1 200 = 0 then (if x4 = 0 then (cb (s0_teamGain n 2 (nI a) (nI b) x3 M) (fun r16 M15 => some (r16, M15))) else (cb (s0_sitsWhenHeld n 2 (nI a) (nI b) x3 M) (fun r14 M13 => some (r14, M13)))) else (cb (s8_refuse 0 (wy x3 1 200) M) (fun r18 M17 => some (r18, M17))) := by
      unfold s8_team
      rw [if_neg e, show link 0 1 = 11 from rfl, h1, cb_some, if_neg (by decide), h2, cb_some, if_neg (by decide), if_neg (Inl w.1), if_pos w.2, k_within, cb_some]
      rfl
    have eB : ∀ N, RP P N → s9_team n 80 (nI a) (nI b) x3 x4 N = if -wy x3 1 200 = 0 then (cb (s9_findOdds n 80 x3 (nI a) (nI b) N) (fun _ M13 => if x4 = (1 : Int32) then (some (M13 80 36, M13)) else (if inB (nI a) (alen (link 80 34)) then if inB (nI b) (alen (link 80 34)) then if (M13 (link 80 34) (nI a).toNatClampNeg) ≤ (M13 (link 80 34) (nI b).toNatClampNeg) then (if inB (nI b) (alen (link 80 34)) then some ((M13 80 35) - (M13 (link 80 34) (nI b).toNatClampNeg), M13) else none) else (if inB (nI a) (alen (link 80 34)) then some ((M13 80 35) - (M13 (link 80 34) (nI a).toNatClampNeg), M13) else none) else none else none))) else (cb (s9_no 80 (-wy x3 1 200) N) (fun r16 M15 => some (r16, M15))) := fun N rN => by
      unfold s9_team
      rw [g1 N rN, cb_some, if_neg (by decide), g2 N rN, cb_some, if_neg (by decide), if_neg e, k_isIn, if_pos w, cb_some, if_neg (by decide), k_bound, cb_some]
    by_cases q : wy x3 1 200 = 0
    · obtain ⟨m, m1, m2, rfl⟩ := inI1 (b := 200) (by decide) q
      have ia : inB (nI a) (alen (link 80 34)) := vp_in_nI (N := 12) (by omega) (by decide)
      have ib : inB (nI b) (alen (link 80 34)) := vp_in_nI (N := 12) (by omega) (by decide)
      by_cases z : x4 = 0
      · refine ⟨nI (tgA P a b m) - (if nI (cnA P a m) < nI (cnA P b m) then nI (cnA P b m) else nI (cnA P a m)), P, hV, ht, ?_, fun N rN => ?_⟩
        · rw [eA, if_pos q, if_pos z]
          exact Sp.cb (k_team c hV ha hb (by omega) m2) (fun _ M1 t => Sp.ret ⟨t.1, t.2.cp (Or.inl rfl) c h12, t.2.fp⟩)
        · rw [eB N rN, if_pos (show -wy (nI m) 1 200 = 0 by rw [q]; decide)]
          refine Sp.cb (r_findOdds rN hV (by omega) m2 (Or.inr ⟨rfl, rfl, ha, hb⟩)) (fun _ N1 t => ?_)
          obtain ⟨t1, t2, t3, t4⟩ := t
          have ea : N1 (link 80 34) (nI a).toNatClampNeg = nI (cnA P a m) := by rw [nI_clamp (by omega)]; exact t3 a ha
          have eb : N1 (link 80 34) (nI b).toNatClampNeg = nI (cnA P b m) := by rw [nI_clamp (by omega)]; exact t3 b hb
          obtain ⟨t5, t6⟩ := t4 (nI_pos' (by omega))
          refine Sp.neg (by rw [z]; decide) (Sp.pos ia (Sp.pos ib ?_))
          rw [ea, eb, t5]
          by_cases k1 : nI (cnA P a m) < nI (cnA P b m)
          · rw [if_pos k1]
            exact Sp.pos (Int32.le_of_lt k1) (Sp.pos ib (Sp.ret ⟨rfl, t1, t2.fr⟩))
          · rw [if_neg k1]
            by_cases k2 : nI (cnA P a m) ≤ nI (cnA P b m)
            · have : nI (cnA P a m) = nI (cnA P b m) := Int32.le_antisymm k2 (Ile k1)
              exact Sp.pos k2 (Sp.pos ib (Sp.ret ⟨by rw [this], t1, t2.fr⟩))
            · exact Sp.neg k2 (Sp.pos ia (Sp.ret ⟨rfl, t1, t2.fr⟩))
      · have x1 : x4 = 1 := by
          obtain ⟨v, v1, v2, -⟩ := inI (x := x4) (a := 0) (b := 1) (by decide) (by decide) (by
            unfold wy
            rw [if_neg (Inl w.1), if_neg (Inl w.2 : ¬ nI 1 < x4)])
          have : v = 1 := by
            have : v ≠ 0 := fun t => z (by rw [v2, t]; rfl)
            omega
          rw [v2, this]; rfl
        refine ⟨nI (hlA P a b m), P, hV, ht, ?_, fun N rN => ?_⟩
        · rw [eA, if_pos q, if_neg z]
          exact Sp.cb (k_held c hV ha hb b3 (by omega) m2) (fun _ M1 t => Sp.ret ⟨t.1, t.2.cp (Or.inl rfl) c h12, t.2.fp⟩)
        · rw [eB N rN, if_pos (show -wy (nI m) 1 200 = 0 by rw [q]; decide)]
          refine Sp.cb (r_findOdds rN hV (by omega) m2 (Or.inr ⟨rfl, rfl, ha, hb⟩)) (fun _ N1 t => ?_)
          obtain ⟨t1, t2, t3, t4⟩ := t
          exact Sp.pos x1 (Sp.ret ⟨(t4 (nI_pos' (by omega))).2, t1, t2.fr⟩)
    · refine ⟨-wy x3 1 200, P, hV, ht, ?_, fun N rN => ?_⟩
      · rw [eA, if_neg q]; exact SA_ref c h12 FPg.rf (wy_ref q)
      · rw [eB N rN, if_neg (wy_neg q)]; exact SB_no rN FRg.rf (wy_no q)
  · refine ⟨-2, P, hV, ht, ?_, fun N rN => ?_⟩
    · unfold s8_team
      rw [if_neg e, show link 0 1 = 11 from rfl, h1, cb_some, if_neg (by decide), h2, cb_some, if_neg (by decide)]
      by_cases k : x4 < 0
      · rw [if_pos k]; exact SA_ref (x := 2) c h12 FPg.rf (by decide)
      · rw [if_neg k, if_neg (show ¬ x4 ≤ 1 from fun t => w ⟨Ile k, t⟩)]; exact SA_ref (x := 2) c h12 FPg.rf (by decide)
    · unfold s9_team
      rw [g1 N rN, cb_some, if_neg (by decide), g2 N rN, cb_some, if_neg (by decide), if_neg e, k_isIn, if_neg w, cb_some, if_pos rfl]; exact SB_no rN FRg.rf (by decide)
theorem IKe.k {M M' : Mem} (h : IKe M) (h1 : M' 0 7 = M 0 7) (h2 : M' 80 30 = M 80 30) (h3 : ∀ q, 57 ≤ q → q < 80 → M' q = M q) (h4 : ∀ j, j < 200 → M' 98 j = M 98 j) : IKe M' := by
  unfold IKe
  rw [h1, h2]
  rcases h with a | ⟨a1, a2, K, a3, a4, a5, a6⟩
  · exact Or.inl a
  · exact Or.inr ⟨a1, a2, K, a3, a4, a5.same (fun q x y => h3 q x y) a3.w12, fun j hj => by rw [h4 _ (by omega)]; exact a6 j hj⟩
theorem IXt.k {M M' : Mem} (h : IXt M) (h1 : M' 8 4 = M 8 4) (h2 : M' 9 = M 9) (h3 : M' 80 26 = M 80 26) (h4 : M' 92 = M 92) : IXt M' := by
  obtain ⟨L, T, b1, b2, b3, b4⟩ := h
  exact ⟨L, T, b1, b2, ⟨by rw [h1]; exact b3.1, fun j hj => by rw [h2]; exact b3.2 j hj⟩, ⟨by rw [h3]; exact b4.1, fun j hj => by rw [h4]; exact b4.2 j hj⟩⟩
theorem IRw.k {M M' : Mem} (h : IRw M) (h1 : M' 4 1 = M 4 1) (h2 : M' 5 = M 5) (h3 : M' 80 42 = M 80 42) (h4 : M' 101 = M 101) : IRw M' := by
  unfold IRw
  rw [h1, h2, h3, h4]; exact h
theorem IFm.k {M M' : Mem} (h : IFm M) (h1 : M' 6 1 = M 6 1) (h2 : M' 7 = M 7) (h3 : M' 80 43 = M 80 43) (h4 : M' 102 = M 102) : IFm M' := by
  unfold IFm
  rw [h1, h2, h3, h4]; exact h
theorem k_append {o m l : Nat} {x : Int32} {M : Mem} (hl : l < 1000) (ha : alen (link o 0) = l) (h1 : M o 1 = nI m) (hm : m < l) (hne : link o 0 ≠ o) : s1_append o x M = some (nI (m + 1), mset (mset M (link o 0) m x) o 1 (nI (m + 1))) := by
  unfold s1_append s1_isFull
  rw [h1, ha, if_pos (show nI m < Int32.ofNat l from nI_lt hm (by omega)), cb_some, if_pos rfl, h1, if_pos (show inB (nI m) l from vp_in_nI hm (by omega)), nI_clamp (by omega)]
  show some (mset (mset M (link o 0) m x) o 1 (mset M (link o 0) m x o 1 + 1) o 1, mset (mset M (link o 0) m x) o 1 (mset M (link o 0) m x o 1 + 1)) = _
  rw [ms_eq, ms_ne (Ne.symm hne), h1, nI_1]
theorem c_row {n : Nat} {x : Int32} {M : Mem} (hI : IV M) : Ag M IV (s8_row n 0 x) (s9_row n 80 x) := by
  obtain ⟨m, F, c1, c2, c3, c4, c5, c6⟩ := hI.2.2.2.1
  by_cases a : wy x 1 300 = 0
  · by_cases z : m = 16
    · refine nrmF hI (fun P c r hV ht => ⟨-6, P, hV, ht, ?_, fun N rN f => ?_⟩)
      · unfold s8_row s8_row_26
        rw [k_within, a, cb_some, if_pos rfl]
        have : s1_isFull (link 0 3) M = some (1, M) := by
          unfold s1_isFull
          rw [show M (link 0 3) 1 = nI m from c3, if_neg (show ¬ nI m < Int32.ofNat (alen (link (link 0 3) 0)) from nI_nlt (b := 16) (by omega) (by omega))]
        rw [this, cb_some, if_neg (by decide), if_neg (by decide)]
        exact SA_ref (x := 6) c hV.w12 FPg.rf (by decide)
      · unfold s9_row s9_row_25
        rw [k_bound, a, cb_some, if_pos (by decide), show N 80 42 = nI m by rw [f.o 80 (by decide)]; exact c5, if_pos (by rw [z]; rfl), if_neg (by decide)]
        exact SB_no rN FRg.rf (by decide)
    · obtain ⟨v, v1, v2, rfl⟩ := inI1 (b := 300) (by decide) a
      obtain ⟨⟨P, h1, h2, h3, h4⟩, hK, hX, hR, hF⟩ := hI
      have eA : s8_row n 0 (nI v) M = some (nI (m + 1), mset (mset M 5 m (nI v)) 4 1 (nI (m + 1))) := by
        unfold s8_row s8_row_26
        rw [k_within, a, cb_some, if_pos rfl]
        have : s1_isFull (link 0 3) M = some (0, M) := by
          unfold s1_isFull
          rw [show M (link 0 3) 1 = nI m from c3, if_pos (show nI m < Int32.ofNat (alen (link (link 0 3) 0)) from nI_lt (b := 16) (by omega) (by decide))]
        rw [this, cb_some, if_pos rfl, if_pos rfl, k_append (o := link 0 3) (l := 16) (by decide) rfl c3 (by omega) (by decide), cb_some]
        rfl
      have eB : ∀ N, N 80 42 = nI m → s9_row n 80 (nI v) N = some (nI (m + 1), mset (mset N 101 m (nI v)) 80 42 (nI (m + 1))) := fun N e => by
        unfold s9_row s9_row_25
        rw [k_bound, a, cb_some, if_pos (by decide), e, if_neg (show ¬ nI m = (16 : Int32) from fun t => z ((nI_eq (b := 16) (by omega) (by decide)).mp t)), if_pos (by decide), if_pos (show inB (nI m) (alen (link 80 40)) from vp_in_nI (N := 16) (by omega) (by decide)), nI_clamp (by omega)]
        show some (mset (mset N 101 m (nI v)) 80 42 (mset N 101 m (nI v) 80 42 + 1) 80 42, mset (mset N 101 m (nI v)) 80 42 (mset N 101 m (nI v) 80 42 + 1)) = _
        rw [ms_eq, ms_ne (by decide), e, nI_1]
      refine ⟨_, _, _, eA, eB _ (by rw [ms_ne (by decide), ms_ne (by decide)]; exact c5), ⟨P, h1.same (fun q x y => by rw [ms_ne (by omega), ms_ne (by omega), ms_ne (by omega), ms_ne (by omega)]) h3.w12, h2.oh (fun s x y => by rw [ms_ne2 (by omega), ms_ne (by decide), ms_ne (by decide), ms_ne (by decide)]) (fun q x y => by rw [ms_ne (by omega), ms_ne (by omega), ms_ne (by omega), ms_ne (by omega)]), h3, h4⟩, hK.k ?_ ?_ (fun q x y => ?_) (fun j _ => ?_), hX.k ?_ ?_ ?_ ?_, ⟨m + 1, fun j => if j = m then v else F j, by omega, fun j hj => ?_, ?_, fun j hj => ?_, ms_eq, fun j hj => ?_⟩, hF.k ?_ ?_ ?_ ?_⟩
      · rw [ms_ne (by decide), ms_ne (by decide), ms_ne (by decide), ms_ne (by decide)]
      · rw [ms_ne2 (by decide), ms_ne (by decide), ms_ne (by decide), ms_ne (by decide)]
      · rw [ms_ne (by omega), ms_ne (by omega), ms_ne (by omega), ms_ne (by omega)]
      · rw [ms_ne (by decide), ms_ne (by decide), ms_ne (by decide), ms_ne (by decide)]
      · rw [ms_ne (by decide), ms_ne (by decide), ms_ne (by decide), ms_ne (by decide)]
      · rw [ms_ne (by decide), ms_ne (by decide), ms_ne (by decide), ms_ne (by decide)]
      · rw [ms_ne2 (by decide), ms_ne (by decide), ms_ne (by decide), ms_ne (by decide)]
      · rw [ms_ne (by decide), ms_ne (by decide), ms_ne (by decide), ms_ne (by decide)]
      · show 1 ≤ (if j = m then v else F j) ∧ (if j = m then v else F j) ≤ 300
        by_cases e : j = m
        · rw [if_pos e]; exact ⟨v1, v2⟩
        · rw [if_neg e]; exact c2 j (by omega)
      · rw [ms_ne (by decide), ms_ne (by decide), ms_eq]
      · rw [ms_ne (by decide), ms_ne (by decide), ms_ne (by decide)]
        show mset M 5 m (nI v) 5 j = nI (if j = m then v else F j)
        by_cases e : j = m
        · subst e; rw [ms_eq, if_pos rfl]
        · rw [ms_ne2 e, if_neg e]; exact c4 j (by omega)
      · rw [ms_ne (by decide)]
        show mset _ 101 m (nI v) 101 j = nI (if j = m then v else F j)
        by_cases e : j = m
        · subst e; rw [ms_eq, if_pos rfl]
        · rw [ms_ne2 e, if_neg e, ms_ne (by decide), ms_ne (by decide)]; exact c6 j (by omega)
      · rw [ms_ne (by decide), ms_ne (by decide), ms_ne (by decide), ms_ne (by decide)]
      · rw [ms_ne (by decide), ms_ne (by decide), ms_ne (by decide), ms_ne (by decide)]
      · rw [ms_ne2 (by decide), ms_ne (by decide), ms_ne (by decide), ms_ne (by decide)]
      · rw [ms_ne (by decide), ms_ne (by decide), ms_ne (by decide), ms_ne (by decide)]
  · refine nrmF hI (fun P c r hV ht => ⟨-wy x 1 300, P, hV, ht, ?_, fun N rN f => ?_⟩)
    · unfold s8_row s8_row_26
      rw [k_within, cb_some, if_neg a, if_neg a]
      exact SA_ref c hV.w12 FPg.rf (wy_ref a)
    · unfold s9_row s9_row_25
      rw [k_bound, cb_some, if_neg (wy_neg a), if_neg (wy_neg a)]
      exact SB_no rN FRg.rf (wy_no a)
theorem c_film {x : Int32} {M : Mem} (hI : IV M) : Ag M IV (s8_film 0 x) (s9_film 80 x) := by
  obtain ⟨m, F, c1, c2, c3, c4, c5, c6⟩ := hI.2.2.2.2
  have hI' := hI
  obtain ⟨⟨P, h1, h2, h3, h4⟩, hK, hX, hR, hF⟩ := hI
  have h60 := h3.n60
  have full : s1_isFull (link 0 4) M = some (if m = 60 then 1 else 0, M) := by
    unfold s1_isFull
    rw [show M (link 0 4) 1 = nI m from c3]
    by_cases z : m = 60
    · rw [if_neg (show ¬ nI m < Int32.ofNat (alen (link (link 0 4) 0)) from nI_nlt (b := 60) (by omega) (by omega)), if_pos z]
    · rw [if_pos (show nI m < Int32.ofNat (alen (link (link 0 4) 0)) from nI_lt (b := 60) (by omega) (by decide)), if_neg z]
  rcases pl0 x h3 with ⟨v, v1, rfl⟩ | hx
  · by_cases z : m = 60
    · refine nrmF hI' (fun P' c r hV ht => ⟨-6, P', hV, ht, ?_, fun N rN f => ?_⟩)
      · unfold s8_film
        rw [show link (link 0 1) 0 = 11 + 1 from rfl, k_isPlY h1 h3 v1, cb_some, if_neg (by decide), full, if_pos z, cb_some, if_neg (by decide)]
        exact SA_ref (x := 6) c hV.w12 FPg.rf (by decide)
      · unfold s9_film
        rw [r_isPlaceY (h2.fp f) h3 v1, cb_some, if_neg (by decide), show N 80 43 = nI m by rw [f.o 80 (by decide)]; exact c5, if_pos (by rw [z]; rfl)]
        exact SB_no rN FRg.rf (by decide)
    · have eA : s8_film 0 (nI v) M = some (nI (m + 1), mset (mset M 7 m (nI v)) 6 1 (nI (m + 1))) := by
        unfold s8_film
        rw [show link (link 0 1) 0 = 11 + 1 from rfl, k_isPlY h1 h3 v1, cb_some, if_neg (by decide), full, if_neg z, cb_some, if_pos rfl, k_append (o := link 0 4) (l := 60) (by decide) rfl c3 (by omega) (by decide), cb_some]
        rfl
      have eB : ∀ N, RP P N → N 80 43 = nI m → s9_film 80 (nI v) N = some (nI (m + 1), mset (mset N 102 m (nI v)) 80 43 (nI (m + 1))) := fun N rN e => by
        unfold s9_film
        rw [r_isPlaceY rN h3 v1, cb_some, if_neg (by decide), e, if_neg (show ¬ nI m = (60 : Int32) from fun t => z ((nI_eq (b := 60) (by omega) (by decide)).mp t)), if_pos (show inB (nI m) (alen (link 80 41)) from vp_in_nI (N := 60) (by omega) (by decide)), nI_clamp (by omega)]
        show some (mset (mset N 102 m (nI v)) 80 43 (mset N 102 m (nI v) 80 43 + 1) 80 43, mset (mset N 102 m (nI v)) 80 43 (mset N 102 m (nI v) 80 43 + 1)) = _
        rw [ms_eq, ms_ne (by decide), e, nI_1]
      refine ⟨_, _, _, eA, eB _ (h2.oh (fun s x y => by rw [ms_ne (by decide), ms_ne (by decide)]) (fun q x y => by rw [ms_ne (by omega), ms_ne (by omega)])) (by rw [ms_ne (by decide), ms_ne (by decide)]; exact c5), ⟨P, h1.same (fun q x y => by rw [ms_ne (by omega), ms_ne (by omega), ms_ne (by omega), ms_ne (by omega)]) h3.w12, h2.oh (fun s x y => by rw [ms_ne2 (by omega), ms_ne (by decide), ms_ne (by decide), ms_ne (by decide)]) (fun q x y => by rw [ms_ne (by omega), ms_ne (by omega), ms_ne (by omega), ms_ne (by omega)]), h3, h4⟩, hK.k ?_ ?_ (fun q x y => ?_) (fun j _ => ?_), hX.k ?_ ?_ ?_ ?_, hR.k ?_ ?_ ?_ ?_, ⟨m + 1, fun j => if j = m then v else F j, by omega, fun j hj => ?_, ?_, fun j hj => ?_, ms_eq, fun j hj => ?_⟩⟩
      · rw [ms_ne (by decide), ms_ne (by decide), ms_ne (by decide), ms_ne (by decide)]
      · rw [ms_ne2 (by decide), ms_ne (by decide), ms_ne (by decide), ms_ne (by decide)]
      · rw [ms_ne (by omega), ms_ne (by omega), ms_ne (by omega), ms_ne (by omega)]
      · rw [ms_ne (by decide), ms_ne (by decide), ms_ne (by decide), ms_ne (by decide)]
      · rw [ms_ne (by decide), ms_ne (by decide), ms_ne (by decide), ms_ne (by decide)]
      · rw [ms_ne (by decide), ms_ne (by decide), ms_ne (by decide), ms_ne (by decide)]
      · rw [ms_ne2 (by decide), ms_ne (by decide), ms_ne (by decide), ms_ne (by decide)]
      · rw [ms_ne (by decide), ms_ne (by decide), ms_ne (by decide), ms_ne (by decide)]
      · rw [ms_ne (by decide), ms_ne (by decide), ms_ne (by decide), ms_ne (by decide)]
      · rw [ms_ne (by decide), ms_ne (by decide), ms_ne (by decide), ms_ne (by decide)]
      · rw [ms_ne2 (by decide), ms_ne (by decide), ms_ne (by decide), ms_ne (by decide)]
      · rw [ms_ne (by decide), ms_ne (by decide), ms_ne (by decide), ms_ne (by decide)]
      · show (if j = m then v else F j) < 60
        by_cases e : j = m
        · rw [if_pos e]; omega
        · rw [if_neg e]; exact c2 j (by omega)
      · rw [ms_ne (by decide), ms_ne (by decide), ms_eq]
      · rw [ms_ne (by decide), ms_ne (by decide), ms_ne (by decide)]
        show mset M 7 m (nI v) 7 j = nI (if j = m then v else F j)
        by_cases e : j = m
        · subst e; rw [ms_eq, if_pos rfl]
        · rw [ms_ne2 e, if_neg e]; exact c4 j (by omega)
      · rw [ms_ne (by decide)]
        show mset _ 102 m (nI v) 102 j = nI (if j = m then v else F j)
        by_cases e : j = m
        · subst e; rw [ms_eq, if_pos rfl]
        · rw [ms_ne2 e, if_neg e, ms_ne (by decide), ms_ne (by decide)]; exact c6 j (by omega)
  · refine nrmF hI' (fun P' c r hV ht => ⟨-1, P', hV, ht, ?_, fun N rN f => ?_⟩)
    · unfold s8_film
      rw [show link (link 0 1) 0 = 11 + 1 from rfl, k_isPlN h1 hx, cb_some, if_pos rfl]
      exact SA_ref (x := 1) c hV.w12 FPg.rf (by decide)
    · unfold s9_film
      rw [r_isPlaceN (h2.fp f) hx, cb_some, if_pos rfl]
      exact SB_no rN FRg.rf (by decide)
