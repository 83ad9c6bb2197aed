/-! ===== the calls: images, texts, judges, what could be ===== -/
theorem c_party {n : Nat} {M : Mem} (hn : 4000 < n) (hI : IV M) : Ag M IV (s8_party n 0) (s9_party n 80) := by
  obtain ⟨⟨P, h1, h2, h3, h4⟩, hK, ⟨L, T, b1, b2, b3, b4⟩, hR, hF⟩ := hI
  obtain ⟨r, M1, e1, Q, q1, q2, q3, q4⟩ := k_party b1 b2 (show 60 < n by omega) h3 b3 h1
  have o : ∀ q, q = 80 ∨ (80 ≤ q) → M1 q = M q := fun q hq => q4 q (by omega) (by omega) (by omega)
  have rN : RP P M1 := h2.oh (fun s _ _ => by rw [o 80 (Or.inl rfl)]) (fun q x y => o q (by omega))
  have xN : RTx L T M1 := ⟨by rw [o 80 (Or.inl rfl)]; exact b4.1, fun j hj => by rw [o 92 (by omega)]; exact b4.2 j hj⟩
  obtain ⟨r', M2, g1, Q', q1', g2, g3, g4, g5, g6⟩ := r_party b1 b2 (show 60 < n by omega) h3 xN rN
  obtain ⟨u1, u2⟩ := PRs_uniq q1 q1'
  subst u1
  subst u2
  obtain ⟨v1, v2⟩ := PRs_V h3 q1
  have w : ∀ q, q < 80 → M2 q = M1 q := fun q hq => g4 q (by omega) (by omega) (by omega) (by omega) (by omega)
  refine ⟨r, M1, M2, e1, g1, ⟨Q, q2.same (fun q x y => w q (by omega)) v1.w12, g2, v1, by omega⟩, hK.k ?_ ?_ (fun q x y => ?_) (fun j hj => ?_), ⟨0, fun _ => 0, fun _ => by show 0 < 256; omega, by omega, ⟨?_, fun j hj => by omega⟩, ⟨g3, fun j hj => by omega⟩⟩, hR.k ?_ ?_ ?_ ?_, hF.k ?_ ?_ ?_ ?_⟩
  · rw [w 0 (by decide), q4 0 (by decide) (by decide) (by decide)]
  · rw [g5 30 (by decide), o 80 (Or.inl rfl)]
  · rw [w q (by omega), q4 q (by omega) (by omega) (by omega)]
  · rw [g6 j hj, o 98 (by decide)]
  · rw [w 8 (by decide)]; exact q3
  · rw [w 4 (by decide), q4 4 (by decide) (by decide) (by decide)]
  · rw [w 5 (by decide), q4 5 (by decide) (by decide) (by decide)]
  · rw [g5 42 (by decide), o 80 (Or.inl rfl)]
  · rw [g4 101 (by decide) (by decide) (by decide) (by decide) (by decide), o 101 (by decide)]
  · rw [w 6 (by decide), q4 6 (by decide) (by decide) (by decide)]
  · rw [w 7 (by decide), q4 7 (by decide) (by decide) (by decide)]
  · rw [g5 43 (by decide), o 80 (Or.inl rfl)]
  · rw [g4 102 (by decide) (by decide) (by decide) (by decide) (by decide), o 102 (by decide)]
theorem c_image {n : Nat} {M : Mem} (hn : 4000 < n) (hI : IV M) : Ag M IV (s8_image n 0) (s9_image n 80) := by
  obtain ⟨⟨P, h1, h2, h3, h4⟩, hK, hX, hR, hF⟩ := hI
  have h12 := h3.w12
  obtain ⟨r0, M0', e1, a1, a2⟩ := k_become (a := 57) (b := 11) (n := n) po57 po11 (by decide) h1 h3 (by omega)
  have eA : s8_image n 0 M = some (nI (P 10 1), mset M0' 0 7 1) := by
    unfold s8_image
    rw [show link 0 2 = 57 from rfl, show link 0 1 = 11 from rfl, e1, cb_some]
    show some (mset M0' 0 7 1 57 5, mset M0' 0 7 1) = _
    rw [ms_ne (by decide), a1.wc]
  generalize hM1 : mset M0' 0 7 1 = M1 at eA
  have f1 : ∀ q, q ≠ 0 → (q < 57 ∨ 80 ≤ q) → M1 q = M q := fun q x y => by rw [← hM1, ms_ne x, a2 q (by omega)]
  have f2 : ∀ q, 57 ≤ q → q < 80 → M1 q = M0' q := fun q x y => by rw [← hM1, ms_ne (by omega)]
  have f3 : M1 0 7 = 1 := by rw [← hM1]; exact ms_eq
  have rN : RP P (mset M1 80 30 1) := (h2.oh (fun s _ _ => by rw [f1 80 (by decide) (by decide)]) (fun q x y => f1 q (by omega) (by omega))).scl (by decide)
  obtain ⟨r2, M2, e2, k1, k2, k3, k4, k5, k6⟩ := keepAll (n := n) (by omega) (x := 0) (b := 0) (by decide) (by decide) (mset M1 80 30 1)
  have g80 : ∀ k, k ≠ 30 → k ≠ 31 → k ≠ 32 → M2 80 k = M 80 k := fun k a b c => by rw [k3 k b c, ms_ne2 a, f1 80 (by decide) (by decide)]
  have gq : ∀ q, q ≠ 80 → q ≠ 98 → M2 q = M1 q := fun q a b => by rw [k4 q a b, ms_ne a]
  have rP2 : RP P M2 := rN.oh (fun s x y => k3 s (by omega) (by omega)) (fun q x y => k4 q (by omega) (by omega))
  have eB : s9_image n 80 M1 = some (nI (P 10 1), M2) := by
    unfold s9_image
    rw [mlet_e, e2, cb_some]
    exact congrArg (fun z => some (z, M2)) (rP2.one 1 (by decide))
  refine ⟨_, M1, M2, eA, eB, ⟨P, h1.same (fun q x y => ?_) h12, rP2, h3, h4⟩, Or.inr ⟨?_, ?_, P, h3, h4, a1.same (fun q x y => ?_) h12, fun j hj => ?_⟩, hX.k ?_ ?_ ?_ ?_, hR.k ?_ ?_ ?_ ?_, hF.k ?_ ?_ ?_ ?_⟩
  · rw [gq q (by omega) (by omega), f1 q (by omega) (by omega)]
  · rw [gq 0 (by decide) (by decide)]; exact f3
  · rw [k3 30 (by decide) (by decide)]; exact ms_eq
  · rw [gq q (by omega) (by omega), f2 q (by omega) (by omega)]
  · rw [k6 j hj]; exact rN j hj
  · rw [gq 8 (by decide) (by decide), f1 8 (by decide) (by decide)]
  · rw [gq 9 (by decide) (by decide), f1 9 (by decide) (by decide)]
  · exact g80 26 (by decide) (by decide) (by decide)
  · rw [gq 92 (by decide) (by decide), f1 92 (by decide) (by decide)]
  · rw [gq 4 (by decide) (by decide), f1 4 (by decide) (by decide)]
  · rw [gq 5 (by decide) (by decide), f1 5 (by decide) (by decide)]
  · exact g80 42 (by decide) (by decide) (by decide)
  · rw [gq 101 (by decide) (by decide), f1 101 (by decide) (by decide)]
  · rw [gq 6 (by decide) (by decide), f1 6 (by decide) (by decide)]
  · rw [gq 7 (by decide) (by decide), f1 7 (by decide) (by decide)]
  · exact g80 43 (by decide) (by decide) (by decide)
  · rw [gq 102 (by decide) (by decide), f1 102 (by decide) (by decide)]
theorem c_restore {n : Nat} {M : Mem} (hn : 4000 < n) (hI : IV M) : Ag M IV (s8_restore n 0) (s9_restore n 80) := by
  rcases hI.2.1 with ⟨z1, z2⟩ | ⟨z1, z2, K, z3, z4, z5, z6⟩
  · refine nrmF hI (fun P c r hV ht => ⟨-3, P, hV, ht, ?_, fun N rN f => ?_⟩)
    · unfold s8_restore
      rw [z1, if_pos rfl]
      exact SA_ref (x := 3) c hV.w12 FPg.rf (by decide)
    · unfold s9_restore
      rw [show N 80 30 = 0 by rw [f.o 80 (by decide)]; exact z2, if_pos rfl]
      exact SB_no rN FRg.rf (by decide)
  · obtain ⟨⟨P, h1, h2, h3, h4⟩, hK, hX, hR, hF⟩ := hI
    have h12 := z3.w12
    obtain ⟨r0, M1, e1, a1, a2⟩ := k_become (a := 11) (b := 57) (n := n) po11 po57 (by decide) z5 z3 (by omega)
    have eA : s8_restore n 0 M = some (nI (K 10 1), M1) := by
      unfold s8_restore
      rw [z1, if_neg (by decide), show link 0 2 = 57 from rfl, show link 0 1 = 11 from rfl, e1, cb_some, a1.wc]
    have f1 : ∀ q, (q < 11 ∨ 57 ≤ q) → M1 q = M q := fun q y => a2 q (by omega)
    obtain ⟨r2, M2, e2, k1, k2, k3, k4, k5⟩ := backAll (n := n) (by omega) (x := 0) (b := 0) (by decide) (by decide) M1
    have rP2 : RP K M2 := fun j hj => by rw [k5 j hj, f1 98 (by decide)]; exact z6 j hj
    have eB : s9_restore n 80 M1 = some (nI (K 10 1), M2) := by
      unfold s9_restore
      rw [show M1 80 30 = 1 by rw [f1 80 (by decide)]; exact z2, if_neg (by decide), e2, cb_some]
      exact congrArg (fun z => some (z, M2)) (rP2.one 1 (by decide))
    have gq : ∀ q, q ≠ 80 → (q < 11 ∨ 92 ≤ q ∨ (57 ≤ q ∧ q < 80)) → M2 q = M q := fun q a b => by rw [k4 q a (by omega), f1 q (by omega)]
    have g80 : ∀ k, k = 30 ∨ k = 26 ∨ k = 42 ∨ k = 43 → M2 80 k = M 80 k := fun k a => by rw [k3 k (by omega) (by omega) (by omega), f1 80 (by decide)]
    refine ⟨_, M1, M2, eA, eB, ⟨K, a1.same (fun q x y => k4 q (by omega) (by omega)) h12, rP2, z3, z4⟩, hK.k ?_ ?_ (fun q x y => ?_) (fun j hj => ?_), hX.k ?_ ?_ ?_ ?_, hR.k ?_ ?_ ?_ ?_, hF.k ?_ ?_ ?_ ?_⟩
    · rw [gq 0 (by decide) (by decide)]
    · exact g80 30 (by decide)
    · exact gq q (by omega) (by omega)
    · rw [gq 98 (by decide) (by decide)]
    · rw [gq 8 (by decide) (by decide)]
    · exact gq 9 (by decide) (by decide)
    · exact g80 26 (by decide)
    · exact gq 92 (by decide) (by decide)
    · rw [gq 4 (by decide) (by decide)]
    · exact gq 5 (by decide) (by decide)
    · exact g80 42 (by decide)
    · exact gq 101 (by decide) (by decide)
    · rw [gq 6 (by decide) (by decide)]
    · exact gq 7 (by decide) (by decide)
    · exact g80 43 (by decide)
    · exact gq 102 (by decide) (by decide)
theorem c_judge {n : Nat} {x : Int32} {M : Mem} (hn : 4000 < n) (hI : IV M) : Ag M IV (s8_judge n 0 x) (s9_judge n 80 x) := by
  have hI' := hI
  obtain ⟨⟨P, h1, h2, h3, h4⟩, hK, hX, hR, ⟨m, F, c1, c2, c3, c4, c5, c6⟩⟩ := hI
  have h12 := h3.w12
  have no : s2_knowsIn 11 x M = some (0, M) → (∀ N, RP P N → s9_isThere 80 x N = some (0, N)) → Ag M IV (s8_judge n 0 x) (s9_judge n 80 x) := fun g1 g2 => by
    refine nrmF hI' (fun P' c r hV ht => ⟨-1, P', hV, ht, ?_, fun N rN f => ?_⟩)
    · unfold s8_judge
      rw [show link 0 1 = 11 from rfl, g1, cb_some, if_pos rfl]
      exact SA_ref (x := 1) c hV.w12 FPg.rf (by decide)
    · unfold s9_judge
      rw [g2 N (h2.fp f), cb_some, if_pos rfl]
      exact SB_no rN FRg.rf (by decide)
  rcases plW x h3 with ⟨w, hw, rfl⟩ | hx
  · rcases wIn h3 hw with q | q
    · exact no (by rw [k_inY po11 h1 h3 hw, q]; rfl) (fun N rN => by rw [r_isThereY rN h3 hw, q]; rfl)
    · obtain ⟨r0, M0', e1, a1, a2⟩ := k_wrong (n := n) h1 h3 hw q (by omega) c1 c2 c3 c4
      have eA : s8_judge n 0 (nI w) M = some (gI (fwA P w F m), mset M0' 6 1 0) := by
        unfold s8_judge
        rw [show link 0 1 = 11 from rfl, k_inY po11 h1 h3 hw, q, cb_some, if_neg (by decide), show link 0 0 = 2 from rfl, show link 0 4 = 6 from rfl, e1, cb_some, a1]
        rfl
      generalize hM1 : mset M0' 6 1 0 = M1 at eA
      have f1 : ∀ q, q ≠ 6 → q ≠ 2 → q ≠ 3 → (q < 34 ∨ 57 ≤ q) → M1 q = M q := fun q a b c d => by rw [← hM1, ms_ne a, a2 q b c d]
      have rN : RP P (mset M1 80 43 0) := (h2.oh (fun s _ _ => by rw [f1 80 (by decide) (by decide) (by decide) (by decide)]) (fun q x y => f1 q (by omega) (by omega) (by omega) (by omega))).scl (by decide)
      obtain ⟨r2, M2, e2, k1, k2, k3⟩ := r_keep1 (n := n) rN (by omega)
      obtain ⟨r3, M3, e3, j1, j2, j3⟩ := r_judge36 (n := n) (m := m) (w := w) (F := F) h3 hw (by omega) c1 c2 n 0 (-9) M2 (Nat.zero_le _) (by omega) k1 k2 (fun j hj => by rw [k3.1 102 (by decide) (by decide) (by decide) (by decide) (by decide), ms_ne (by decide), f1 102 (by decide) (by decide) (by decide) (by decide)]; exact c6 j hj) (Or.inl ⟨rfl, fun j hj => by omega⟩)
      have eB : s9_judge n 80 (nI w) M1 = some (gI (fwA P w F m), M3) := by
        unfold s9_judge
        rw [r_isThereY (h2.oh (fun s _ _ => by rw [f1 80 (by decide) (by decide) (by decide) (by decide)]) (fun q x y => f1 q (by omega) (by omega) (by omega) (by omega))) h3 hw, q, cb_some, if_neg (by decide), show M1 80 43 = nI m by rw [f1 80 (by decide) (by decide) (by decide) (by decide)]; exact c5, ilet_e, mlet_e, e2, cb_some, ← j1]
        exact e3
      have g80 : ∀ k, (k = 26 ∨ k = 30 ∨ k = 42) → M3 80 k = M 80 k := fun k hk => by rw [j3.2.1 k (by omega), k3.2.1 k (by omega), ms_ne2 (by omega), f1 80 (by decide) (by decide) (by decide) (by decide)]
      have gq : ∀ q, q ≠ 6 → q ≠ 2 → q ≠ 3 → q ≠ 98 → q ≠ 99 → q ≠ 100 → q ≠ 80 → (q < 34 ∨ (57 ≤ q ∧ q < 82) ∨ 92 ≤ q) → M3 q = M q := fun q a b c d e f g h => by rw [j3.1 q g d e f (by omega), k3.1 q g d e f (by omega), ms_ne g, f1 q a b c (by omega)]
      refine ⟨_, M1, M3, eA, eB, ⟨P, h1.same (fun q x y => gq q (by omega) (by omega) (by omega) (by omega) (by omega) (by omega) (by omega) (by omega)) h12, j2, h3, h4⟩, hK.k ?_ ?_ (fun q x y => ?_) (fun j hj => ?_), hX.k ?_ ?_ ?_ ?_, hR.k ?_ ?_ ?_ ?_, ⟨0, fun _ => 0, by omega, fun j hj => by omega, ?_, fun j hj => by omega, ?_, fun j hj => by omega⟩⟩
      · rw [gq 0 (by decide) (by decide) (by decide) (by decide) (by decide) (by decide) (by decide) (by decide)]
      · exact g80 30 (by decide)
      · exact gq q (by omega) (by omega) (by omega) (by omega) (by omega) (by omega) (by omega) (by omega)
      · rw [j3.2.2 j hj, k3.2.2 j hj, ms_ne (by decide), f1 98 (by decide) (by decide) (by decide) (by decide)]
      · rw [gq 8 (by decide) (by decide) (by decide) (by decide) (by decide) (by decide) (by decide) (by decide)]
      · exact gq 9 (by decide) (by decide) (by decide) (by decide) (by decide) (by decide) (by decide) (by decide)
      · exact g80 26 (by decide)
      · exact gq 92 (by decide) (by decide) (by decide) (by decide) (by decide) (by decide) (by decide) (by decide)
      · rw [gq 4 (by decide) (by decide) (by decide) (by decide) (by decide) (by decide) (by decide) (by decide)]
      · exact gq 5 (by decide) (by decide) (by decide) (by decide) (by decide) (by decide) (by decide) (by decide)
      · exact g80 42 (by decide)
      · exact gq 101 (by decide) (by decide) (by decide) (by decide) (by decide) (by decide) (by decide) (by decide)
      · rw [j3.1 6 (by decide) (by decide) (by decide) (by decide) (by decide), k3.1 6 (by decide) (by decide) (by decide) (by decide) (by decide), ms_ne (by decide), ← hM1]; exact ms_eq
      · rw [j3.2.1 43 (by decide), k3.2.1 43 (by decide)]; exact ms_eq
  · exact no (k_kN h1 hx).2 (fun N rN => r_isThereN rN hx)
theorem c_count {n : Nat} {x : Int32} {M : Mem} (hn : 4000 < n) (hI : IV M) : Ah M (s8_count n 0 x) (s9_count n 80 x) := by
  refine nrmh hI (fun P c r hV ht => ?_)
  have lt11 : ¬ (11 : Int32) ≤ x → x < 11 := Ilt
  have gt16 : ¬ x ≤ 16 → (16 : Int32) < x := Ilt
  have c22 : Sp (s8_count_22 n 0 x M) (fun _ M1 => CP 11 P M1 ∧ FPg M M1) := by
    have k : ∀ v : Int32, Sp (some (v, M)) (fun _ M1 => CP 11 P M1 ∧ FPg M M1) := fun v => Sp.ret ⟨c, FPg.rf⟩
    unfold s8_count_22
    refine Sp.ite (fun _ => k _) (fun _ => Sp.ite (fun _ => k _) (fun _ => Sp.ite (fun _ => k _) (fun _ => Sp.ite (fun _ => ?_) (fun _ => Sp.ite (fun _ => k _) (fun _ => Sp.ite (fun _ => k _) (fun _ => Sp.ite (fun _ => k _) (fun _ => Sp.ite (fun _ => k _) (fun _ => Sp.ite (fun _ => k _) (fun _ => k _)))))))))
    rw [show link 0 1 = 11 from rfl, k_countIn po11 c hV (by omega), cb_some]
    exact k _
  have i6 : (11 : Int32) ≤ x → x ≤ 16 → inB (x - (10 : Int32)) 7 := fun a b => by
    obtain ⟨v, v1, v2, v3⟩ := inI (x := x) (a := 11) (b := 16) (by decide) (by decide) (by
      unfold wy
      rw [if_neg (Inl a), if_neg (Inl b : ¬ nI 16 < x)])
    have v4 : 11 ≤ v := (nI_leI (a := 11) (by decide) (by omega)).mp v3
    have : x - 10 = nI (v - 10) := by rw [v2]; exact sub_e (b := 10) (by omega)
    rw [this]
    exact vp_in_nI (by omega) (by decide)
  refine ⟨?_, fun N rN => ?_⟩
  · unfold s8_count
    refine Sp.ite (fun _ => c22) (fun a => Sp.ite (fun _ => c22) (fun b => ?_))
    exact Sp.pos (i6 (Ile a) (Ile b)) (Sp.ret ⟨c, FPg.rf⟩)
  · have k : ∀ v : Int32, Sp (some (v, N)) (fun _ M1 => RP P M1 ∧ FRg N M1) := fun v => Sp.ret ⟨rN, FRg.rf⟩
    unfold s9_count
    rw [k_isIn, cb_some]
    by_cases a : (11 : Int32) ≤ x ∧ x ≤ 16
    · rw [if_pos a, if_neg (by decide)]
      exact Sp.pos (i6 a.1 a.2) (k _)
    · rw [if_neg a, if_pos rfl, r_chairs rN hV (by omega), r_ins rN hV (by omega), cb_some, cb_some]
      exact Sp.ite (fun _ => k _) (fun _ => Sp.ite (fun _ => k _) (fun _ => Sp.ite (fun _ => k _) (fun _ => Sp.ite (fun _ => k _) (fun _ => Sp.ite (fun _ => k _) (fun _ => Sp.ite (fun _ => k _) (fun _ => Sp.ite (fun _ => k _) (fun _ => Sp.ite (fun _ => k _) (fun _ => Sp.ite (fun _ => k _) (fun _ => k _)))))))))
