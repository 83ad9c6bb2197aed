/-! ===== the program: a tenth, a stop ===== -/
theorem CP.so {o : Nat} {P : PAy} {M : Mem} (j s : Nat) {v : Nat} (c : CP o P M) (h : (j = 6 ∧ s = 4) ∨ (j = 7 ∧ s = 6) ∨ (j = 8 ∧ s = 7) ∨ (j = 9 ∧ s = 8)) : CP o (pset P 10 s v) (mset M o j (nI v)) := by
  obtain ⟨⟨a1, a2, a3, a4⟩, ⟨b1, b2, b3⟩, c1, ⟨d1, d2, d3, d4, d5⟩, e1⟩ := c
  have kr : ∀ a b, a ≠ 10 → pset P 10 s v a b = P a b := fun a b ha => ps_i ha
  have k10 : ∀ b, b ≠ s → pset P 10 s v 10 b = P 10 b := fun b hb => ps_j hb
  have krk : ∀ q, rk (pset P 10 s v) q = rk P q := fun q => rk_ext (fun p _ => kr 0 p (by decide))
  refine ⟨⟨?_, ?_, fun q hq => ?_, fun q hq => ?_⟩, ⟨?_, ?_, ?_⟩, fun u hu i hi => ?_, ?_, fun q hq => ?_⟩
  · rw [ms_ne (by omega), k10 _ (by omega)]; exact a1
  · rw [ms_ne (by omega), krk]; exact a2
  · rw [kr _ _ (by decide)] at hq
    rw [ms_ne (by omega), krk]; exact a3 q hq
  · rw [ms_ne (by omega), kr _ _ (by decide)]; exact a4 q hq
  · rw [ms_ne (by omega), k10 _ (by omega)]; exact b1
  · rw [ms_ne (by omega), k10 _ (by omega)]; exact b2
  · rw [ms_ne (by omega), k10 _ (by omega)]; exact b3
  · rw [k10 _ (by omega)] at hu
    rw [ms_ne (by omega), kr _ _ (by omega)]; exact c1 u hu i hi
  · rcases h with ⟨rfl, rfl⟩ | ⟨rfl, rfl⟩ | ⟨rfl, rfl⟩ | ⟨rfl, rfl⟩
    · refine ⟨?_, ?_, ?_, ?_, ?_⟩
      · rw [ms_ne2 (by decide), k10 _ (by decide)]; exact d1
      · rw [ms_eq, ps_eq]
      · rw [ms_ne2 (by decide), k10 _ (by decide)]; exact d3
      · rw [ms_ne2 (by decide), k10 _ (by decide)]; exact d4
      · rw [ms_ne2 (by decide), k10 _ (by decide)]; exact d5
    · refine ⟨?_, ?_, ?_, ?_, ?_⟩
      · rw [ms_ne2 (by decide), k10 _ (by decide)]; exact d1
      · rw [ms_ne2 (by decide), k10 _ (by decide)]; exact d2
      · rw [ms_eq, ps_eq]
      · rw [ms_ne2 (by decide), k10 _ (by decide)]; exact d4
      · rw [ms_ne2 (by decide), k10 _ (by decide)]; exact d5
    · refine ⟨?_, ?_, ?_, ?_, ?_⟩
      · rw [ms_ne2 (by decide), k10 _ (by decide)]; exact d1
      · rw [ms_ne2 (by decide), k10 _ (by decide)]; exact d2
      · rw [ms_ne2 (by decide), k10 _ (by decide)]; exact d3
      · rw [ms_eq, ps_eq]
      · rw [ms_ne2 (by decide), k10 _ (by decide)]; exact d5
    · refine ⟨?_, ?_, ?_, ?_, ?_⟩
      · rw [ms_ne2 (by decide), k10 _ (by decide)]; exact d1
      · rw [ms_ne2 (by decide), k10 _ (by decide)]; exact d2
      · rw [ms_ne2 (by decide), k10 _ (by decide)]; exact d3
      · rw [ms_ne2 (by decide), k10 _ (by decide)]; exact d4
      · rw [ms_eq, ps_eq]
  · have : tk (pset P 10 s v) q = tk P q := by
      unfold tk
      rw [k10 _ (by omega)]
      exact tkn_ext (fun v => kr _ _ (by decide)) (fun v => kr _ _ (by decide)) _
    rw [ms_ne (by omega), this]; exact e1 q hq
theorem CP.spl {o : Nat} {P : PAy} {M : Mem} (j s : Nat) {v : Nat} (c : CP o P M) (h : (j = 0 ∧ s = 2) ∨ (j = 1 ∧ s = 3) ∨ (j = 2 ∧ s = 5)) : CP o (pset P 10 s v) (mset M (o + 4) j (nI v)) := by
  obtain ⟨⟨a1, a2, a3, a4⟩, ⟨b1, b2, b3⟩, c1, ⟨d1, d2, d3, d4, d5⟩, e1⟩ := c
  have kr : ∀ a b, a ≠ 10 → pset P 10 s v a b = P a b := fun a b ha => ps_i ha
  have k10 : ∀ b, b ≠ s → pset P 10 s v 10 b = P 10 b := fun b hb => ps_j hb
  have krk : ∀ q, rk (pset P 10 s v) q = rk P q := fun q => rk_ext (fun p _ => kr 0 p (by decide))
  refine ⟨⟨?_, ?_, fun q hq => ?_, fun q hq => ?_⟩, ?_, fun u hu i hi => ?_, ⟨?_, ?_, ?_, ?_, ?_⟩, fun q hq => ?_⟩
  · rw [ms_ne (by omega), k10 _ (by omega)]; exact a1
  · rw [ms_ne (by omega), krk]; exact a2
  · rw [kr _ _ (by decide)] at hq
    rw [ms_ne (by omega), krk]; exact a3 q hq
  · rw [ms_ne (by omega), kr _ _ (by decide)]; exact a4 q hq
  · rcases h with ⟨rfl, rfl⟩ | ⟨rfl, rfl⟩ | ⟨rfl, rfl⟩
    · refine ⟨?_, ?_, ?_⟩
      · rw [ms_eq, ps_eq]
      · rw [ms_ne2 (by decide), k10 _ (by decide)]; exact b2
      · rw [ms_ne2 (by decide), k10 _ (by decide)]; exact b3
    · refine ⟨?_, ?_, ?_⟩
      · rw [ms_ne2 (by decide), k10 _ (by decide)]; exact b1
      · rw [ms_eq, ps_eq]
      · rw [ms_ne2 (by decide), k10 _ (by decide)]; exact b3
    · refine ⟨?_, ?_, ?_⟩
      · rw [ms_ne2 (by decide), k10 _ (by decide)]; exact b1
      · rw [ms_ne2 (by decide), k10 _ (by decide)]; exact b2
      · rw [ms_eq, ps_eq]
  · rw [k10 _ (by omega)] at hu
    rw [ms_ne (by omega), kr _ _ (by omega)]; exact c1 u hu i hi
  · rw [ms_ne (by omega), k10 _ (by omega)]; exact d1
  · rw [ms_ne (by omega), k10 _ (by omega)]; exact d2
  · rw [ms_ne (by omega), k10 _ (by omega)]; exact d3
  · rw [ms_ne (by omega), k10 _ (by omega)]; exact d4
  · rw [ms_ne (by omega), k10 _ (by omega)]; exact d5
  · have : tk (pset P 10 s v) q = tk P q := by
      unfold tk
      rw [k10 _ (by omega)]
      exact tkn_ext (fun v => kr _ _ (by decide)) (fun v => kr _ _ (by decide)) _
    rw [ms_ne (by omega), this]; exact e1 q hq
/-- whom the player likes sits at a chair -/
theorem k_likes {o n : Nat} {P : PAy} {M : Mem} (h : PO o) (c : CP o P M) (hV : VA P) (hW : 1 ≤ P 10 1) : s2_isLikedAtChair n o M = some (cif (P 10 2 = 3 ∧ lks P) 1 0, M) := by
  have h12 := hV.w12
  have h60 := hV.n60
  obtain ⟨s1, s2, s3, s4, s5⟩ := hV.s
  have e0 : M (o + 4) 0 = nI (P 10 2) := c.2.1.1
  have e1 : M (o + 4) 1 = nI (P 10 3) := c.2.1.2.1
  unfold s2_isLikedAtChair
  rw [lo1 h, e0, c.wc]
  by_cases q : P 10 2 = 3
  · have hm : P 10 3 % P 10 1 < P 10 1 := Nat.mod_lt _ (by omega)
    obtain ⟨b1, b2, b3, -⟩ := hV.w hm
    have bc := hV.c1 (P 1 (P 10 3 % P 10 1))
    have hi : inB (nI (P 10 3 % P 10 1)) (alen (o + 9)) := by rw [al9 h]; exact vp_in_nI (by omega) (by decide)
    have el : M (link (o + 9) (nI (P 10 3 % P 10 1)).toNatClampNeg) 0 = nI (P 1 (P 10 3 % P 10 1)) := by rw [nI_clamp (by omega), lw9 h (by omega)]; exact c.w hm 0 (by decide)
    rw [if_pos (show nI (P 10 2) = 3 by rw [q]; rfl), if_neg (nI_nle (by omega) (by omega)), if_neg (nI_ne0 (by omega) (by omega)), e1, rem_e (by omega) (by omega) (by omega)]
    unfold s2_isLikedAtChair_35
    rw [k_inY h c hV hm, cb_some]
    by_cases z : P 3 (P 10 3 % P 10 1) = 1
    · rw [if_neg (show ¬ nI (P 3 (P 10 3 % P 10 1)) = 0 by rw [z]; decide), lo3 h, if_pos hi, el, lo0 h, k_hasChair h c hV (by omega), cb_some]
      by_cases y : P 0 (P 1 (P 10 3 % P 10 1)) = 1
      · rw [if_neg (show ¬ nI (P 0 (P 1 (P 10 3 % P 10 1))) = 0 by rw [y]; decide), cif_pos ⟨q, z, y⟩]
      · rw [if_pos (show nI (P 0 (P 1 (P 10 3 % P 10 1))) = 0 by rw [show P 0 (P 1 (P 10 3 % P 10 1)) = 0 by omega]; rfl), cif_neg (fun t => y t.2.2)]
    · rw [if_pos (show nI (P 3 (P 10 3 % P 10 1)) = 0 by rw [show P 3 (P 10 3 % P 10 1) = 0 by omega]; rfl), cif_neg (fun t => z t.2.1)]
  · rw [if_neg (fun t => q ((nI_is3 (by omega)).mp t)), cif_neg (fun t => q t.1)]
    unfold s2_isLikedAtChair_33 s2_isLikedAtChair_35
    rw [(k_kN c (x := -9) (Or.inl (by decide))).2, cb_some, if_pos rfl]
theorem k_stopsIn {o : Nat} {P : PAy} {M : Mem} (c : CP o P M) (hV : VA P) (h3 : P 10 6 < 300) : s3_stopsIn (o + 4) (nI (P 10 6)) (dwI (nI (P 10 5))) (cif (P 10 2 = 3 ∧ lks P) 1 0) M = some (stqI P, M) := by
  obtain ⟨s1, s2, s3, s4, s5⟩ := hV.s
  have e0 : M (o + 4) 0 = nI (P 10 2) := c.2.1.1
  have e1 : M (o + 4) 1 = nI (P 10 3) := c.2.1.2.1
  have es : ∀ (d : Prop), (stb P ↔ d) → (d → stqI P = 1) ∧ (¬ d → stqI P = 0) := fun d hc =>
    ⟨fun y => by unfold stqI; rw [cif_pos (hc.mpr y)], fun y => by unfold stqI; rw [cif_neg (fun x => y (hc.mp x))]⟩
  have sb : stb P ↔ (if P 10 2 = 1 then dwI (nI (P 10 5)) < nI (P 10 3) ∧ P 10 6 % 8 = 0 else if P 10 2 = 2 then dwI (nI (P 10 5)) < nI (P 10 3) ∧ P 10 3 ≤ P 10 6 else if P 10 2 = 3 then lks P else if P 10 2 = 4 then P 10 6 = P 10 3 else dwI (nI (P 10 5)) < nI (P 10 3)) := by
    unfold stb
    exact ⟨fun y => y.resolve_left (by omega), fun y => Or.inr y⟩
  have e8 : nI (P 10 6) - nI (P 10 6) / (8 : Int32) * (8 : Int32) = nI (P 10 6 % 8) := rem_e (d := 8) (by omega) (by decide) (by decide)
  unfold s3_stopsIn
  rw [e0, e1, e8]
  by_cases k0 : P 10 2 = 0
  · have sb2 : stb P ↔ dwI (nI (P 10 5)) < nI (P 10 3) := by
      rw [sb, if_neg (by omega), if_neg (by omega), if_neg (by omega), if_neg (by omega)]
    rw [if_pos (show nI (P 10 2) = 0 by rw [k0]; rfl)]
    by_cases d : nI (P 10 3) ≤ dwI (nI (P 10 5))
    · rw [if_pos d, (es _ sb2).2 (Int32.not_lt.mpr d)]
    · rw [if_neg d, (es _ sb2).1 (Int32.not_le.mp d)]
  rw [if_neg (fun y => k0 ((nI_is0 (by omega)).mp y))]
  by_cases k1 : P 10 2 = 1
  · rw [if_pos k1] at sb
    rw [if_pos (show nI (P 10 2) = 1 by rw [k1]; rfl)]
    by_cases t : P 10 6 % 8 = 0
    · rw [if_pos (show nI (P 10 6 % 8) = 0 by rw [t]; rfl)]
      by_cases d : nI (P 10 3) ≤ dwI (nI (P 10 5))
      · rw [if_pos d, (es _ sb).2 (fun y => Int32.not_lt.mpr d y.1)]
      · rw [if_neg d, (es _ sb).1 ⟨Int32.not_le.mp d, t⟩]
    · rw [if_neg (fun y => t ((nI_is0 (by omega)).mp y)), (es _ sb).2 (fun y => t y.2)]
  rw [if_neg (fun y => k1 ((nI_is1 (by omega)).mp y))]
  rw [if_neg k1] at sb
  by_cases k2 : P 10 2 = 2
  · rw [if_pos k2] at sb
    rw [if_pos (show nI (P 10 2) = 2 by rw [k2]; rfl)]
    by_cases t : P 10 6 < P 10 3
    · rw [if_pos (nI_lt t (by omega)), (es _ sb).2 (fun y => by omega)]
    · rw [if_neg (nI_nlt (by omega) (by omega))]
      by_cases d : nI (P 10 3) ≤ dwI (nI (P 10 5))
      · rw [if_pos d, (es _ sb).2 (fun y => Int32.not_lt.mpr d y.1)]
      · rw [if_neg d, (es _ sb).1 ⟨Int32.not_le.mp d, by omega⟩]
  rw [if_neg (fun y => k2 ((nI_is2 (by omega)).mp y))]
  rw [if_neg k2] at sb
  by_cases k3 : P 10 2 = 3
  · rw [if_pos k3] at sb
    rw [if_pos (show nI (P 10 2) = 3 by rw [k3]; rfl)]
    by_cases t : lks P
    · rw [cif_pos ⟨k3, t⟩, if_pos (show bz 1 from Or.inr rfl), (es _ sb).1 t]
    · rw [cif_neg (fun y => t y.2), if_pos (show bz 0 from Or.inl rfl), (es _ sb).2 t]
  rw [if_neg (fun y => k3 ((nI_is3 (by omega)).mp y))]
  rw [if_neg k3] at sb
  have k4 : P 10 2 = 4 := by omega
  rw [if_pos k4] at sb
  by_cases t : P 10 6 = P 10 3
  · rw [if_pos (by rw [t]), (es _ sb).1 t]
  · rw [if_neg (fun y => t ((nI_eq (by omega) (by omega)).mp y)), (es _ sb).2 t]
theorem stq_cases (P : PAy) : (stqI P = 1 ∧ stb P) ∨ (stqI P = 0 ∧ ¬ stb P) := by
  unfold stqI
  by_cases q : stb P
  · rw [cif_pos q]; exact Or.inl ⟨rfl, q⟩
  · rw [cif_neg q]; exact Or.inr ⟨rfl, q⟩
theorem k_passTenth {o n : Nat} {P : PAy} {M : Mem} (h : PO o) (c : CP o P M) (hV : VA P) (ht : P 10 6 ≤ 299) (hW : 1 ≤ P 10 1) (hn : 60 < n) : Sp (s2_passTenth n o M) (fun r M' => r = stqI (tck P) ∧ CP o (tck P) M' ∧ KFo o M M') := by
  have k10 : ∀ k, wkA P 10 k = P 10 k := fun k => wk_keep (Or.inl ⟨by decide, by decide⟩)
  have hT := V_tck hV ht
  have t1 : tck P 10 1 = P 10 1 := tck_facts.2.2.2
  unfold s2_passTenth
  refine Sp.cb (k_walkAll h c hV hn) (fun r M1 g => Sp.mlet ?_)
  obtain ⟨g1, g2⟩ := g
  have e7 : M1 o 7 = nI (P 10 6) := by rw [← k10]; exact g1.2.2.2.1.2.2.1
  rw [e7, nI_1]
  have c2 : CP o (pset (wkA P) 10 6 (P 10 6 + 1)) (mset M1 o 7 (nI (P 10 6 + 1))) := g1.so 7 6 (by omega)
  have e5 : mset M1 o 7 (nI (P 10 6 + 1)) (o + 4) 2 = nI (P 10 5) := by
    have := c2.2.1.2.2
    rw [ps_j (by decide), k10] at this
    exact this
  have eu : nI (P 10 5) * (1103515245 : Int32) + (12345 : Int32) = nI (P 10 5 * 1103515245 + 12345) := by
    rw [show (1103515245 : Int32) = nI 1103515245 from rfl, show (12345 : Int32) = nI 12345 from rfl, pk_mul, nI_add]
  have c3 : CP o (tck P) (mset (mset M1 o 7 (nI (P 10 6 + 1))) (o + 4) 2 (nI (P 10 5 * 1103515245 + 12345))) := c2.spl 2 5 (by omega)
  have f3 : KFo o M (mset (mset M1 o 7 (nI (P 10 6 + 1))) (o + 4) 2 (nI (P 10 5 * 1103515245 + 12345))) := (g2.tr (KFo.st (by omega) (by omega))).tr (KFo.st (by omega) (by omega))
  rw [lo1 h]
  have ed : s3_drawAgain (o + 4) (mset M1 o 7 (nI (P 10 6 + 1))) = some (dwI (nI (tck P 10 5)), mset (mset M1 o 7 (nI (P 10 6 + 1))) (o + 4) 2 (nI (P 10 5 * 1103515245 + 12345))) := by
    unfold s3_drawAgain
    rw [e5, eu, mlet_e, ms_eq]
    have : tck P 10 5 = P 10 5 * 1103515245 + 12345 := ps_eq
    rw [this]; rfl
  refine Sp_cbe ed ?_
  have e73 : mset (mset M1 o 7 (nI (P 10 6 + 1))) (o + 4) 2 (nI (P 10 5 * 1103515245 + 12345)) o 7 = nI (tck P 10 6) := c3.2.2.2.1.2.2.1
  have t6 := tck_6 (P := P)
  rw [e73]
  by_cases q : 300 ≤ tck P 10 6
  · have hst : stqI (tck P) = 1 := by unfold stqI; rw [cif_pos (show stb (tck P) from Or.inl q)]
    exact Sp.pos (nI_le (a := 300) q (by omega)) (Sp.ret ⟨hst.symm, c3, f3⟩)
  · refine Sp.neg (nI_ge (b := 300) (by omega) (by decide)) (Sp_cbe (k_likes h c3 hT (by omega)) (Sp_cbe (k_stopsIn c3 hT (by omega)) ?_))
    rcases stq_cases (tck P) with ⟨e, -⟩ | ⟨e, -⟩
    · rw [e]; exact Sp.neg (by decide) (Sp.ret ⟨rfl, c3, f3⟩)
    · rw [e]; exact Sp.pos rfl (Sp.ret ⟨rfl, c3, f3⟩)
/-- one goes -/
theorem CP.out {o w : Nat} {P : PAy} {M : Mem} (c : CP o P M) (hV : VA P) (hw : w < P 10 1) (h3 : P 3 w = 1) : CP o (pset P 3 w 0) (mset (mset M (o + 11 + w) 2 0) (o + 10) (P 1 w) 0) := by
  have h12 := hV.w12
  obtain ⟨⟨a1, a2, a3, a4⟩, ⟨b1, b2, b3⟩, c1, ⟨d1, d2, d3, d4, d5⟩, e1⟩ := c
  have kk : ∀ b, pset P 3 w 0 10 b = P 10 b := fun b => ps_i (by omega)
  have k0 : ∀ b, pset P 3 w 0 0 b = P 0 b := fun b => ps_i (by omega)
  have kr : ∀ q, rk (pset P 3 w 0) q = rk P q := fun q => rk_ext (fun p _ => k0 p)
  have far : ∀ q, q ≠ o + 10 → q ≠ o + 11 + w → mset (mset M (o + 11 + w) 2 0) (o + 10) (P 1 w) 0 q = M q := fun q q1 q2 => by
    rw [ms_ne q1, ms_ne q2]
  refine ⟨⟨?_, ?_, fun q hq => ?_, fun q hq => ?_⟩, ⟨?_, ?_, ?_⟩, fun u hu j hj => ?_, ⟨?_, ?_, ?_, ?_, ?_⟩, fun q hq => ?_⟩
  · rw [far _ (by omega) (by omega), kk]; exact a1
  · rw [far _ (by omega) (by omega), kr]; exact a2
  · rw [k0] at hq
    rw [far _ (by omega) (by omega), kr]; exact a3 q hq
  · rw [far _ (by omega) (by omega), k0]; exact a4 q hq
  · rw [far _ (by omega) (by omega), kk]; exact b1
  · rw [far _ (by omega) (by omega), kk]; exact b2
  · rw [far _ (by omega) (by omega), kk]; exact b3
  · rw [kk] at hu
    rw [ms_ne (by omega)]
    by_cases e : u = w
    · subst e
      by_cases e2 : j = 2
      · subst e2; rw [ms_eq]; exact congrArg nI ps_eq.symm
      · rw [ms_ne2 e2, ps_i (by omega)]; exact c1 u hu j hj
    · rw [ms_ne (by omega), ps_j e]; exact c1 u hu j hj
  · rw [far _ (by omega) (by omega), kk]; exact d1
  · rw [far _ (by omega) (by omega), kk]; exact d2
  · rw [far _ (by omega) (by omega), kk]; exact d3
  · rw [far _ (by omega) (by omega), kk]; exact d4
  · rw [far _ (by omega) (by omega), kk]; exact d5
  · have t1 : ∀ Q : PAy, tk Q q = 1 ↔ ∃ v, v < Q 10 1 ∧ Q 3 v = 1 ∧ Q 1 v = q := fun Q => tkn_1 _
    have tle : ∀ Q : PAy, tk Q q ≤ 1 := fun Q => tkn_le _
    have kp : ∀ v, pset P 3 w 0 1 v = P 1 v := fun v => ps_i (by decide)
    by_cases z : q = P 1 w
    · have : tk (pset P 3 w 0) q ≠ 1 := fun y => by
        obtain ⟨v, v1, v2, v3⟩ := (t1 _).mp y
        rw [kk] at v1
        rw [kp] at v3
        by_cases e : v = w
        · subst e; rw [ps_eq] at v2; omega
        · rw [ps_j e] at v2
          exact e (hV.i v w v1 hw v2 h3 (by omega))
      have t2 := tle (pset P 3 w 0)
      have t3 : tk (pset P 3 w 0) q = 0 := by omega
      rw [t3, z, ms_eq]; rfl
    · rw [ms_ne2 z, ms_ne (by omega), e1 q hq]
      have : tk (pset P 3 w 0) q = 1 ↔ tk P q = 1 := by
        rw [t1, t1, kk]
        constructor
        · intro ⟨v, v1, v2, v3⟩
          rw [kp] at v3
          by_cases e : v = w
          · subst e; rw [ps_eq] at v2; omega
          · rw [ps_j e] at v2; exact ⟨v, v1, v2, v3⟩
        · intro ⟨v, v1, v2, v3⟩
          by_cases e : v = w
          · subst e; exact absurd v3.symm z
          · exact ⟨v, v1, by rw [ps_j e]; exact v2, by rw [kp]; exact v3⟩
      have a := tle (pset P 3 w 0)
      have b := tle P
      have : tk (pset P 3 w 0) q = tk P q := by omega
      rw [this]
theorem ps_sw {P : PAy} {i k j l u v : Nat} (h : i ≠ k) : pset (pset P i j u) k l v = pset (pset P k l v) i j u := by
  funext a b
  show (if a = k ∧ b = l then v else if a = i ∧ b = j then u else P a b) = (if a = i ∧ b = j then u else if a = k ∧ b = l then v else P a b)
  by_cases h1 : a = i ∧ b = j
  · have h2 : ¬ (a = k ∧ b = l) := fun z => h (h1.1.symm.trans z.1)
    rw [if_neg h2, if_pos h1, if_pos h1]
  · by_cases h2 : a = k ∧ b = l
    · rw [if_pos h2, if_neg h1, if_pos h2]
    · rw [if_neg h2, if_neg h1, if_neg h1, if_neg h2]
theorem ps_same {P : PAy} {i j v : Nat} (h : P i j = v) : pset P i j v = P := by
  funext a b
  unfold pset
  by_cases q : a = i ∧ b = j
  · rw [if_pos q, q.1, q.2, h]
  · rw [if_neg q]
theorem k_end71 {o n : Nat} {P Q : PAy} {N M : Mem} (h : PO o) (c : CP o Q M) (hf : KFo o N M) (hE : erA P = Q) (hV : VA P) (h8 : P 10 8 = 0) (h2 : 2 ≤ insc P (P 10 1)) (hr : 1 ≤ rk P 60) (hn : 60 < n) : Sp (s2_endRound_71 n o (gI (goer P)) M) (fun r M' => r = gI (goer P) ∧ CP o (er P) M' ∧ KFo o N M') := by
  have h12 := hV.w12
  have hg := (goer_le (P := P)).1
  obtain ⟨o1, o2, o3, o4⟩ := er_over hV h8 h2 hr
  have hVB := V_erB hV
  have q7 : Q 10 7 = P 10 7 := by rw [← hE]; exact erA_keep (by decide) (by decide)
  have e8 : mset M o 7 0 o 8 = nI (P 10 7) := by rw [ms_ne2 (by decide), ← q7]; exact c.2.2.2.1.2.2.2.1
  unfold s2_endRound_71
  refine Sp.mlet (Sp.mlet ?_)
  rw [e8, nI_1]
  have c1 : CP o (pset Q 10 6 0) (mset M o 7 (nI 0)) := c.so 7 6 (by omega)
  have c2 : CP o (erB P) (mset (mset M o 7 0) o 8 (nI (P 10 7 + 1))) := by
    have := c1.so 8 7 (v := P 10 7 + 1) (by omega)
    have e : erB P = pset (pset Q 10 6 0) 10 7 (P 10 7 + 1) := by
      unfold erB
      rw [hE]
      funext a b
      show (if a = 10 ∧ b = 6 then 0 else if a = 10 ∧ b = 7 then P 10 7 + 1 else Q a b) = (if a = 10 ∧ b = 7 then P 10 7 + 1 else if a = 10 ∧ b = 6 then 0 else Q a b)
      by_cases h1 : a = 10 ∧ b = 6
      · rw [if_pos h1, if_neg (by omega), if_pos h1]
      · by_cases h2 : a = 10 ∧ b = 7
        · rw [if_neg h1, if_pos h2, if_pos h2]
        · rw [if_neg h1, if_neg h2, if_neg h2, if_neg h1]
    rw [e]; exact this
  have f2 : KFo o N (mset (mset M o 7 0) o 8 (nI (P 10 7 + 1))) := (hf.tr (KFo.st (by omega) (by omega))).tr (KFo.st (by omega) (by omega))
  by_cases q : goer P = 0
  · refine Sp.pos ((gI_neg (by omega)).mpr q) (Sp.mlet (Sp.ret ⟨rfl, ?_, f2.tr (KFo.st (by omega) (by omega))⟩))
    rw [er_def, if_pos (Or.inl q)]
    exact c2.so 9 8 (v := 1) (by omega)
  · have eB1 : erB P 10 1 = P 10 1 := by
      unfold erB
      rw [ps_j (by decide), ps_j (by decide), erA_keep (by decide) (by decide)]
    have eBi : insc (erB P) (P 10 1) = insc (erA P) (P 10 1) := insc_ext (fun w _ => by unfold erB; rw [ps_i (by decide), ps_i (by decide)])
    have hi := insc_le hVB (Nat.le_refl (erB P 10 1))
    rw [eB1, eBi] at hi
    refine Sp.neg (fun z => q ((gI_neg (by omega)).mp z)) (Sp_cbe (k_countIn h c2 hVB hn) ?_)
    rw [eB1, eBi]
    by_cases z : insc (erA P) (P 10 1) = 1
    · refine Sp.neg (by rw [z]; decide) (Sp.mlet (Sp.ret ⟨rfl, ?_, f2.tr (KFo.st (by omega) (by omega))⟩))
      rw [er_def, if_pos (Or.inr z)]
      exact c2.so 9 8 (v := 1) (by omega)
    · have z2 : 1 < insc (erA P) (P 10 1) := Nat.not_le.mp (fun y => z (o4.mp y))
      refine Sp.pos (nI_lt (a := 1) z2 (by omega)) (Sp.mlet (Sp.ret ⟨rfl, ?_, f2.tr (KFo.st (by omega) (by omega))⟩))
      rw [er_def, if_neg (fun y => y.elim q z)]
      have := c2.so 9 8 (v := 0) (by omega)
      rw [ps_same] at this
      · exact this
      · unfold erB
        rw [ps_j (by decide), ps_j (by decide), erA_keep (by decide) (by decide)]; exact h8
theorem k_end39 {o n : Nat} {P Q : PAy} {N M : Mem} (h : PO o) (c : CP o Q M) (hf : KFo o N M) (hQ : VA Q) (hQ1 : Q 10 1 = P 10 1) (hQ3 : ∀ v, Q 3 v = P 3 v) (hE : erA P = if goer P = 0 then Q else pset Q 3 (goer P - 1) 0) (hV : VA P) (h8 : P 10 8 = 0) (h2 : 2 ≤ insc P (P 10 1)) (hr : 1 ≤ rk P 60) (hn : 60 < n) : Sp (s2_endRound_39 n o (gI (goer P)) M) (fun r M' => r = gI (goer P) ∧ CP o (er P) M' ∧ KFo o N M') := by
  have h12 := hV.w12
  have hg := goer_le (P := P)
  unfold s2_endRound_39
  by_cases q : goer P = 0
  · rw [if_pos q] at hE
    refine Sp_cbe (k_kN c (Or.inl ((gI_neg (by omega)).mpr q))).1 (Sp.pos rfl ?_)
    exact k_end71 h c hf hE hV h8 h2 hr hn
  · rw [if_neg q] at hE
    have hw : goer P - 1 < Q 10 1 := by omega
    have h3 : Q 3 (goer P - 1) = 1 := by rw [hQ3]; exact hg.2 q
    have hp := (hQ.w hw).1
    have h60 := hQ.n60
    have hi : inB (nI (goer P - 1)) (alen (o + 9)) := by rw [al9 h]; exact vp_in_nI (by omega) (by decide)
    have el : link (o + 9) (nI (goer P - 1)).toNatClampNeg = o + 11 + (goer P - 1) := by rw [nI_clamp (by omega), lw9 h (by omega)]
    have eg := gI_pos q
    rw [eg]
    refine Sp_cbe (k_kY c hQ hw) (Sp.neg (by decide) ?_)
    rw [lo3 h]
    refine Sp.pos hi (Sp.mlet (Sp.pos hi ?_))
    rw [el]
    have e0 : mset M (o + 11 + (goer P - 1)) 2 0 (o + 11 + (goer P - 1)) 0 = nI (Q 1 (goer P - 1)) := by rw [ms_ne2 (by decide)]; exact c.w hw 0 (by decide)
    rw [e0]
    refine Sp_cbe (k_mark (v := 0) h (by omega) (by decide)) ?_
    rw [← eg]
    exact k_end71 h (c.out hQ hw h3) ((hf.tr (KFo.st (by omega) (by omega))).tr (KFo.st (by omega) (by omega))) hE hV h8 h2 hr hn
theorem k_endRound {o n : Nat} {P : PAy} {M : Mem} (h : PO o) (c : CP o P M) (hV : VA P) (h8 : P 10 8 = 0) (h2 : 2 ≤ insc P (P 10 1)) (hr : 1 ≤ rk P 60) (hn : 60 < n) : Sp (s2_endRound n o M) (fun r M' => r = gI (goer P) ∧ CP o (er P) M' ∧ KFo o M M') := by
  have h11 := hV.c11
  have h12 := hV.w12
  have hg := goer_le (P := P)
  unfold s2_endRound
  rw [lo2 h]
  refine Sp.cb (k_seatAll h c hV hn) (fun r M1 g => ?_)
  have cM := g.2.cp c
  refine Sp_cbe (k_whoGoes h cM hV ((SV_sit hV).s60 hV) g.1 hn) ?_
  have eg : gon P (sit P) (P 10 1) = goer P := rfl
  rw [eg]
  have el : s2_losesChair o (gI (goer P)) M1 = some (if goer P = 0 then 0 else if rk P 60 ≤ 1 then 0 else 1, M1) := by
    unfold s2_losesChair
    rw [lo0 h, cM.cs]
    by_cases q : goer P = 0
    · rw [if_pos ((gI_neg (by omega)).mpr q), if_pos q]
    · rw [if_neg (fun z => q ((gI_neg (by omega)).mp z)), if_neg q]
      by_cases z : rk P 60 ≤ 1
      · rw [if_pos (show nI (rk P 60) ≤ 1 from nI_le (b := 1) z (by decide)), if_pos z]
      · rw [if_neg (show ¬ nI (rk P 60) ≤ 1 from nI_ge (a := 1) (by omega) (by omega)), if_neg z]
  refine Sp_cbe el ?_
  by_cases q : goer P = 0
  · rw [if_pos q]
    refine Sp.pos rfl ?_
    exact k_end39 h cM g.2.kf hV rfl (fun _ => rfl) (by unfold erA; rw [if_pos q, if_pos q]) hV h8 h2 hr hn
  · rw [if_neg q]
    by_cases z : rk P 60 ≤ 1
    · rw [if_pos z]
      refine Sp.pos rfl ?_
      exact k_end39 h cM g.2.kf hV rfl (fun _ => rfl) (by unfold erA; rw [if_neg q, if_neg q, if_pos z]) hV h8 h2 hr hn
    · rw [if_neg z]
      refine Sp.neg (by decide) ?_
      have e6 : M1 o 6 = nI (P 10 4) := cM.2.2.2.1.2.1
      rw [lo0 h, e6]
      refine Sp_cbe (k_leaving h cM hV hr hn) ?_
      obtain ⟨l1, l2⟩ := lv_pos hV hr
      refine Sp.cb (k_take h cM hV l2 hn) (fun r M2 t => ?_)
      refine k_end39 h t.1 (g.2.kf.tr t.2) (V_ch0 hV) (ps_i (by decide)) (fun _ => ps_i (by decide)) ?_ hV h8 h2 hr hn
      unfold erA
      rw [if_neg q, if_neg q, if_neg z, ps_sw (by decide)]
