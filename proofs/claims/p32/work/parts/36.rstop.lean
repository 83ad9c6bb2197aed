/-! ===== the reference: a stop, a tenth, a party that goes on ===== -/
theorem er_def {P : PAy} : er P = if goer P = 0 ∨ insc (erA P) (P 10 1) = 1 then pset (erB P) 10 8 1 else erB P := rfl
theorem r_stops38 {P Q : PAy} {M : Mem} {n : Nat} (h : RP Q M) (hQ : VA Q) (hE : erA P = Q) (h7 : Q 10 7 = P 10 7) (h1 : Q 10 1 = P 10 1) (hn : 60 < n) (hg : goer P ≤ 12) : Sp (s9_stops_38 n 80 (gI (goer P)) M) (fun r M' => r = gI (goer P) ∧ RP (er P) M' ∧ RF M M') := by
  have e18 : M 80 18 = nI (P 10 7) := by rw [← h7]; exact h.one 7 (by decide)
  unfold s9_stops_38
  refine Sp.mlet (Sp.mlet ?_)
  rw [e18, nI_1]
  have r1 : RP (erB P) (mset (mset M 80 18 (nI (P 10 7 + 1))) 80 17 0) := by
    have a : RP (pset Q 10 7 (P 10 7 + 1)) (mset M 80 18 (nI (P 10 7 + 1))) := h.sone 7
    have b : RP (pset (pset Q 10 7 (P 10 7 + 1)) 10 6 0) (mset (mset M 80 18 (nI (P 10 7 + 1))) 80 17 (nI 0)) := a.sone 6
    unfold erB
    rw [hE]
    exact b
  have f1 : RF M (mset (mset M 80 18 (nI (P 10 7 + 1))) 80 17 0) := (RF.sc (by decide) (by decide)).tr (RF.sc (by decide) (by decide))
  by_cases q : goer P = 0
  · refine Sp.pos ((gI_neg (by omega)).mpr q) (Sp.mlet (Sp.ret ⟨rfl, ?_, f1.tr (RF.sc (by decide) (by decide))⟩))
    rw [er_def, if_pos (Or.inl q)]
    exact r1.sone 8 (v := 1)
  · refine Sp.neg (fun z => q ((gI_neg (by omega)).mp z)) ?_
    have hVB : VA (erB P) := by
      have s1 := hQ.s
      unfold VSa at s1
      unfold erB
      rw [hE]
      have h2 : VA (pset Q 10 7 (P 10 7 + 1)) := by
        refine V_sc hQ (by decide) ?_
        unfold VSa
        rw [ps_j (b := 6) (by decide), ps_j (b := 2) (by decide), ps_j (b := 3) (by decide), ps_j (b := 4) (by decide), ps_j (b := 8) (by decide)]
        exact s1
      refine V_sc h2 (by decide) ?_
      unfold VSa
      rw [ps_eq, ps_j (b := 2) (by decide), ps_j (b := 3) (by decide), ps_j (b := 4) (by decide), ps_j (b := 8) (by decide), ps_j (b := 2) (by decide), ps_j (b := 3) (by decide), ps_j (b := 4) (by decide), ps_j (b := 8) (by decide)]
      exact ⟨s1.1, s1.2.1, s1.2.2.1, by omega, s1.2.2.2.2⟩
    have eB1 : erB P 10 1 = P 10 1 := by
      unfold erB
      rw [ps_j (by decide), ps_j (by decide), hE, h1]
    have eBi : insc (erB P) (P 10 1) = insc (erA P) (P 10 1) := insc_ext (fun w _ => by unfold erB; rw [ps_i (by decide), ps_i (by decide)])
    have hi := insc_le hVB (Nat.le_refl (erB P 10 1))
    have h12 := hVB.w12
    refine Sp_cbe (r_ins r1 hVB hn) ?_
    rw [eB1, eBi]
    rw [eB1, eBi] at hi
    by_cases z : insc (erA P) (P 10 1) = 1
    · refine Sp.pos (by rw [z]; rfl) (Sp.mlet (Sp.ret ⟨rfl, ?_, f1.tr (RF.sc (by decide) (by decide))⟩))
      rw [er_def, if_pos (Or.inr z)]
      exact r1.sone 8 (v := 1)
    · refine Sp.neg (fun y => z ((nI_is1 (by omega)).mp y)) (Sp.ret ⟨rfl, ?_, f1⟩)
      rw [er_def, if_neg (fun y => by omega)]
      exact r1
theorem lv_keep {P Q : PAy} (h0 : ∀ p, P 0 p = Q 0 p) (hN : P 10 0 = Q 10 0) (hF : P 10 4 = Q 10 4) : lv P = lv Q := by
  have e1 : ∀ p, wsA P p = wsA Q p := by
    intro p
    have a : (fun k => IsOn P p k) = fun k => IsOn Q p k := by
      funext k
      unfold IsOn
      simp only [h0, hN]
    have b : (fun k => IsBk P p k) = fun k => IsBk Q p k := by
      funext k
      unfold IsBk
      simp only [h0, hN]
    unfold wsA
    rw [a, b]
  have e2 : ∀ n, lvn P n = lvn Q n := by
    intro n
    induction n with
    | zero => rfl
    | succ n ih =>
      show cif (P 0 n = 1 ∧ (lvn P n = 0 ∨ P 10 4 = 1 ∨ (P 10 4 = 2 ∧ wsA P n < wsA P (lvn P n - 1)))) (n + 1) (lvn P n) = cif (Q 0 n = 1 ∧ (lvn Q n = 0 ∨ Q 10 4 = 1 ∨ (Q 10 4 = 2 ∧ wsA Q n < wsA Q (lvn Q n - 1)))) (n + 1) (lvn Q n)
      rw [ih, h0, hF, e1, e1]
  unfold lv
  rw [e2, hN]
theorem r_stops {P : PAy} {M : Mem} {n : Nat} (h : RP P M) (hV : VA P) (hn : 60 < n) : Sp (s9_stops n 80 M) (fun r M' => r = gI (goer P) ∧ RP (er P) M' ∧ RF M M') := by
  have h12 := hV.w12
  have h11 := hV.c11
  have h60 := hV.n60
  have hg := (goer_le (P := P)).1
  unfold s9_stops
  refine Sp.cb (r_sit h hV hn) (fun r0 M1 h1 => ?_)
  have hP1 := h1.2.rp h
  refine Sp_cbe (r_goer hP1 hV h1.1 ((SV_sit hV).s60 hV) hn) ?_
  have eg : gon P (sit P) (P 10 1) = goer P := rfl
  rw [eg]
  by_cases q : goer P = 0
  · refine Sp.pos ((gI_neg (by omega)).mpr q) ?_
    have hE : erA P = P := by unfold erA; rw [if_pos q]
    exact (r_stops38 hP1 hV hE rfl rfl hn (by omega)).mono (fun r M2 z => ⟨z.1, z.2.1, h1.2.RF.tr z.2.2⟩)
  · have i4 : inB (gI (goer P)) (alen (link 80 4)) := by rw [gI_pos q]; exact vp_in_nI (N := 12) (by omega) (by decide)
    refine Sp.neg (fun z => q ((gI_neg (by omega)).mp z)) (Sp.pos i4 (Sp.mlet ?_))
    have ec : (gI (goer P)).toNatClampNeg = goer P - 1 := by rw [gI_pos q, nI_clamp (by omega)]
    rw [ec]
    have r2 : RP (pset P 3 (goer P - 1) 0) (mset M1 (link 80 4) (goer P - 1) 0) := hP1.srow 2 (v := 0) (by decide)
    have f2 : RF M (mset M1 (link 80 4) (goer P - 1) 0) := h1.2.RF.tr (RF.row (by decide) (by decide))
    have hV2 := V_in0 (w := goer P - 1) hV
    have erk : rk (pset P 3 (goer P - 1) 0) 60 = rk P 60 := rk_ext (fun p _ => ps_i (by decide))
    refine Sp_cbe (r_chairs r2 hV2 hn) ?_
    rw [erk]
    by_cases q2 : rk P 60 ≤ 1
    · refine Sp.pos (nI_le (b := 1) q2 (by decide)) ?_
      have hE : erA P = pset P 3 (goer P - 1) 0 := by unfold erA; rw [if_neg q, if_pos q2]
      exact (r_stops38 r2 hV2 hE (ps_i (by decide)) (ps_i (by decide)) hn (by omega)).mono (fun r M2 z => ⟨z.1, z.2.1, f2.tr z.2.2⟩)
    · refine Sp.neg (nI_ge (a := 1) (by omega) (by omega)) (Sp_cbe (r_leaver r2 hV2 hn) ?_)
      have el : lv (pset P 3 (goer P - 1) 0) = lv P := lv_keep (fun p => ps_i (by decide)) (ps_i (by decide)) (ps_i (by decide))
      rw [el]
      obtain ⟨l1, l2⟩ := lv_pos hV (by omega)
      have l3 := hV.c60 l2
      have i1 : inB (gI (lv P)) (alen (link 80 1)) := by rw [gI_pos l1]; exact vp_in_nI (N := 60) l3 (by decide)
      refine Sp.pos i1 (Sp.mlet ?_)
      have ec2 : (gI (lv P)).toNatClampNeg = lv P - 1 := by rw [gI_pos l1, nI_clamp (by omega)]
      rw [ec2]
      have r3 : RP (pset (pset P 3 (goer P - 1) 0) 0 (lv P - 1) 0) (mset (mset M1 (link 80 4) (goer P - 1) 0) (link 80 1) (lv P - 1) 0) := r2.sch (v := 0)
      have hE : erA P = pset (pset P 3 (goer P - 1) 0) 0 (lv P - 1) 0 := by unfold erA; rw [if_neg q, if_neg q2]
      refine (r_stops38 r3 (V_ch0 hV2) hE ?_ ?_ hn (by omega)).mono (fun r M2 z => ⟨z.1, z.2.1, (f2.tr (RF.row (by decide) (by decide))).tr z.2.2⟩)
      · rw [ps_i (by decide), ps_i (by decide)]
      · rw [ps_i (by decide), ps_i (by decide)]
/-- whether it stops, as a number -/
noncomputable def stqI (P : PAy) : Int32 := cif (stb P) 1 0
theorem stqI_0 {P : PAy} : stqI P = 0 ↔ ¬ stb P := by
  unfold stqI
  by_cases q : stb P
  · rw [cif_pos q]; exact ⟨fun z => absurd z (by decide), fun z => absurd q z⟩
  · rw [cif_neg q]; exact ⟨fun _ => q, fun _ => rfl⟩
/-- the draw and the question, behind the walk and the count -/
theorem r_does {P : PAy} {M : Mem} {z : Nat} (h : RP P M) (hV : VA P) (hL : 1 ≤ P 10 1) (hz : P 10 5 = z) : s9_doesStop 80 M = some (stqI (pset P 10 5 (z * 1103515245 + 12345)), mset M 80 16 (nI (z * 1103515245 + 12345))) := by
  have e16 : M 80 16 = nI z := by rw [← hz]; exact h.one 5 (by decide)
  have h1 : RP (pset P 10 5 (z * 1103515245 + 12345)) (mset M 80 16 (nI (z * 1103515245 + 12345))) := h.sone 5
  have eu : nI z * (1103515245 : Int32) + (12345 : Int32) = nI (z * 1103515245 + 12345) := by
    rw [show (1103515245 : Int32) = nI 1103515245 from rfl, show (12345 : Int32) = nI 12345 from rfl, pk_mul, nI_add]
  have hs := hV.s
  obtain ⟨s1, s2, s3, s4, s5⟩ := hs
  have h12 := hV.w12
  have h60 := hV.n60
  have hQ10 : ∀ k, k ≠ 5 → pset P 10 5 (z * 1103515245 + 12345) 10 k = P 10 k := fun k hk => ps_j hk
  have hQr : ∀ a b, a ≠ 10 → pset P 10 5 (z * 1103515245 + 12345) a b = P a b := fun a b hk => ps_i hk
  have t13 := h1.one 2 (by decide)
  have t14 := h1.one 3 (by decide)
  have t17 := h1.one 6 (by decide)
  have t12 := h1.one 1 (by decide)
  rw [hQ10 _ (by decide)] at t13 t14 t17 t12
  unfold s9_doesStop
  rw [e16, eu, mlet_e, ilet_e, ms_eq]
  have ed : ((nI (z * 1103515245 + 12345) &&& (2147483647 : Int32)) / (65536 : Int32)) - ((nI (z * 1103515245 + 12345) &&& (2147483647 : Int32)) / (65536 : Int32)) / (100 : Int32) * (100 : Int32) = dwI (nI (z * 1103515245 + 12345)) := rfl
  rw [ed]
  have e13 : mset M 80 16 (nI (z * 1103515245 + 12345)) 80 13 = nI (P 10 2) := t13
  have e14 : mset M 80 16 (nI (z * 1103515245 + 12345)) 80 14 = nI (P 10 3) := t14
  have e17 : mset M 80 16 (nI (z * 1103515245 + 12345)) 80 17 = nI (P 10 6) := t17
  have e12 : mset M 80 16 (nI (z * 1103515245 + 12345)) 80 12 = nI (P 10 1) := t12
  rw [e13, e14, e17, e12]
  have es : ∀ (c : Prop), (stb (pset P 10 5 (z * 1103515245 + 12345)) ↔ c) → (c → stqI (pset P 10 5 (z * 1103515245 + 12345)) = 1) ∧ (¬ c → stqI (pset P 10 5 (z * 1103515245 + 12345)) = 0) := fun c hc =>
    ⟨fun y => by unfold stqI; rw [cif_pos (hc.mpr y)], fun y => by unfold stqI; rw [cif_neg (fun x => y (hc.mp x))]⟩
  have e5 : pset P 10 5 (z * 1103515245 + 12345) 10 5 = z * 1103515245 + 12345 := ps_eq
  have sb : stb (pset P 10 5 (z * 1103515245 + 12345)) ↔ (300 ≤ P 10 6 ∨ (if P 10 2 = 1 then dwI (nI (z * 1103515245 + 12345)) < nI (P 10 3) ∧ P 10 6 % 8 = 0 else if P 10 2 = 2 then dwI (nI (z * 1103515245 + 12345)) < nI (P 10 3) ∧ P 10 3 ≤ P 10 6 else if P 10 2 = 3 then lks P else if P 10 2 = 4 then P 10 6 = P 10 3 else dwI (nI (z * 1103515245 + 12345)) < nI (P 10 3))) := by
    have el : lks (pset P 10 5 (z * 1103515245 + 12345)) = lks P := by
      unfold lks
      rw [hQ10 3 (by decide), hQ10 1 (by decide), hQr 3 _ (by decide), hQr 1 _ (by decide), hQr 0 _ (by decide)]
    unfold stb
    rw [e5, hQ10 6 (by decide), hQ10 2 (by decide), hQ10 3 (by decide), el]
  by_cases q0 : 300 ≤ P 10 6
  · rw [if_neg (show ¬ nI (P 10 6) < 300 from nI_nlt (b := 300) q0 (by omega)), (es _ sb).1 (Or.inl q0)]
  · rw [if_pos (show nI (P 10 6) < 300 from nI_lt (b := 300) (by omega) (by decide))]
    have sb2 : stb (pset P 10 5 (z * 1103515245 + 12345)) ↔ (if P 10 2 = 1 then dwI (nI (z * 1103515245 + 12345)) < nI (P 10 3) ∧ P 10 6 % 8 = 0 else if P 10 2 = 2 then dwI (nI (z * 1103515245 + 12345)) < nI (P 10 3) ∧ P 10 3 ≤ P 10 6 else if P 10 2 = 3 then lks P else if P 10 2 = 4 then P 10 6 = P 10 3 else dwI (nI (z * 1103515245 + 12345)) < nI (P 10 3)) := by
      rw [sb]; exact ⟨fun y => y.resolve_left q0, fun y => Or.inr y⟩
    have e8 : nI (P 10 6) - nI (P 10 6) / (8 : Int32) * (8 : Int32) = nI (P 10 6 % 8) := rem_e (d := 8) (by omega) (by decide) (by decide)
    rw [e8]
    by_cases k1 : P 10 2 = 1
    · rw [if_pos (show nI (P 10 2) = 1 from (nI_is1 (by omega)).mpr k1)]
      rw [if_pos k1] at sb2
      by_cases d : nI (P 10 3) ≤ dwI (nI (z * 1103515245 + 12345))
      · rw [if_pos d, (es _ sb2).2 (fun y => Int32.not_lt.mpr d y.1)]
      · rw [if_neg d]
        by_cases t : P 10 6 % 8 = 0
        · rw [if_pos (show nI (P 10 6 % 8) = 0 from (nI_is0 (by omega)).mpr t), (es _ sb2).1 ⟨Int32.not_le.mp d, t⟩]
        · rw [if_neg (fun y => t ((nI_is0 (by omega)).mp y)), (es _ sb2).2 (fun y => t y.2)]
    rw [if_neg (fun y => k1 ((nI_is1 (by omega)).mp y))]
    rw [if_neg k1] at sb2
    by_cases k2 : P 10 2 = 2
    · rw [if_pos (show nI (P 10 2) = 2 from (nI_is2 (by omega)).mpr k2)]
      rw [if_pos k2] at sb2
      by_cases d : nI (P 10 3) ≤ dwI (nI (z * 1103515245 + 12345))
      · rw [if_pos d, (es _ sb2).2 (fun y => Int32.not_lt.mpr d y.1)]
      · rw [if_neg d]
        by_cases t : P 10 6 < P 10 3
        · rw [if_pos (nI_lt t (by omega)), (es _ sb2).2 (fun y => by omega)]
        · rw [if_neg (nI_nlt (by omega) (by omega)), (es _ sb2).1 ⟨Int32.not_le.mp d, by omega⟩]
    rw [if_neg (fun y => k2 ((nI_is2 (by omega)).mp y))]
    rw [if_neg k2] at sb2
    by_cases k3 : P 10 2 = 3
    · rw [if_pos (show nI (P 10 2) = 3 from (nI_is3 (by omega)).mpr k3)]
      rw [if_pos k3] at sb2
      have hm : P 10 3 % P 10 1 < P 10 1 := Nat.mod_lt _ (by omega)
      have hw := hV.w hm
      have i4 : inB (nI (P 10 3 % P 10 1)) (alen (link 80 4)) := vp_in_nI (N := 12) (by omega) (by decide)
      have i2 : inB (nI (P 10 3 % P 10 1)) (alen (link 80 2)) := vp_in_nI (N := 12) (by omega) (by decide)
      have i1 : inB (nI (P 1 (P 10 3 % P 10 1))) (alen (link 80 1)) := vp_in_nI (N := 60) (by have := hw.1; omega) (by decide)
      have g4 : mset M 80 16 (nI (z * 1103515245 + 12345)) (link 80 4) (nI (P 10 3 % P 10 1)).toNatClampNeg = nI (P 3 (P 10 3 % P 10 1)) := by
        have := h1.rowc 2 (j := P 10 3 % P 10 1) (by decide) (by omega)
        rw [hQr _ _ (by decide)] at this
        exact this
      have g2 : mset M 80 16 (nI (z * 1103515245 + 12345)) (link 80 2) (nI (P 10 3 % P 10 1)).toNatClampNeg = nI (P 1 (P 10 3 % P 10 1)) := by
        have := h1.rowc 0 (j := P 10 3 % P 10 1) (by decide) (by omega)
        rw [hQr _ _ (by decide)] at this
        exact this
      have g1 : mset M 80 16 (nI (z * 1103515245 + 12345)) (link 80 1) (nI (P 1 (P 10 3 % P 10 1))).toNatClampNeg = nI (P 0 (P 1 (P 10 3 % P 10 1))) := by
        have := h1.chc (j := P 1 (P 10 3 % P 10 1)) (by have := hw.1; omega)
        rw [hQr _ _ (by decide)] at this
        exact this
      have b3 := hw.2.2.1
      have bc := hV.c1 (P 1 (P 10 3 % P 10 1))
      rw [if_neg (nI_ne0 (by omega) (by omega)), ilet_e, rem_e (by omega) (by omega) (by omega), if_pos i4, g4]
      by_cases t : P 3 (P 10 3 % P 10 1) = 1
      · rw [if_pos (show nI (P 3 (P 10 3 % P 10 1)) = 1 from (nI_is1 (by omega)).mpr t), if_pos i2, g2, if_pos i1, g1]
        by_cases u : P 0 (P 1 (P 10 3 % P 10 1)) = 1
        · rw [if_pos (show nI (P 0 (P 1 (P 10 3 % P 10 1))) = 1 from (nI_is1 (by omega)).mpr u), (es _ sb2).1 ⟨t, u⟩]
        · rw [if_neg (fun y => u ((nI_is1 (by omega)).mp y)), (es _ sb2).2 (fun y => u y.2)]
      · rw [if_neg (fun y => t ((nI_is1 (by omega)).mp y)), (es _ sb2).2 (fun y => t y.1)]
    rw [if_neg (fun y => k3 ((nI_is3 (by omega)).mp y))]
    rw [if_neg k3] at sb2
    by_cases k4 : P 10 2 = 4
    · rw [if_pos (show nI (P 10 2) = 4 from (nI_is4 (by omega)).mpr k4)]
      rw [if_pos k4] at sb2
      by_cases t : P 10 6 = P 10 3
      · rw [if_pos (by rw [t]), (es _ sb2).1 t]
      · rw [if_neg (fun y => t ((nI_eq (by omega) (by omega)).mp y)), (es _ sb2).2 t]
    rw [if_neg (fun y => k4 ((nI_is4 (by omega)).mp y))]
    rw [if_neg k4] at sb2
    by_cases d : nI (P 10 3) ≤ dwI (nI (z * 1103515245 + 12345))
    · rw [if_pos d, (es _ sb2).2 (Int32.not_lt.mpr d)]
    · rw [if_neg d, (es _ sb2).1 (Int32.not_le.mp d)]
theorem r_goesOn {P : PAy} {M : Mem} {n : Nat} (h : RP P M) (hV : VA P) (ht : P 10 6 ≤ 299) (hw : 1 ≤ P 10 1) (hn : 60 < n) : Sp (s9_goesOn n 80 M) (fun r M' => r = stqI (tck P) ∧ RP (go1 P) M' ∧ RF M M') := by
  have hW := V_wk hV
  have k10 : ∀ k, wkA P 10 k = P 10 k := fun k => wk_keep (Or.inl ⟨by decide, by decide⟩)
  unfold s9_goesOn
  refine Sp.cb (r_walks h hV hn) (fun r0 M1 h1 => Sp.mlet ?_)
  have e17 : M1 80 17 = nI (P 10 6) := by rw [← k10]; exact h1.1.one 6 (by decide)
  rw [e17, nI_1]
  have r2 : RP (pset (wkA P) 10 6 (P 10 6 + 1)) (mset M1 80 17 (nI (P 10 6 + 1))) := h1.1.sone 6
  have hs := hW.s
  unfold VSa at hs
  have hV2 : VA (pset (wkA P) 10 6 (P 10 6 + 1)) := by
    refine V_sc hW (by decide) ?_
    unfold VSa
    rw [ps_eq, ps_j (b := 2) (by decide), ps_j (b := 3) (by decide), ps_j (b := 4) (by decide), ps_j (b := 8) (by decide)]
    exact ⟨hs.1, hs.2.1, hs.2.2.1, by omega, hs.2.2.2.2⟩
  have e1 : pset (wkA P) 10 6 (P 10 6 + 1) 10 1 = P 10 1 := by rw [ps_j (by decide), k10]
  have e5 : pset (wkA P) 10 6 (P 10 6 + 1) 10 5 = P 10 5 := by rw [ps_j (by decide), k10]
  refine Sp_cbe (r_does r2 hV2 (by omega) e5) ?_
  have et : pset (pset (wkA P) 10 6 (P 10 6 + 1)) 10 5 (P 10 5 * 1103515245 + 12345) = tck P := rfl
  have r3 : RP (tck P) (mset (mset M1 80 17 (nI (P 10 6 + 1))) 80 16 (nI (P 10 5 * 1103515245 + 12345))) := r2.sone 5
  have f3 : RF M (mset (mset M1 80 17 (nI (P 10 6 + 1))) 80 16 (nI (P 10 5 * 1103515245 + 12345))) := (h1.2.tr (RF.sc (by decide) (by decide))).tr (RF.sc (by decide) (by decide))
  rw [et]
  by_cases q : stb (tck P)
  · have e : stqI (tck P) = 1 := by unfold stqI; rw [cif_pos q]
    rw [e]
    refine Sp.neg (by decide) (Sp.cb (r_stops r3 (V_tck hV ht) hn) (fun r M4 h4 => Sp.ret ⟨rfl, ?_, f3.tr h4.2.2⟩))
    unfold go1
    rw [cif_pos q]; exact h4.2.1
  · have e : stqI (tck P) = 0 := by unfold stqI; rw [cif_neg q]
    rw [e]
    refine Sp.pos rfl (Sp.ret ⟨rfl, ?_, f3⟩)
    unfold go1
    rw [cif_neg q]; exact r3
