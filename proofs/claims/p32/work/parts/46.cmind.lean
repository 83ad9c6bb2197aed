/-! ===== the program: what is thought ===== -/
theorem po11 : PO 11 := Or.inl rfl
theorem po34 : PO 34 := Or.inr (Or.inl rfl)
theorem po57 : PO 57 := Or.inr (Or.inr rfl)
/-- nothing but the mind differs -/
def KMi (M M' : Mem) : Prop := ∀ q, q ≠ 2 → q ≠ 3 → (q < 34 ∨ 57 ≤ q) → M' q = M q
theorem KMi.rf {M : Mem} : KMi M M := fun _ _ _ _ => rfl
theorem KMi.tr {M M' M'' : Mem} (h : KMi M M') (h' : KMi M' M'') : KMi M M'' := fun q a b c => (h' q a b c).trans (h q a b c)
theorem KFo.mi {M M' : Mem} (h : KFo 34 M M') : KMi M M' := fun q _ _ c => h q (by omega)
theorem KMi.s2 {M : Mem} {k : Nat} {v : Int32} : KMi M (mset M 2 k v) := fun q a _ _ => ms_ne a
theorem KMi.s3 {M : Mem} {k : Nat} {v : Int32} : KMi M (mset M 3 k v) := fun q _ b _ => ms_ne b
theorem KMi.cp {o : Nat} {P : PAy} {M M' : Mem} (h : KMi M M') (ho : o = 11 ∨ o = 57) (c : CP o P M) (h12 : P 10 1 ≤ 12) : CP o P M' :=
  c.same (fun q h1 h2 => h q (by omega) (by omega) (by omega)) h12
/-- the thought party becomes the real one -/
theorem k_think {n : Nat} {P : PAy} {M : Mem} (c : CP 11 P M) (hV : VA P) (hn : 60 < n) : Sp (s2_become n (link 2 1) (link 2 0) M) (fun _ M' => CP 34 P M' ∧ CP 11 P M' ∧ KFo 34 M M') :=
  (k_become po34 po11 (by decide) c hV hn).mono (fun _ _ z => ⟨z.1, c.kf po34 po11 (by decide) z.2 hV.w12, z.2⟩)
theorem k_behind {n : Nat} {Q : PAy} {M : Mem} (c : CP 34 Q M) (hV : VA Q) (hn : 60 < n) : Sp (s0_seatBehindTenth n 2 M) (fun _ M' => CP 34 (wkA Q) M' ∧ CS 34 (wkA Q) (sit (wkA Q)) M' ∧ KFo 34 M M') := by
  unfold s0_seatBehindTenth
  refine Sp.cb (k_walkAll (o := 34) po34 c hV hn) (fun r M1 g => Sp.cb (k_seatAll (o := 34) po34 g.1 (V_wk hV) hn) (fun r M2 t => Sp.ret ⟨t.2.cp g.1, t.1, g.2.tr t.2.kf⟩))
theorem CS.ext {o : Nat} {P Q : PAy} {S : Nat → Nat} {M : Mem} (h1 : P 10 1 = Q 10 1) (h0 : ∀ p, P 0 p = Q 0 p) (s : CS o P S M) : CS o Q S M := by
  have hr : ∀ p, rk P p = rk Q p := fun p => rk_ext (fun q _ => h0 q)
  refine ⟨by rw [← h1]; exact s.1, by rw [← hr]; exact s.2.1, fun w hw => ?_⟩
  rw [s.2.2 w (by rw [h1]; exact hw)]
  unfold cI
  rw [hr]
theorem k_odds43 {n m w : Nat} {P : PAy} (hV : VA P) (hw : w < P 10 1) (hn : 200 < n) (hm : m ≤ 200) : ∀ (f k : Nat) (M : Mem), k ≤ m → m < k + f → CP 34 (wI P k) M → Sp (s0_oddsAt_43 n 2 (nI w) (nI m) f (nI (cnA P w k)) (nI k) M) (fun r M' => r = nI (cnA P w m) ∧ KFo 34 M M') := by
  intro f
  induction f with
  | zero => intro k M h1 h2; omega
  | succ f ih =>
    intro k M h1 h2 c
    rw [s0_oddsAt_43]
    by_cases q : k < m
    · have hVk1 := V_wI hV (k + 1)
      have e1 : wI P (k + 1) 10 1 = P 10 1 := wI_keep ⟨by decide, by decide⟩ _
      have en : cnA P w (k + 1) = cnA P w k + (if sit (wI P (k + 1)) w = 0 then 0 else 1) := rfl
      refine Sp.neg (nI_ge q (by omega)) (Sp.cb (k_behind c (V_wI hV k) (by omega)) (fun r M1 g => ?_))
      obtain ⟨g1, g2, g3⟩ := g
      have go : ∀ x, x = nI (cnA P w (k + 1)) → Sp (s0_oddsAt_43 n 2 (nI w) (nI m) f x (nI (k + 1)) M1) (fun r M' => r = nI (cnA P w m) ∧ KFo 34 M M') := fun x hx => by
        rw [hx]
        exact (ih (k + 1) M1 (by omega) (by omega) g1).mono (fun r M2 z => ⟨z.1, g3.tr z.2⟩)
      refine Sp_cbe (k_seatedY (o := 34) po34 hVk1 ((SV_sit hVk1).s60 hVk1) g2 (by rw [e1]; exact hw)) ?_
      by_cases z : sit (wI P (k + 1)) w = 0
      · refine Sp.pos (if_pos z) (Sp.ilet ?_)
        rw [nI_1]
        exact go _ (by rw [en, if_pos z]; rfl)
      · refine Sp.neg (by rw [if_neg z]; decide) (Sp.ilet (Sp.ilet ?_))
        rw [nI_1, nI_1]
        exact go _ (by rw [en, if_neg z])
    · have e : k = m := by omega
      subst e
      exact Sp.pos (nI_le (Nat.le_refl _) (by omega)) (Sp.ret ⟨rfl, KFo.rf⟩)
theorem V_slow {P : PAy} {w s : Nat} (hV : VA P) (h1 : 1 ≤ s) (h2 : s ≤ 99) : VA (pset P 6 w s) := by
  have k : ∀ a b, a ≠ 6 → pset P 6 w s a b = P a b := fun a b ha => ps_i ha
  refine ⟨?_, ?_, ⟨?_, ?_, ?_⟩, ?_, ?_, ?_⟩
  · rw [k _ _ (by decide)]; exact hV.1
  · rw [k _ _ (by decide)]; exact hV.2.1
  · intro p; rw [k _ _ (by decide)]; exact hV.c1 p
  · intro p; rw [k 0 _ (by decide), k 10 _ (by decide)]; exact fun q => hV.c0 q
  · rw [rk_ext (fun p _ => k 0 p (by decide))]; exact hV.c11
  · intro u hu
    rw [k _ _ (by decide)] at hu
    have hh := hV.w hu
    unfold VWa at hh ⊢
    rw [k 10 _ (by decide), k 1 _ (by decide), k 2 _ (by decide), k 3 _ (by decide), k 4 _ (by decide), k 5 _ (by decide), k 7 _ (by decide), k 8 _ (by decide), k 9 _ (by decide)]
    refine ⟨hh.1, hh.2.1, hh.2.2.1, hh.2.2.2.1, hh.2.2.2.2.1, ?_, hh.2.2.2.2.2.2⟩
    by_cases e : u = w
    · subst e; rw [ps_eq]; exact ⟨h1, h2⟩
    · rw [ps_j e]; exact hh.2.2.2.2.2.1
  · intro u v
    rw [k 10 _ (by decide), k 1 _ (by decide), k 1 _ (by decide), k 3 _ (by decide), k 3 _ (by decide)]
    exact hV.i u v
  · unfold VSa
    rw [k 10 _ (by decide), k 10 _ (by decide), k 10 _ (by decide), k 10 _ (by decide), k 10 _ (by decide)]
    exact hV.s
theorem k_oddsAt {n m w s : Nat} {P : PAy} {M : Mem} (c : CP 11 P M) (hV : VA P) (hw : w < P 10 1) (hs1 : 1 ≤ s) (hs2 : s ≤ 99) (hn : 200 < n) (hm : m ≤ 200) : Sp (s0_oddsAt n 2 (nI w) (nI m) (nI s) M) (fun r M' => (P 3 w = 1 → r = nI (cnA (pset P 6 w s) w m)) ∧ KMi M M') := by
  have h12 := hV.w12
  unfold s0_oddsAt
  refine Sp.cb (k_think c hV (by omega)) (fun r M1 g => ?_)
  obtain ⟨g1, g2, g3⟩ := g
  refine Sp_cbe (k_inY (o := 34) po34 g1 hV hw) ?_
  have b3 := (hV.w hw).2.2.1
  by_cases z : P 3 w = 0
  · exact Sp.pos (by rw [z]; rfl) (Sp.ret ⟨fun y => by omega, g3.mi⟩)
  · have hi : inB (nI w) (alen 43) := vp_in_nI (N := 12) (by omega) (by decide)
    refine Sp.neg (fun y => z ((nI_is0 (by omega)).mp y)) (Sp.pos hi (Sp.mlet ?_))
    have el : link (34 + 9) (nI w).toNatClampNeg = 34 + 11 + w := by rw [nI_clamp (by omega), lw9 po34 (by omega)]
    have c1 : CP 34 (pset P 6 w s) (mset M1 (link (34 + 9) (nI w).toNatClampNeg) 5 (nI s)) := by
      rw [el]; exact g1.sw (k := 5) h12 hw (by decide) (by decide) (by decide)
    have f1 : KFo 34 M (mset M1 (link (34 + 9) (nI w).toNatClampNeg) 5 (nI s)) := by
      rw [el]; exact g3.tr (KFo.st (by omega) (by omega))
    exact (k_odds43 (V_slow hV hs1 hs2) (by rw [ps_i (by decide)]; exact hw) hn hm n 0 _ (Nat.zero_le _) (by omega) c1).mono (fun r M2 t => ⟨fun _ => t.1, (f1.tr t.2).mi⟩)
/-! how fair -/
theorem cnA_le {P : PAy} {w : Nat} : ∀ k, cnA P w k ≤ k := by
  intro k
  induction k with
  | zero => exact Nat.le_refl _
  | succ k ih =>
    show cnA P w k + (if sit (wI P (k + 1)) w = 0 then 0 else 1) ≤ k + 1
    split <;> omega
theorem k_cnt45 {n k m : Nat} {P Q : PAy} {S : Nat → Nat} {k34 : Int32 → Mem → Option Res} {R : Int32 → Mem → Prop} (hV : VA Q) (h6 : S60 S) (cc cc' : Nat → Nat) (hlt : ∀ w, w < Q 10 1 → cc' w = cc w + (if S w = 0 then 0 else 1)) (hge : ∀ w, Q 10 1 ≤ w → cc' w = cc w) : ∀ (f i : Nat) (M : Mem), i ≤ 12 → 12 < i + f → CS 34 Q S M → (∀ w, w < i → M 3 w = nI (cc' w)) → (∀ w, i ≤ w → w < 12 → M 3 w = nI (cc w)) → (∀ M', (∀ q, q ≠ 3 → M' q = M q) → (∀ w, w < 12 → M' 3 w = nI (cc' w)) → Sp (k34 (nI (k + 1)) M') R) → Sp (s0_countSeatedTimes_45 n k34 2 (nI m) (nI k) f (nI i) M) R := by
  have h12 := hV.w12
  intro f
  induction f with
  | zero => intro i M h1 h2; omega
  | succ f ih =>
    intro i M h1 h2 s hlo hhi hk
    rw [s0_countSeatedTimes_45]
    by_cases q : i < 12
    · have i3 : inB (nI i) (alen 3) := vp_in_nI (N := 12) q (by decide)
      have e3 : M 3 (nI i).toNatClampNeg = nI (cc i) := by rw [nI_clamp (by omega)]; exact hhi i (Nat.le_refl _) q
      have go : ∀ v, v = nI (cc' i) → Sp (s0_countSeatedTimes_45 n k34 2 (nI m) (nI k) f (nI (i + 1)) (mset M 3 (nI i).toNatClampNeg v)) R := fun v hv => by
        rw [nI_clamp (by omega), hv]
        refine ih (i + 1) _ (by omega) (by omega) ⟨?_, ?_, fun w hw => ?_⟩ (fun w hw => ?_) (fun w a b => ?_) (fun M' a b => hk M' (fun q' hq => (a q' hq).trans (ms_ne hq)) b)
        · rw [ms_ne (by decide)]; exact s.1
        · rw [ms_ne (by decide)]; exact s.2.1
        · rw [ms_ne (by decide)]; exact s.2.2 w hw
        · by_cases e : w = i
          · subst e; exact ms_eq
          · rw [ms_ne2 e]; exact hlo w (by omega)
        · rw [ms_ne2 (by omega)]; exact hhi w (by omega) b
      refine Sp.neg (nI_ge (b := 12) q (by decide)) (Sp.pos i3 ?_)
      by_cases z : i < Q 10 1
      · refine Sp_cbe (k_seatedY (o := 34) po34 hV h6 s z) ?_
        by_cases y : S i = 0
        · refine Sp.pos (if_pos y) (Sp.pos i3 (Sp.mlet (Sp.ilet ?_)))
          rw [nI_1]
          refine go _ ?_
          show M 3 (nI i).toNatClampNeg + 0 = nI (cc' i)
          rw [e3, hlt i z, if_pos y]; exact nI_add (cc i) 0
        · refine Sp.neg (by rw [if_neg y]; decide) (Sp.pos i3 (Sp.mlet (Sp.ilet ?_)))
          rw [nI_1]
          refine go _ ?_
          show M 3 (nI i).toNatClampNeg + 1 = nI (cc' i)
          rw [e3, hlt i z, if_neg y]; exact nI_add (cc i) 1
      · refine Sp_cbe (k_seatedN (o := 34) s (Or.inr (nI_le (by omega) (by omega)))) (Sp.pos rfl (Sp.pos i3 (Sp.mlet (Sp.ilet ?_))))
        rw [nI_1]
        refine go _ ?_
        show M 3 (nI i).toNatClampNeg + 0 = nI (cc' i)
        rw [e3, hge i (by omega)]; exact nI_add (cc i) 0
    · have e : i = 12 := by omega
      subst e
      refine Sp.pos (by decide) (Sp.ilet ?_)
      rw [nI_1]
      exact hk M (fun _ _ => rfl) (fun w hw => hlo w hw)
/-- the counts of all twelve -/
noncomputable def cnBm (P : PAy) (k w : Nat) : Nat := if w < P 10 1 then cnA P w k else 0
theorem k_cnt34 {n m : Nat} {P : PAy} (hV : VA P) (hn : 200 < n) (hm : m ≤ 200) : ∀ (f k : Nat) (M : Mem), k ≤ m → m < k + f → CP 34 (wI P k) M → (∀ w, w < 12 → M 3 w = nI (cnBm P k w)) → Sp (s0_countSeatedTimes_34 n 2 (nI m) f (nI k) M) (fun _ M' => (∀ w, w < 12 → M' 3 w = nI (cnBm P m w)) ∧ KMi M M') := by
  intro f
  induction f with
  | zero => intro k M h1 h2; omega
  | succ f ih =>
    intro k M h1 h2 c h3
    rw [s0_countSeatedTimes_34]
    by_cases q : k < m
    · have hVk1 := V_wI hV (k + 1)
      have e1 : wI P (k + 1) 10 1 = P 10 1 := wI_keep ⟨by decide, by decide⟩ _
      refine Sp.neg (nI_ge q (by omega)) (Sp.cb (k_behind c (V_wI hV k) (by omega)) (fun r M1 g => ?_))
      obtain ⟨g1, g2, g3⟩ := g
      refine k_cnt45 (P := P) (Q := wI P (k + 1)) hVk1 ((SV_sit hVk1).s60 hVk1) (cnBm P k) (cnBm P (k + 1)) (fun w hw => ?_) (fun w hw => ?_) n 0 M1 (Nat.zero_le _) (by omega) g2 (fun w hw => by omega) (fun w _ hw => by rw [g3 3 (by decide)]; exact h3 w hw) (fun M2 a b => ?_)
      · rw [e1] at hw
        unfold cnBm
        rw [if_pos hw, if_pos hw]; rfl
      · rw [e1] at hw
        unfold cnBm
        rw [if_neg (by omega), if_neg (by omega)]
      · have c2 : CP 34 (wI P (k + 1)) M2 := CP.same (o := 34) g1 (fun q' h1 h2 => a q' (by omega)) hVk1.w12
        exact (ih (k + 1) M2 (by omega) (by omega) c2 b).mono (fun r M3 z => ⟨z.1, (g3.mi.tr (fun q' _ d _ => a q' d)).tr z.2⟩)
    · have e : k = m := by omega
      subst e
      exact Sp.pos (nI_le (Nat.le_refl _) (by omega)) (Sp.ret ⟨h3, KMi.rf⟩)
theorem k_cnt13 {n m : Nat} {P : PAy} (hV : VA P) (hn : 200 < n) (hm : m ≤ 200) : ∀ (f i : Nat) (M : Mem), i ≤ 12 → 12 < i + f → CP 34 P M → (∀ w, w < i → M 3 w = 0) → Sp (s0_countSeatedTimes_13 n 2 (nI m) f (nI i) M) (fun _ M' => (∀ w, w < 12 → M' 3 w = nI (cnBm P m w)) ∧ KMi M M') := by
  intro f
  induction f with
  | zero => intro i M h1 h2; omega
  | succ f ih =>
    intro i M h1 h2 c h3
    rw [s0_countSeatedTimes_13]
    by_cases q : i < 12
    · have i3 : inB (nI i) (alen (link 2 2)) := vp_in_nI (N := 12) q (by decide)
      refine Sp.neg (nI_ge (b := 12) q (by decide)) (Sp.pos i3 (Sp.mlet (Sp.ilet ?_)))
      rw [nI_1, nI_clamp (by omega)]
      refine (ih (i + 1) _ (by omega) (by omega) (CP.same (o := 34) c (fun q' h1 h2 => ms_ne (by show q' ≠ 3; omega)) hV.w12) (fun w hw => ?_)).mono (fun r M2 z => ⟨z.1, KMi.s3.tr z.2⟩)
      show mset M 3 i 0 3 w = 0
      by_cases e : w = i
      · subst e; exact ms_eq
      · rw [ms_ne2 e]; exact h3 w (by omega)
    · have e : i = 12 := by omega
      subst e
      refine Sp.pos (by decide) (k_cnt34 hV hn hm n 0 M (Nat.zero_le _) (by omega) c (fun w hw => ?_))
      rw [h3 w hw]
      have : cnBm P 0 w = 0 := by unfold cnBm; split <;> rfl
      rw [this]; rfl
/-- the greatest and the least of those that are in -/
noncomputable def gmx (P : PAy) (m : Nat) : Nat → Nat
  | 0 => 0
  | i + 1 => if P 3 i = 1 then (if gmx P m i < cnA P i m then cnA P i m else gmx P m i) else gmx P m i
noncomputable def lmn (P : PAy) (m : Nat) : Nat → Nat
  | 0 => m
  | i + 1 => if P 3 i = 1 then (if cnA P i m < lmn P m i then cnA P i m else lmn P m i) else lmn P m i
theorem gl_le {P : PAy} {m : Nat} : ∀ i, gmx P m i ≤ m ∧ lmn P m i ≤ m ∧ (insc P i ≠ 0 → (∀ w, w < i → P 3 w ≤ 1) → lmn P m i ≤ gmx P m i) := by
  intro i
  induction i with
  | zero => exact ⟨Nat.zero_le _, Nat.le_refl _, fun h => absurd rfl h⟩
  | succ i ih =>
    obtain ⟨i1, i2, i3⟩ := ih
    have hc := cnA_le (P := P) (w := i) m
    have e1 : gmx P m (i + 1) = if P 3 i = 1 then (if gmx P m i < cnA P i m then cnA P i m else gmx P m i) else gmx P m i := rfl
    have e2 : lmn P m (i + 1) = if P 3 i = 1 then (if cnA P i m < lmn P m i then cnA P i m else lmn P m i) else lmn P m i := rfl
    have e3 : insc P (i + 1) = insc P i + P 3 i := rfl
    by_cases q : P 3 i = 1
    · rw [e1, e2, if_pos q, if_pos q]
      refine ⟨by split <;> omega, by split <;> omega, fun _ _ => ?_⟩
      split <;> split <;> omega
    · rw [e1, e2, if_neg q, if_neg q]
      refine ⟨i1, i2, fun h hb => i3 (fun y => h ?_) (fun w hw => hb w (by omega))⟩
      have := hb i (by omega)
      omega
noncomputable def frI (P : PAy) (m : Nat) : Nat := if insc P (P 10 1) = 0 then 0 else gmx P m (P 10 1) - lmn P m (P 10 1)
theorem k_unf12 {n m : Nat} {P : PAy} (hV : VA P) (hm : m ≤ 200) : ∀ (f i : Nat) (M : Mem), i ≤ 12 → 12 < i + f → CP 11 P M → (∀ w, w < 12 → M 3 w = nI (cnBm P m w)) → Sp (s0_unfairness_12 n 2 f (nI (gmx P m (min i (P 10 1)))) (nI (lmn P m (min i (P 10 1)))) (nI i) M) (fun r M' => r = nI (frI P m) ∧ M' = M) := by
  have h12 := hV.w12
  intro f
  induction f with
  | zero => intro i M h1 h2; omega
  | succ f ih =>
    intro i M h1 h2 c h3
    rw [s0_unfairness_12]
    by_cases q : i < 12
    · have i3 : inB (nI i) (alen (link 2 2)) := vp_in_nI (N := 12) q (by decide)
      refine Sp.neg (nI_ge (b := 12) q (by decide)) ?_
      by_cases z : i < P 10 1
      · have b3 := (hV.w z).2.2.1
        have e3 : M (link 2 2) (nI i).toNatClampNeg = nI (cnA P i m) := by
          rw [nI_clamp (by omega)]
          have := h3 i q
          unfold cnBm at this
          rw [if_pos z] at this
          exact this
        have m1 : min i (P 10 1) = i := by omega
        have m2 : min (i + 1) (P 10 1) = i + 1 := by omega
        have nx := ih (i + 1) M (by omega) (by omega) c h3
        have hc := cnA_le (P := P) (w := i) m
        obtain ⟨l1, l2, -⟩ := gl_le (P := P) (m := m) i
        have g1 : gmx P m (i + 1) = if P 3 i = 1 then (if gmx P m i < cnA P i m then cnA P i m else gmx P m i) else gmx P m i := rfl
        have g2 : lmn P m (i + 1) = if P 3 i = 1 then (if cnA P i m < lmn P m i then cnA P i m else lmn P m i) else lmn P m i := rfl
        rw [m2, g1, g2] at nx
        rw [m1]
        refine Sp_cbe (k_inY (o := 11) po11 c hV z) ?_
        by_cases y : P 3 i = 1
        · rw [if_pos y, if_pos y] at nx
          refine Sp.neg (by rw [y]; decide) (Sp.pos i3 (Sp.ilet (Sp.pos i3 (Sp.ilet (Sp.ilet ?_)))))
          rw [nI_1, e3]
          have ea : (if nI (gmx P m i) < nI (cnA P i m) then nI (cnA P i m) else nI (gmx P m i)) = nI (if gmx P m i < cnA P i m then cnA P i m else gmx P m i) := by
            by_cases t : gmx P m i < cnA P i m
            · rw [if_pos (nI_lt t (by omega)), if_pos t]
            · rw [if_neg (nI_nlt (by omega) (by omega)), if_neg t]
          have eb : (if nI (cnA P i m) < nI (lmn P m i) then nI (cnA P i m) else nI (lmn P m i)) = nI (if cnA P i m < lmn P m i then cnA P i m else lmn P m i) := by
            by_cases t : cnA P i m < lmn P m i
            · rw [if_pos (nI_lt t (by omega)), if_pos t]
            · rw [if_neg (nI_nlt (by omega) (by omega)), if_neg t]
          rw [ea, eb]
          exact nx
        · rw [if_neg y, if_neg y] at nx
          refine Sp.pos (by rw [show P 3 i = 0 by omega]; rfl) (Sp.ilet ?_)
          rw [nI_1]
          exact nx
      · have m1 : min i (P 10 1) = P 10 1 := by omega
        have m2 : min (i + 1) (P 10 1) = P 10 1 := by omega
        have nx := ih (i + 1) M (by omega) (by omega) c h3
        rw [m2] at nx
        rw [m1]
        refine Sp_cbe (k_kN (o := 11) c (Or.inr (nI_le (by omega) (by omega)))).2 (Sp.pos rfl (Sp.ilet ?_))
        rw [nI_1]
        exact nx
    · have e : i = 12 := by omega
      subst e
      have m1 : min 12 (P 10 1) = P 10 1 := by omega
      refine Sp.pos (by decide) (Sp.ret ⟨?_, rfl⟩)
      rw [m1]
      obtain ⟨l1, l2, l3⟩ := gl_le (P := P) (m := m) (P 10 1)
      unfold frI
      by_cases z : insc P (P 10 1) = 0
      · rw [if_pos z]
        have g0 : ∀ i, (∀ w, w < i → P 3 w ≠ 1) → gmx P m i = 0 ∧ lmn P m i = m := by
          intro i
          induction i with
          | zero => intro _; exact ⟨rfl, rfl⟩
          | succ i ih2 =>
            intro hw
            have := ih2 (fun w h => hw w (by omega))
            have g1 : gmx P m (i + 1) = if P 3 i = 1 then (if gmx P m i < cnA P i m then cnA P i m else gmx P m i) else gmx P m i := rfl
            have g2 : lmn P m (i + 1) = if P 3 i = 1 then (if cnA P i m < lmn P m i then cnA P i m else lmn P m i) else lmn P m i := rfl
            rw [g1, g2, if_neg (hw i (by omega)), if_neg (hw i (by omega))]
            exact this
        have hno : ∀ i, insc P i = 0 → ∀ w, w < i → P 3 w ≠ 1 := by
          intro i
          induction i with
          | zero => intro _ w h; omega
          | succ i ih2 =>
            intro h0 w hw
            have h0' : insc P i + P 3 i = 0 := h0
            by_cases e : w = i
            · subst e; omega
            · exact ih2 (by omega) w (by omega)
        obtain ⟨a1, a2⟩ := g0 (P 10 1) (hno _ z)
        rw [a1, a2]
        by_cases m0 : m = 0
        · subst m0; rfl
        · rw [if_neg (fun y => Int32.lt_irrefl (Int32.lt_trans y (pk_sneg (a := 0) (b := m) (by omega) (by omega))))]; rfl
      · rw [if_neg z]
        have l4 := l3 z (fun w hw => (hV.w hw).2.2.1)
        rw [sub_e l4]
        by_cases y : gmx P m (P 10 1) - lmn P m (P 10 1) = 0
        · rw [y]; rfl
        · rw [if_pos (show (0 : Int32) < nI (gmx P m (P 10 1) - lmn P m (P 10 1)) from nI_lt (a := 0) (by omega) (by omega))]
theorem k_fair {n m : Nat} {P : PAy} {M : Mem} (c : CP 11 P M) (hV : VA P) (hn : 200 < n) (hm : m ≤ 200) : Sp (s0_unfairness n 2 (nI m) M) (fun r M' => r = nI (frI P m) ∧ KMi M M') := by
  unfold s0_unfairness s0_countSeatedTimes
  refine Sp.cb (P := fun _ M' => (∀ w, w < 12 → M' 3 w = nI (cnBm P m w)) ∧ KMi M M') (Sp.cb (k_think c hV (by omega)) (fun r M1 g => (k_cnt13 hV hn hm n 0 M1 (Nat.zero_le _) (by omega) g.1 (fun w hw => by omega)).mono (fun r M2 z => ⟨z.1, g.2.2.mi.tr z.2⟩))) (fun r M2 g => ?_)
  have c2 := g.2.cp (Or.inl rfl) c hV.w12
  have := k_unf12 (n := n) hV hm n 0 M2 (Nat.zero_le _) (by omega) c2 g.1
  rw [show min 0 (P 10 1) = 0 by omega] at this
  exact this.mono (fun r M3 z => ⟨z.1, by rw [z.2]; exact g.2⟩)
