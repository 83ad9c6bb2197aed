/-! ===== texts: the party that comes ===== -/
noncomputable def aqA (P : PAy) (T : Nat → Nat) (L : Nat) : Nat → PAy
  | 0 => P
  | j + 1 => cmP (aqA P T L j) (ltA T L (psA T L j)) (sdA T L (psA T L j)).2.2
def okC (P : PAy) (T : Nat → Nat) (L j : Nat) : Prop := cmO (aqA P T L j) (ltA T L (psA T L j)) (sdA T L (psA T L j)).2.2
theorem V_aq {P : PAy} {T : Nat → Nat} {L : Nat} (hV : VA P) : ∀ i, (∀ j, j < i → okC P T L j) → VA (aqA P T L i) ∧ aqA P T L i 10 6 = P 10 6 := by
  intro i
  induction i with
  | zero => intro _; exact ⟨hV, rfl⟩
  | succ i ih =>
    intro h
    have := ih (fun j hj => h j (by omega))
    exact ⟨V_cm this.1 (h i (by omega)), by show cmP _ _ _ 10 6 = _; rw [cm_6]; exact this.2⟩
/-- what the call answers, and the party behind it -/
def PRs (P : PAy) (T : Nat → Nat) (L : Nat) (r : Int32) (Q : PAy) : Prop := (∃ K, Bad T L K ∧ r = -1000 - nI (sdA T L (psA T L K)).2.1 ∧ Q = P) ∨ (∃ K j, Kok T L K ∧ j < K ∧ (∀ i, i < j → okC P T L i) ∧ ¬ okC P T L j ∧ r = -2000 - nI (psA T L j) ∧ Q = P) ∨ ∃ K, Kok T L K ∧ (∀ i, i < K → okC P T L i) ∧ r = nI K ∧ Q = aqA P T L K
theorem PRs_uniq {P : PAy} {T : Nat → Nat} {L : Nat} {r r' : Int32} {Q Q' : PAy} (h : PRs P T L r Q) (g : PRs P T L r' Q') : r = r' ∧ Q = Q' := by
  rcases h with ⟨K, a1, a2, a3⟩ | ⟨K, j, a1, a2, a3, a4, a5, a6⟩ | ⟨K, a1, a2, a3, a4⟩ <;> rcases g with ⟨K', b1, b2, b3⟩ | ⟨K', j', b1, b2, b3, b4, b5, b6⟩ | ⟨K', b1, b2, b3, b4⟩
  · have := Bad_uniq a1 b1
    subst this
    exact ⟨a2.trans b2.symm, a3.trans b3.symm⟩
  · exact (Kok_Bad b1 a1).elim
  · exact (Kok_Bad b1 a1).elim
  · exact (Kok_Bad a1 b1).elim
  · have : j = j' := by
      rcases Nat.lt_trichotomy j j' with e | e | e
      · exact absurd (b3 j e) a4
      · exact e
      · exact absurd (a3 j' e) b4
    subst this
    exact ⟨a5.trans b5.symm, a6.trans b6.symm⟩
  · have := Kok_uniq a1 b1
    subst this
    exact absurd (b2 j a2) a4
  · exact (Kok_Bad a1 b1).elim
  · have := Kok_uniq a1 b1
    subst this
    exact absurd (a2 j' b2) b4
  · have := Kok_uniq a1 b1
    subst this
    exact ⟨a3.trans b3.symm, a4.trans b4.symm⟩
theorem PRs_V {P Q : PAy} {T : Nat → Nat} {L : Nat} {r : Int32} (hV : VA P) (h : PRs P T L r Q) : VA Q ∧ Q 10 6 = P 10 6 := by
  rcases h with ⟨K, a1, a2, a3⟩ | ⟨K, j, a1, a2, a3, a4, a5, a6⟩ | ⟨K, a1, a2, a3, a4⟩
  · rw [a3]; exact ⟨hV, rfl⟩
  · rw [a6]; exact ⟨hV, rfl⟩
  · rw [a4]; exact V_aq hV K a2
theorem ps_lt {T : Nat → Nat} {L K i : Nat} (hT : T256 T) (hK : Kok T L K) (hi : i < K) : psA T L i < L := by
  by_cases q : i = 0
  · subst q
    have h0 : (sdA T L 0).1 = 1 := hK.2.1 0 (by omega)
    have := (sdA_f (L := L) (a := 0) hT).2.2.1 h0
    show 0 < L
    omega
  · exact hK.2.2.2 i (by omega) hi
theorem K_21 {T : Nat → Nat} {L K : Nat} (hT : T256 T) (hL : L ≤ 64) (hK : Kok T L K) : K ≤ 21 := by
  have := (ps_64 hT hL hK.2.1).2.2
  omega
theorem ok_let {T : Nat → Nat} {L i : Nat} (hT : T256 T) (h : okA T L i) : ltr (ltA T L (psA T L i)) := ((sdA_f (L := L) (a := psA T L i) hT).2.2.1 h).2.2
/-- nothing but the texts' reader and the thought party differ -/
def KT2 (M M' : Mem) : Prop := (∀ q, q ≠ 8 → q ≠ 10 → (q < 34 ∨ 57 ≤ q) → M' q = M q) ∧ M' 8 4 = M 8 4
theorem KT2.rf {M : Mem} : KT2 M M := ⟨fun _ _ _ _ => rfl, rfl⟩
theorem KT2.tr {M M' M'' : Mem} (h : KT2 M M') (h' : KT2 M' M'') : KT2 M M'' := ⟨fun q a b c => (h'.1 q a b c).trans (h.1 q a b c), h'.2.trans h.2⟩
theorem KTx.t2 {M M' : Mem} (h : KTx M M') : KT2 M M' := ⟨fun q a b _ => h.1 q a b, h.2⟩
theorem KFo.t2 {M M' : Mem} (h : KFo 34 M M') : KT2 M M' := ⟨fun q _ _ c => h q (by omega), by rw [h 8 (by decide)]⟩
theorem KFo.tc {L : Nat} {T : Nat → Nat} {M M' : Mem} (h : KFo 34 M M') (c : CTx L T M) : CTx L T M' := ⟨by rw [h 8 (by decide)]; exact c.1, fun j hj => by rw [h 9 (by decide)]; exact c.2 j hj⟩
theorem KTx.cp {P : PAy} {M M' : Mem} (h : KTx M M') (c : CP 34 P M) (h12 : P 10 1 ≤ 12) : CP 34 P M' := c.same (fun q a b => h.1 q (by omega) (by omega)) h12
theorem k_imp6 {n L K : Nat} {T : Nat → Nat} {P : PAy} (hT : T256 T) (hL : L ≤ 64) (hn : 60 < n) (hV : VA P) (hK : Kok T L K) : ∀ (f i : Nat) (M : Mem), K < i + f → i ≤ K → CTx L T M → M 8 2 = nI (psA T L i) → M 8 5 = nI i → (∀ j, j < i → okC P T L j) → CP 34 (aqA P T L i) M → Sp (s6_firstImpossible_6 n 8 34 f (nI i) M) (fun r M' => KT2 M M' ∧ ((r = -1 ∧ (∀ j, j < K → okC P T L j) ∧ CP 34 (aqA P T L K) M' ∧ M' 8 5 = nI K) ∨ ∃ j, j < K ∧ (∀ i, i < j → okC P T L i) ∧ ¬ okC P T L j ∧ r = nI (psA T L j))) := by
  intro f
  induction f with
  | zero => intro i M h1 h2; omega
  | succ f ih =>
    intro i M h1 h2 c e2 e5 hok hc
    have h21 := K_21 hT hL hK
    have p64 := (ps_64 hT hL (k := i) (fun j hj => hK.2.1 j (by omega))).1
    obtain ⟨hVi, -⟩ := V_aq hV i hok
    rw [s6_firstImpossible_6]
    refine Sp.neg (nI_ge (b := 64) (by omega) (by decide)) ?_
    rw [c.1, e2]
    by_cases q : i = K
    · subst q
      exact Sp.pos (nI_le hK.2.2.1 (by omega)) (Sp.ret ⟨KT2.rf, Or.inl ⟨rfl, hok, hc, e5⟩⟩)
    · have hi : i < K := by omega
      have hlt := ps_lt hT hK hi
      have oki : okA T L i := hK.2.1 i hi
      have es : sgI T L (psA T L i) = nI (ltA T L (psA T L i)) := by unfold sgI ltA; rw [if_pos hlt, if_pos hlt]
      refine Sp.neg (nI_ge (by omega) (by omega)) (Sp.ilet ?_)
      rw [k_sign c hL p64 e2, cb_some]
      refine Sp.cb (k_readSt hT hL p64 hn c e2) (fun r M1 t => ?_)
      obtain ⟨t1, t2, t3⟩ := t
      rcases t3 with ⟨r0, t4⟩ | ⟨r0, t4, t5, t6⟩
      · exact absurd (show (1 : Nat) = 0 from (show (sdA T L (psA T L i)).1 = 1 from oki).symm.trans t4) (by decide)
      · rw [r0]
        refine Sp.neg (by decide) ?_
        rw [es]
        refine Sp.cb (k_comes (t1.cp hc hVi.w12) hVi (ok_let hT oki) hn t6 (fun j => sdA_v hT j)) (fun r2 M2 u => ?_)
        obtain ⟨u1, u2⟩ := u
        rcases u2 with ⟨r1, u3, u4⟩ | ⟨r1, u3⟩
        · rw [r1]
          refine Sp.neg (by decide) (Sp.ilet ?_)
          rw [nI_1]
          refine (ih (i + 1) M2 (by omega) (by omega) (u1.tc (t1.ct c)) ?_ ?_ (fun j hj => ?_) u4).mono (fun r M3 w => ⟨(t1.t2.tr u1.t2).tr w.1, w.2⟩)
          · rw [u1 8 (by decide)]; exact t2
          · rw [u1 8 (by decide), t5, e5, nI_1]
          · by_cases e : j = i
            · subst e; exact u3
            · exact hok j (by omega)
        · rw [r1]
          exact Sp.pos rfl (Sp.ret ⟨t1.t2.tr u1.t2, Or.inr ⟨i, hi, hok, u3, rfl⟩⟩)
theorem neg_lt {a : Nat} (h : a < 2 ^ 31) : ¬ nI a < 0 := nI_pos h
/-- the program's call -/
theorem k_party {n L : Nat} {T : Nat → Nat} {P : PAy} {M : Mem} (hT : T256 T) (hL : L ≤ 64) (hn : 60 < n) (hV : VA P) (c : CTx L T M) (hc : CP 11 P M) : Sp (s8_party n 0 M) (fun r M' => ∃ Q, PRs P T L r Q ∧ CP 11 Q M' ∧ M' 8 4 = 0 ∧ ∀ q, q ≠ 8 → q ≠ 10 → (q < 11 ∨ 57 ≤ q) → M' q = M q) := by
  unfold s8_party
  refine Sp.cb (P := fun r M' => ∃ Q, PRs P T L r Q ∧ CP 11 Q M' ∧ ∀ q, q ≠ 8 → q ≠ 10 → (q < 11 ∨ 57 ≤ q) → M' q = M q) ?_ (fun r M' t => ?_)
  · unfold s0_readParty s6_firstMisfit
    refine Sp.cb (P := fun r M' => KTx M M' ∧ ((r = -1 ∧ ∃ K, Kok T L K ∧ M' 8 5 = nI K) ∨ ∃ K, Bad T L K ∧ r = nI (sdA T L (psA T L K)).2.1)) ?_ (fun r M1 t => ?_)
    · unfold s6_begin
      refine Sp.cb (P := fun _ M' => M' = mset (mset M 8 2 0) 8 5 0) (Sp.mlet (Sp.mlet (Sp.ret rfl))) (fun r M1 h => ?_)
      subst h
      have f : KTx M (mset (mset M 8 2 0) 8 5 0) := (KTx.s8 (by decide)).tr (KTx.s8 (by decide))
      refine (k_mis6 hT hL hn n 0 _ (by omega) (f.ct c) ?_ ms_eq (fun j hj => by omega) (fun j _ hj => by omega)).mono (fun r M2 w => ⟨f.tr w.1, w.2⟩)
      rw [ms_ne2 (by decide)]; exact ms_eq
    · obtain ⟨f1, t2⟩ := t
      have c1 := f1.ct c
      have hc1 : CP 11 P M1 := hc.same (fun q a b => f1.1 q (by omega) (by omega)) hV.w12
      rcases t2 with ⟨r0, K, hK, e5⟩ | ⟨K, hK, r0⟩
      · rw [r0]
        refine Sp.pos (by decide) (Sp.cb (k_think hc1 hV hn) (fun r2 M2 u => ?_))
        obtain ⟨u1, u2, u3⟩ := u
        unfold s6_firstImpossible s6_begin
        refine Sp.cb (P := fun r M' => KT2 M2 M' ∧ ((r = -1 ∧ (∀ j, j < K → okC P T L j) ∧ CP 34 (aqA P T L K) M' ∧ M' 8 5 = nI K) ∨ ∃ j, j < K ∧ (∀ i, i < j → okC P T L i) ∧ ¬ okC P T L j ∧ r = nI (psA T L j))) ?_ (fun r3 M3 v => ?_)
        · refine Sp.cb (P := fun _ M' => M' = mset (mset M2 8 2 0) 8 5 0) (Sp.mlet (Sp.mlet (Sp.ret rfl))) (fun r M3 h => ?_)
          subst h
          have f : KTx M2 (mset (mset M2 8 2 0) 8 5 0) := (KTx.s8 (by decide)).tr (KTx.s8 (by decide))
          have h21 := K_21 hT hL hK
          refine (k_imp6 hT hL hn hV hK n 0 _ (by omega) (by omega) (f.ct (u3.tc c1)) ?_ ms_eq (fun j hj => by omega) (f.cp u1 hV.w12)).mono (fun r M4 w => ⟨f.t2.tr w.1, w.2⟩)
          rw [ms_ne2 (by decide)]; exact ms_eq
        · obtain ⟨v1, v2⟩ := v
          have fr : ∀ q, q ≠ 8 → q ≠ 10 → (q < 34 ∨ 57 ≤ q) → M3 q = M q := fun q a b d => by rw [v1.1 q a b d, u3 q (by omega), f1.1 q a b]
          rcases v2 with ⟨r1, v3, v4, v5⟩ | ⟨j, v3, v4, v5, r1⟩
          · rw [r1]
            obtain ⟨hVK, -⟩ := V_aq hV K v3
            refine Sp.pos (by decide) (Sp.cb (k_become (a := 11) (b := 34) po11 po34 (by decide) v4 hVK hn) (fun r4 M4 w => Sp.ret ⟨aqA P T L K, Or.inr (Or.inr ⟨K, hK, v3, ?_, rfl⟩), w.1, fun q a b d => ?_⟩))
            · rw [show M4 (link 0 5) = M3 8 from w.2 8 (by decide)]; exact v5
            · rw [w.2 q (by omega), fr q a b (by omega)]
          · rw [r1]
            have p64 := (ps_64 hT hL (k := j) (fun i hi => hK.2.1 i (by omega))).1
            refine Sp.neg (nI_pos (by omega)) (Sp.ret ⟨P, Or.inr (Or.inl ⟨K, j, hK, v3, v4, v5, rfl, rfl⟩), ?_, fun q a b d => fr q a b (by omega)⟩)
            exact hc.same (fun q a b => fr q (by omega) (by omega) (by omega)) hV.w12
      · rw [r0]
        have : (sdA T L (psA T L K)).2.1 ≤ 64 := by
          have := (sdA_f (L := L) (a := psA T L K) hT).2.1
          have := (ps_64 hT hL hK.1).1
          omega
        exact Sp.neg (nI_pos (by omega)) (Sp.ret ⟨P, Or.inl ⟨K, hK, rfl, rfl⟩, hc1, fun q a b _ => f1.1 q a b⟩)
  · obtain ⟨Q, t1, t2, t3⟩ := t
    refine Sp.mlet (Sp.ret ⟨Q, t1, t2.same (fun q a b => ms_ne (by show q ≠ 8; omega)) (PRs_V hV t1).1.w12, ms_eq, fun q a b d => ?_⟩)
    rw [ms_ne (show q ≠ link 0 5 from a)]; exact t3 q a b d
/-! the reference's call -/
theorem RF.std {T : Nat → Nat} {L a k : Nat} {M M' : Mem} (h : RF M M') (s : Std T L a k M) : Std T L a k M' := by
  unfold Std at s ⊢
  rw [h.1 93 (by decide) (by decide) (by decide), h.1 94 (by decide) (by decide) (by decide), h.1 95 (by decide) (by decide) (by decide), h.1 96 (by decide) (by decide) (by decide), h.1 97 (by decide) (by decide) (by decide)]
  exact s
theorem r_par86 {n L K : Nat} {T : Nat → Nat} {P : PAy} (hT : T256 T) (hL : L ≤ 64) (hn : 60 < n) (hV : VA P) (hK : Kok T L K) : ∀ (f i : Nat) (M : Mem), K < i + f → i ≤ K → M 80 28 = nI K → (∀ j, j < K → Std T L (psA T L j) j M) → (∀ j, j < i → okC P T L j) → RP (aqA P T L i) M → KP 200 P M → Sp (s9_party_86 n 80 f (nI i) M) (fun r M' => ∃ Q, PRs P T L r Q ∧ RP Q M' ∧ RGm M M') := by
  intro f
  induction f with
  | zero => intro i M h1 h2; omega
  | succ f ih =>
    intro i M h1 h2 e28 hst hok hr hkp
    have h21 := K_21 hT hL hK
    obtain ⟨hVi, -⟩ := V_aq hV i hok
    rw [s9_party_86, e28]
    by_cases q : i = K
    · subst q
      exact Sp.pos (nI_le (Nat.le_refl _) (by omega)) (Sp.ret ⟨_, Or.inr (Or.inr ⟨i, hK, hok, rfl, rfl⟩), hr, RH.rf.RGm⟩)
    · have hi : i < K := by omega
      refine Sp.neg (nI_ge (by omega) (by omega)) (Sp.cb (r_comes hT hr hVi (by omega) hn (hst i hi) (ok_let hT (hK.2.1 i hi))) (fun r M1 t => ?_))
      obtain ⟨t1, t2⟩ := t
      have hk1 : KP 200 P M1 := hkp.h t1.RH
      rcases t2 with ⟨r0, t3, t4⟩ | ⟨r0, t3⟩
      · rw [r0]
        refine Sp.neg (by decide) (Sp.ilet ?_)
        rw [nI_1]
        refine (ih (i + 1) M1 (by omega) (by omega) ?_ (fun j hj => t1.std (hst j hj)) (fun j hj => ?_) t4 hk1).mono (fun r M3 w => ?_)
        · rw [t1.2 28 (by decide)]; exact e28
        · by_cases e : j = i
          · subst e; exact t3
          · exact hok j (by omega)
        · obtain ⟨Q, w1, w2, w3⟩ := w
          exact ⟨Q, w1, w2, t1.RH.RGm.tr w3⟩
      · rw [r0]
        refine Sp.pos rfl (Sp.cb (r_back1 hk1 hn) (fun r2 M2 u => ?_))
        obtain ⟨u1, u2, -⟩ := u
        refine Sp.pos (show inB (nI i) (alen (link 80 22)) from vp_in_nI (N := 32) (by omega) (by decide)) (Sp.ret ⟨P, Or.inr (Or.inl ⟨K, i, hK, hi, hok, t3, ?_, rfl⟩), u1, t1.RH.RGm.tr u2⟩)
        have e94 : M2 94 i = nI (psA T L i) := by
          rw [u2.1 94 (by decide) (by decide) (by decide) (by decide) (by decide), t1.1 94 (by decide) (by decide) (by decide)]
          exact (hst i hi).2.1
        rw [nI_clamp (by omega)]
        exact congrArg (fun z => (-2000 : Int32) - z) e94
theorem r_party {n L : Nat} {T : Nat → Nat} {P : PAy} {M : Mem} (hT : T256 T) (hL : L ≤ 64) (hn : 60 < n) (hV : VA P) (c : RTx L T M) (hr : RP P M) : Sp (s9_party n 80 M) (fun r M' => ∃ Q, PRs P T L r Q ∧ RP Q M' ∧ M' 80 26 = 0 ∧ (∀ q, q ≠ 80 → q ≠ 98 → q ≠ 99 → q ≠ 100 → (q < 82 ∨ (92 ≤ q ∧ q < 93) ∨ 97 < q) → M' q = M q) ∧ (∀ k, (k < 11 ∨ (20 ≤ k ∧ k < 26) ∨ k = 29 ∨ k = 30 ∨ k = 33 ∨ k = 34 ∨ 40 ≤ k) → M' 80 k = M 80 k) ∧ ∀ j, j < 200 → M' 98 j = M 98 j) := by
  unfold s9_party
  refine Sp.mlet (Sp.mlet ?_)
  have g0 : RQ M (mset (mset M 80 27 0) 80 28 0) := ⟨fun q a _ => by rw [ms_ne a, ms_ne a], fun j a b => by rw [ms_ne2 b, ms_ne2 a]⟩
  have rp : ∀ M1, RQ M M1 → RP P M1 := fun M1 g => hr.oh (fun s a b => g.2 s (by omega) (by omega)) (fun q a b => g.1 q (by omega) (by omega))
  refine r_par12 (N := M) hT hL hn ?_ ?_ n 0 _ (by omega) g0 ⟨?_, fun j hj => ?_⟩ ?_ ms_eq (fun j hj => by omega) (fun j _ hj => by omega) (fun j hj => by omega)
  · intro K M1 hK g e28 hst
    unfold s9_party_60
    refine Sp.mlet (Sp.neg (by decide) ?_)
    have h21 := K_21 hT hL hK
    have r1 : RP P (mset M1 80 26 0) := (rp M1 g).oh (fun s a b => ms_ne2 (by omega)) (fun q a b => ms_ne (by omega))
    refine Sp.cb (r_keep1 r1 hn) (fun r M2 t => ?_)
    obtain ⟨t1, t2, t3⟩ := t
    refine (r_par86 hT hL hn hV hK n 0 M2 (by omega) (by omega) ?_ (fun j hj => ?_) (fun j hj => by omega) t1 t2).mono (fun r M3 w => ?_)
    · rw [t3.2.1 28 (by decide), ms_ne2 (by decide)]; exact e28
    · have := hst j hj
      unfold Std at this ⊢
      have o : ∀ q, 93 ≤ q → q ≤ 97 → M2 q = M1 q := fun q a b => by rw [t3.1 q (by omega) (by omega) (by omega) (by omega) (by omega), ms_ne (by omega)]
      rw [o 93 (by decide) (by decide), o 94 (by decide) (by decide), o 95 (by decide) (by decide), o 96 (by decide) (by decide), o 97 (by decide) (by decide)]
      exact this
    · obtain ⟨Q, w1, w2, w3⟩ := w
      refine ⟨Q, w1, w2, ?_, fun q a b c d e => ?_, fun k a => ?_, fun j a => ?_⟩
      · rw [w3.2.1 26 (by decide), t3.2.1 26 (by decide)]; exact ms_eq
      · rw [w3.1 q a b c d (by omega), t3.1 q a b c d (by omega), ms_ne a, g.1 q a (by omega)]
      · rw [w3.2.1 k (by omega), t3.2.1 k (by omega), ms_ne2 (by omega), g.2 k (by omega) (by omega)]
      · rw [w3.2.2 j a, t3.2.2 j a, ms_ne (by decide), g.1 98 (by decide) (by decide)]
  · intro K M1 hK g e27
    unfold s9_party_60
    refine Sp.mlet (Sp.pos rfl (Sp.ret ⟨P, Or.inl ⟨K, hK, ?_, rfl⟩, (rp M1 g).oh (fun s a b => ms_ne2 (by omega)) (fun q a b => ms_ne (by omega)), ms_eq, fun q a b c d e => ?_, fun k a => ?_, fun j a => ?_⟩))
    · rw [ms_ne2 (by decide), e27]
    · rw [ms_ne a, g.1 q a (by omega)]
    · rw [ms_ne2 (by omega), g.2 k (by omega) (by omega)]
    · rw [ms_ne (by decide), g.1 98 (by decide) (by decide)]
  · rw [ms_ne2 (by decide), ms_ne2 (by decide)]; exact c.1
  · rw [ms_ne (by decide), ms_ne (by decide)]; exact c.2 j hj
  · rw [ms_ne2 (by decide)]; exact ms_eq
