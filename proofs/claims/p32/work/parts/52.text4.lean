/-! ===== texts: all statements ===== -/
noncomputable def psA (T : Nat → Nat) (L : Nat) : Nat → Nat
  | 0 => 0
  | j + 1 => (sdA T L (psA T L j)).2.1
def okA (T : Nat → Nat) (L j : Nat) : Prop := (sdA T L (psA T L j)).1 = 1
def Kok (T : Nat → Nat) (L K : Nat) : Prop := 1 ≤ K ∧ (∀ j, j < K → okA T L j) ∧ L ≤ psA T L K ∧ ∀ j, 1 ≤ j → j < K → psA T L j < L
def Bad (T : Nat → Nat) (L K : Nat) : Prop := (∀ j, j < K → okA T L j) ∧ ¬ okA T L K ∧ ∀ j, 1 ≤ j → j ≤ K → psA T L j < L
theorem Kok_uniq {T : Nat → Nat} {L a b : Nat} (h : Kok T L a) (g : Kok T L b) : a = b := by
  rcases Nat.lt_trichotomy a b with e | e | e
  · have := g.2.2.2 a h.1 e
    have := h.2.2.1
    omega
  · exact e
  · have := h.2.2.2 b g.1 e
    have := g.2.2.1
    omega
theorem Bad_uniq {T : Nat → Nat} {L a b : Nat} (h : Bad T L a) (g : Bad T L b) : a = b := by
  rcases Nat.lt_trichotomy a b with e | e | e
  · exact absurd (g.1 a e) h.2.1
  · exact e
  · exact absurd (h.1 b e) g.2.1
theorem Kok_Bad {T : Nat → Nat} {L a b : Nat} (h : Kok T L a) (g : Bad T L b) : False := by
  by_cases e : b < a
  · exact g.2.1 (h.2.1 b e)
  · have := g.2.2 a h.1 (by omega)
    have := h.2.2.1
    omega
theorem ps_f {T : Nat → Nat} {L : Nat} (hT : T256 T) (hL : L ≤ 64) : ∀ k, (∀ j, j < k → okA T L j) → 3 * k ≤ psA T L k ∧ psA T L k ≤ L ∨ k = 0 := by
  intro k
  induction k with
  | zero => intro _; exact Or.inr rfl
  | succ k ih =>
    intro h
    have ih := ih (fun j hj => h j (by omega))
    have hk := h k (by omega)
    obtain ⟨f1, f2, f3, f4⟩ := sdA_f (L := L) (a := psA T L k) hT
    have f3' := f3 hk
    have e : psA T L (k + 1) = (sdA T L (psA T L k)).2.1 := rfl
    refine Or.inl ⟨?_, by rw [e]; exact f3'.2.1⟩
    rw [e]
    rcases ih with ih | ih
    · omega
    · subst ih
      omega
theorem ps_64 {T : Nat → Nat} {L k : Nat} (hT : T256 T) (hL : L ≤ 64) (h : ∀ j, j < k → okA T L j) : psA T L k ≤ 64 ∧ (psA T L k < L → k ≤ 21) ∧ 3 * k ≤ 64 := by
  rcases ps_f hT hL k h with q | q
  · exact ⟨by omega, fun _ => by omega, by omega⟩
  · subst q; exact ⟨Nat.zero_le _, fun _ => by omega, by omega⟩
theorem k_mis6 {n L : Nat} {T : Nat → Nat} (hT : T256 T) (hL : L ≤ 64) (hn : 60 < n) : ∀ (f i : Nat) (M : Mem), 30 ≤ i + f → CTx L T M → M 8 2 = nI (psA T L i) → M 8 5 = nI i → (∀ j, j < i → okA T L j) → (∀ j, 1 ≤ j → j < i → psA T L j < L) → Sp (s6_firstMisfit_6 n 8 f (nI i) M) (fun r M' => KTx M M' ∧ ((r = -1 ∧ ∃ K, Kok T L K ∧ M' 8 5 = nI K) ∨ ∃ K, Bad T L K ∧ r = nI (sdA T L (psA T L K)).2.1)) := by
  intro f
  induction f with
  | zero =>
    intro i M h1 c e2 e5 hok hlt
    have := (ps_64 hT hL hok).2.2
    omega
  | succ f ih =>
    intro i M h1 c e2 e5 hok hlt
    obtain ⟨p1, p2, p3⟩ := ps_64 hT hL hok
    have read : (∀ j, 1 ≤ j → j ≤ i → psA T L j < L) → Sp (s6_firstMisfit_27 n (s6_firstMisfit_6 n 8 f) 8 (nI i) M) (fun r M' => KTx M M' ∧ ((r = -1 ∧ ∃ K, Kok T L K ∧ M' 8 5 = nI K) ∨ ∃ K, Bad T L K ∧ r = nI (sdA T L (psA T L K)).2.1)) := fun hle => by
      unfold s6_firstMisfit_27
      refine Sp.cb (k_readSt hT hL p1 hn c e2) (fun r M1 t => ?_)
      obtain ⟨t1, t2, t3⟩ := t
      rcases t3 with ⟨r0, t4⟩ | ⟨r0, t4, t5, -⟩
      · rw [r0]
        refine Sp.pos rfl (Sp.ret ⟨t1, Or.inr ⟨i, ⟨hok, fun z => ?_, hle⟩, t2⟩⟩)
        have : (sdA T L (psA T L i)).1 = 1 := z
        omega
      · rw [r0]
        refine Sp.neg (by decide) (Sp.ilet ?_)
        rw [nI_1]
        refine (ih (i + 1) M1 (by omega) (t1.ct c) t2 (by rw [t5, e5, nI_1]) (fun j hj => ?_) (fun j j1 j2 => hle j j1 (by omega))).mono (fun r M2 w => ⟨t1.tr w.1, w.2⟩)
        by_cases e : j = i
        · subst e; exact t4
        · exact hok j (by omega)
    rw [s6_firstMisfit_6]
    refine Sp.neg (nI_ge (b := 64) (by omega) (by decide)) ?_
    by_cases q : i = 0
    · subst q
      exact Sp.pos rfl (read (fun j j1 j2 => by omega))
    · refine Sp.neg (fun z => q ((nI_is0 (by omega)).mp z)) ?_
      rw [c.1, e2]
      by_cases z : L ≤ psA T L i
      · exact Sp.pos (nI_le z (by omega)) (Sp.ret ⟨KTx.rf, Or.inl ⟨rfl, i, ⟨by omega, hok, z, hlt⟩, e5⟩⟩)
      · refine Sp.neg (nI_ge (by omega) (by omega)) (read (fun j j1 j2 => ?_))
        by_cases e : j = i
        · subst e; omega
        · exact hlt j j1 (by omega)
/-- nothing but the reference's reading differs -/
def RQ (M M' : Mem) : Prop := (∀ q, q ≠ 80 → (q < 93 ∨ 97 < q) → M' q = M q) ∧ ∀ j, j ≠ 27 → j ≠ 28 → M' 80 j = M 80 j
theorem RQ.rf {M : Mem} : RQ M M := ⟨fun _ _ _ => rfl, fun _ _ _ => rfl⟩
theorem RQ.tr {M M' M'' : Mem} (h : RQ M M') (h' : RQ M' M'') : RQ M M'' := ⟨fun q a b => (h'.1 q a b).trans (h.1 q a b), fun j a b => (h'.2 j a b).trans (h.2 j a b)⟩
theorem r_par12 {n L : Nat} {T : Nat → Nat} {N : Mem} {Q : Int32 → Mem → Prop} (hT : T256 T) (hL : L ≤ 64) (hn : 60 < n) (hk1 : ∀ K M', Kok T L K → RQ N M' → M' 80 28 = nI K → (∀ j, j < K → Std T L (psA T L j) j M') → Sp (s9_party_60 n 80 1 M') Q) (hk0 : ∀ K M', Bad T L K → RQ N M' → M' 80 27 = nI (sdA T L (psA T L K)).2.1 → Sp (s9_party_60 n 80 0 M') Q) : ∀ (f i : Nat) (M : Mem), 30 ≤ i + f → RQ N M → RTx L T M → M 80 27 = nI (psA T L i) → M 80 28 = nI i → (∀ j, j < i → okA T L j) → (∀ j, 1 ≤ j → j < i → psA T L j < L) → (∀ j, j < i → Std T L (psA T L j) j M) → Sp (s9_party_12 n 80 f 1 M) Q := by
  intro f
  induction f with
  | zero =>
    intro i M h1 g c e2 e5 hok hlt hst
    have := (ps_64 hT hL hok).2.2
    omega
  | succ f ih =>
    intro i M h1 g c e2 e5 hok hlt hst
    obtain ⟨p1, p2, p3⟩ := ps_64 hT hL hok
    have read : (∀ j, 1 ≤ j → j ≤ i → psA T L j < L) → Sp (s9_party_34 n (s9_party_12 n 80 f) 80 M) Q := fun hle => by
      unfold s9_party_34
      refine Sp.cb (r_statement (k := i) hT hL p1 (by omega) hn c e2 e5) (fun r M1 t => ?_)
      obtain ⟨t1, t2, t3⟩ := t
      have e28 : M1 80 28 = nI i := by rw [t1.2.1 28 (by decide)]; exact e5
      have gQ : ∀ v, RQ N (mset M1 80 28 v) := fun v => g.tr ⟨fun q a b => by rw [ms_ne a, t1.1 q a b], fun j a b => by rw [ms_ne2 b, t1.2.1 j a]⟩
      rcases t3 with ⟨r0, t4⟩ | ⟨r0, t4, t5⟩
      · rw [r0]
        refine Sp.pos rfl (Sp.mlet ?_)
        cases f with
        | zero => omega
        | succ f =>
          rw [s9_party_12]
          refine Sp.pos rfl (hk0 i _ ⟨hok, fun z => ?_, hle⟩ (gQ _) ?_)
          · have : (sdA T L (psA T L i)).1 = 1 := z
            omega
          · rw [ms_ne2 (by decide)]; exact t2
      · rw [r0]
        refine Sp.neg (by decide) (Sp.mlet ?_)
        rw [e28, nI_1]
        refine ih (i + 1) _ (by omega) (gQ _) ?_ ?_ ms_eq (fun j hj => ?_) (fun j j1 j2 => hle j j1 (by omega)) (fun j hj => ?_)
        · refine ⟨?_, fun j hj => ?_⟩
          · rw [ms_ne2 (by decide), t1.2.1 26 (by decide)]; exact c.1
          · rw [ms_ne (by decide), t1.1 92 (by decide) (by decide)]; exact c.2 j hj
        · rw [ms_ne2 (by decide)]; exact t2
        · by_cases e : j = i
          · subst e; exact t4
          · exact hok j (by omega)
        · have mv : ∀ q, q ≠ 80 → mset M1 80 28 (nI (i + 1)) q j = M1 q j := fun q hq => by rw [ms_ne hq]
          unfold Std
          rw [mv 93 (by decide), mv 94 (by decide), mv 95 (by decide), mv 96 (by decide), mv 97 (by decide)]
          by_cases e : j = i
          · subst e; exact t5
          · have := hst j (by omega)
            unfold Std at this
            rw [t1.2.2 93 (by decide) (by decide) j e, t1.2.2 94 (by decide) (by decide) j e, t1.2.2 95 (by decide) (by decide) j e, t1.2.2 96 (by decide) (by decide) j e, t1.2.2 97 (by decide) (by decide) j e]
            exact this
    rw [s9_party_12]
    refine Sp.neg (by decide) ?_
    rw [e2, c.1, e5]
    by_cases z : psA T L i < L
    · refine Sp.pos (nI_lt z (by omega)) (read (fun j j1 j2 => ?_))
      by_cases e : j = i
      · subst e; exact z
      · exact hlt j j1 (by omega)
    · refine Sp.neg (nI_nlt (by omega) (by omega)) ?_
      by_cases q : i = 0
      · refine Sp.pos (by rw [q]; rfl) (read (fun j j1 j2 => by omega))
      · exact Sp.neg (fun y => q ((nI_is0 (by omega)).mp y)) (hk1 i M ⟨by omega, hok, by omega, hlt⟩ g e5 hst)
/-! what a statement asks, and what it makes -/
theorem prs_v {T : Nat → Nat} {L : Nat} (hT : T256 T) : ∀ (cs : List Nat) (a u : Nat) (W : Nat → Nat), (∀ j, W j < 10000) → ∀ j, (prs T L cs a u W).2.2 j < 10000 := by
  intro cs
  induction cs with
  | nil => intro a u W h j; exact h j
  | cons c cs ih =>
    intro a u W h j
    have dig : ∀ m, (prs T L (c :: cs) a u W = if (nmA T L m a).2.2 = 0 then (0, (nmA T L m a).1, W) else prs T L cs (nmA T L m a).1 (u + 1) (fun j => if j = u then (nmA T L m a).2.1 else W j)) → (prs T L (c :: cs) a u W).2.2 j < 10000 := fun m he => by
      rw [he]
      by_cases z : (nmA T L m a).2.2 = 0
      · rw [if_pos z]; exact h j
      · rw [if_neg z]
        refine ih _ _ _ (fun i => ?_) j
        show (if i = u then (nmA T L m a).2.1 else W i) < 10000
        by_cases y : i = u
        · rw [if_pos y]; exact nmA_lt hT
        · rw [if_neg y]; exact h i
    by_cases q : c = 35
    · exact dig 3 (by rw [q]; exact prs_35)
    · by_cases q2 : c = 100
      · exact dig 1 (by rw [q2]; exact prs_100)
      · rw [prs_lit q q2]
        by_cases z : a < L ∧ T a = c
        · rw [cif_pos z]; exact ih _ _ _ h j
        · rw [cif_neg z]; exact h j
theorem sdA_v {T : Nat → Nat} {L a : Nat} (hT : T256 T) (j : Nat) : (sdA T L a).2.2 j < 10000 := by
  unfold sdA
  by_cases q : cdsA (ltA T L a) = []
  · rw [if_pos q]; show (0 : Nat) < 10000; omega
  · rw [if_neg q]; exact prs_v hT _ _ _ _ (fun _ => by show (0 : Nat) < 10000; omega) j
def cmO (P : PAy) (b : Nat) (W : Nat → Nat) : Prop := if b = 99 then (W 0 < P 10 0 ∧ P 0 (W 0) = 0 ∧ rk P 60 < 11) else if b = 110 then ((4 ≤ W 0 ∧ W 0 ≤ 60) ∧ P 10 1 = 0 ∧ rk P 60 = 0) else if b = 112 then (W 0 ≤ 4 ∧ 1 ≤ W 1 ∧ W 1 ≤ 99) else if b = 119 then (W 0 < P 10 0 ∧ W 1 ≤ 6 ∧ (1 ≤ W 2 ∧ W 2 ≤ 99) ∧ P 10 1 < 12 ∧ tk P (W 0) ≠ 1) else W 0 ≤ 2
def cmP (P : PAy) (b : Nat) (W : Nat → Nat) : PAy := if b = 99 then adc P (W 0) else if b = 110 then pset P 10 0 (W 0) else if b = 112 then pset (pset P 10 2 (W 0)) 10 3 (W 1) else if b = 119 then adw P (W 0) (W 1) (W 2) else pset P 10 4 (W 0)
theorem V_res {P : PAy} {v : Nat} (hV : VA P) (h1 : 4 ≤ v) (h2 : v ≤ 60) (hW : P 10 1 = 0) (hr : rk P 60 = 0) : VA (pset P 10 0 v) := by
  have k10 : ∀ b, b ≠ 0 → pset P 10 0 v 10 b = P 10 b := fun b hb => ps_j hb
  have kr : ∀ a b, a ≠ 10 → pset P 10 0 v a b = P a b := fun a b ha => ps_i ha
  have h0 : ∀ p, P 0 p = 0 := fun p => by
    have := hV.c1 p
    by_cases q : P 0 p = 1
    · have := rk_lt (hV.c60 q) q; omega
    · omega
  refine ⟨?_, ?_, ⟨?_, ?_, ?_⟩, ?_, ?_, ?_⟩
  · rw [ps_eq]; exact ⟨h1, h2⟩
  · rw [k10 _ (by decide)]; exact hV.2.1
  · intro p; rw [kr _ _ (by decide)]; exact hV.c1 p
  · intro p; rw [kr 0 _ (by decide)]; exact fun _ => h0 p
  · rw [rk_ext (fun p _ => kr 0 p (by decide))]; exact hV.c11
  · intro u hu
    rw [k10 _ (by decide)] at hu
    omega
  · intro u w hu
    rw [k10 _ (by decide)] at hu
    omega
  · unfold VSa
    rw [k10 _ (by decide), k10 _ (by decide), k10 _ (by decide), k10 _ (by decide), k10 _ (by decide)]
    exact hV.s
theorem V_cm {P : PAy} {b : Nat} {W : Nat → Nat} (hV : VA P) (h : cmO P b W) : VA (cmP P b W) := by
  have s1 := hV.s
  unfold VSa at s1
  unfold cmO at h
  unfold cmP
  by_cases q1 : b = 99
  · rw [if_pos q1] at h ⊢
    exact V_adc hV h.1 h.2.1 (by omega)
  rw [if_neg q1] at h ⊢
  by_cases q2 : b = 110
  · rw [if_pos q2] at h ⊢
    exact V_res hV h.1.1 h.1.2 h.2.1 h.2.2
  rw [if_neg q2] at h ⊢
  by_cases q3 : b = 112
  · rw [if_pos q3] at h ⊢
    have h2 : VA (pset P 10 2 (W 0)) := by
      refine V_sc hV (by decide) ?_
      unfold VSa
      rw [ps_eq, ps_j (b := 3) (by decide), ps_j (b := 4) (by decide), ps_j (b := 6) (by decide), ps_j (b := 8) (by decide)]
      exact ⟨h.1, s1.2⟩
    have s2 := h2.s
    unfold VSa at s2
    refine V_sc h2 (by decide) ?_
    unfold VSa
    rw [ps_eq, ps_j (b := 2) (by decide), ps_j (b := 4) (by decide), ps_j (b := 6) (by decide), ps_j (b := 8) (by decide)]
    exact ⟨s2.1, h.2, s2.2.2⟩
  rw [if_neg q3] at h ⊢
  by_cases q4 : b = 119
  · rw [if_pos q4] at h ⊢
    exact V_adw hV h.1 h.2.1 h.2.2.1.1 h.2.2.1.2 h.2.2.2.1 h.2.2.2.2
  rw [if_neg q4] at h ⊢
  refine V_sc hV (by decide) ?_
  unfold VSa
  rw [ps_eq, ps_j (b := 2) (by decide), ps_j (b := 3) (by decide), ps_j (b := 6) (by decide), ps_j (b := 8) (by decide)]
  exact ⟨s1.1, s1.2.1, h, s1.2.2.2⟩
theorem cm_6 {P : PAy} {b : Nat} {W : Nat → Nat} : cmP P b W 10 6 = P 10 6 := by
  unfold cmP
  by_cases q1 : b = 99
  · rw [if_pos q1]; unfold adc; rw [ps_j (by decide), ps_i (by decide)]
  rw [if_neg q1]
  by_cases q2 : b = 110
  · rw [if_pos q2, ps_j (by decide)]
  rw [if_neg q2]
  by_cases q3 : b = 112
  · rw [if_pos q3, ps_j (by decide), ps_j (by decide)]
  rw [if_neg q3]
  by_cases q4 : b = 119
  · rw [if_pos q4, adw_sc (by decide) (by decide)]
  rw [if_neg q4, ps_j (by decide)]
/-- a row of places, a form, a player put by a text: the frame of the reference -/
def RW (M M' : Mem) : Prop := (∀ q, q ≠ 80 → q ≠ 99 → (q < 82 ∨ 92 ≤ q) → M' q = M q) ∧ ∀ k, (k < 11 ∨ 20 ≤ k) → M' 80 k = M 80 k
theorem r_comes {n L a j : Nat} {T : Nat → Nat} {P : PAy} {M : Mem} (hT : T256 T) (h : RP P M) (hV : VA P) (hj : j < 32) (hn : 60 < n) (hst : Std T L a j M) (hl : ltr (ltA T L a)) : Sp (s9_comes n 80 (nI j) M) (fun r M' => RF M M' ∧ ((r = 1 ∧ cmO P (ltA T L a) (sdA T L a).2.2 ∧ RP (cmP P (ltA T L a) (sdA T L a).2.2) M') ∨ (r = 0 ∧ ¬ cmO P (ltA T L a) (sdA T L a).2.2))) := by
  obtain ⟨d1, d2, d3, d4, d5⟩ := hst
  have h12 := hV.w12
  have h60 := hV.n60
  have h11 := hV.c11
  have hv := fun i => sdA_v (L := L) (a := a) hT i
  have hv0 := hv 0
  have hv1 := hv 1
  have hv2 := hv 2
  generalize hW : (sdA T L a).2.2 = W at *
  generalize hb : ltA T L a = b at *
  have i21 : inB (nI j) (alen (link 80 21)) := vp_in_nI (N := 32) hj (by decide)
  have i23 : inB (nI j) (alen (link 80 23)) := vp_in_nI (N := 32) hj (by decide)
  have i24 : inB (nI j) (alen (link 80 24)) := vp_in_nI (N := 32) hj (by decide)
  have i25 : inB (nI j) (alen (link 80 25)) := vp_in_nI (N := 32) hj (by decide)
  have e21 : M (link 80 21) (nI j).toNatClampNeg = nI b := by rw [nI_clamp (by omega)]; exact d1
  have e23 : M (link 80 23) (nI j).toNatClampNeg = nI (W 0) := by rw [nI_clamp (by omega)]; exact d3
  have h12' : M 80 12 = nI (P 10 1) := h.one 1 (by decide)
  have hb256 : b < 256 := by rcases hl with q | q | q | q | q <;> omega
  have bi : ∀ c, c < 256 → (nI b = nI c ↔ b = c) := fun c hc => nI_eq (by omega) (by omega)
  unfold s9_comes
  refine Sp.pos i23 (Sp.ilet ?_)
  rw [e23]
  refine Sp.pos i21 ?_
  rw [e21]
  unfold cmO cmP
  by_cases q1 : b = 99
  · rw [if_pos q1, if_pos q1]
    refine Sp.pos ((bi 99 (by decide)).mpr q1) ?_
    by_cases z : W 0 < P 10 0
    · have i1 : inB (nI (W 0)) (alen (link 80 1)) := vp_in_nI (N := 60) (by omega) (by decide)
      have e1 : M (link 80 1) (nI (W 0)).toNatClampNeg = nI (P 0 (W 0)) := h.chc (by omega)
      have hc := hV.c1 (W 0)
      refine Sp_cbe (r_isPlaceY h hV z) (Sp.neg (by decide) (Sp.pos i1 ?_))
      rw [e1]
      by_cases y : P 0 (W 0) = 1
      · exact Sp.pos (by rw [y]; rfl) (Sp.ret ⟨RF.rf, Or.inr ⟨rfl, fun t => by omega⟩⟩)
      · refine Sp.neg (fun t => y ((nI_is1 (by omega)).mp t)) (Sp_cbe (r_chairs h hV hn) ?_)
        by_cases x : rk P 60 = 11
        · exact Sp.pos (by rw [x]; rfl) (Sp.ret ⟨RF.rf, Or.inr ⟨rfl, fun t => by omega⟩⟩)
        · refine Sp.neg (fun t => x ((nI_eq (b := 11) (by omega) (by decide)).mp t)) (Sp.cb (r_comesChair h (by omega)) (fun r M1 t => Sp.ret ⟨t.2, Or.inl ⟨rfl, ⟨z, by omega, by omega⟩, t.1⟩⟩))
    · exact Sp_cbe (r_isPlaceN h (Or.inr (nI_le (by omega) (by omega)))) (Sp.pos rfl (Sp.ret ⟨RF.rf, Or.inr ⟨rfl, fun t => z t.1⟩⟩))
  rw [if_neg q1, if_neg q1]
  refine Sp.neg (fun t => q1 ((bi 99 (by decide)).mp t)) ?_
  by_cases q2 : b = 110
  · rw [if_pos q2, if_pos q2]
    refine Sp.pos ((bi 110 (by decide)).mpr q2) (Sp_cbe (k_isIn _ _ _ _) ?_)
    by_cases z : 4 ≤ W 0 ∧ W 0 ≤ 60
    · rw [if_pos (show (4 : Int32) ≤ nI (W 0) ∧ nI (W 0) ≤ 60 from ⟨nI_le (a := 4) z.1 (by omega), nI_le (b := 60) z.2 (by decide)⟩), h12']
      refine Sp.neg (by decide) ?_
      by_cases y : P 10 1 = 0
      · refine Sp.neg (by rw [y]; decide) (Sp_cbe (r_chairs h hV hn) ?_)
        by_cases x : rk P 60 = 0
        · refine Sp.pos (by rw [x]; decide) (Sp.mlet (Sp.ret ⟨RF.sc (by decide) (by decide), Or.inl ⟨rfl, ⟨z, y, x⟩, h.sone 0⟩⟩))
        · exact Sp.neg (nI_nle (by omega) (by omega)) (Sp.ret ⟨RF.rf, Or.inr ⟨rfl, fun t => x t.2.2⟩⟩)
      · exact Sp.pos (nI_lt (a := 0) (by omega) (by omega)) (Sp.ret ⟨RF.rf, Or.inr ⟨rfl, fun t => y t.2.1⟩⟩)
    · rw [if_neg (show ¬ ((4 : Int32) ≤ nI (W 0) ∧ nI (W 0) ≤ 60) from fun t => z ⟨(nI_leI (a := 4) (by decide) (by omega)).mp t.1, (nI_leI (b := 60) (by omega) (by decide)).mp t.2⟩)]
      exact Sp.pos rfl (Sp.ret ⟨RF.rf, Or.inr ⟨rfl, fun t => z t.1⟩⟩)
  rw [if_neg q2, if_neg q2]
  refine Sp.neg (fun t => q2 ((bi 110 (by decide)).mp t)) ?_
  by_cases q3 : b = 112
  · rw [if_pos q3, if_pos q3]
    have e25 : M (link 80 25) (nI j).toNatClampNeg = nI (W 1) := by rw [nI_clamp (by omega)]; exact d5 q3
    refine Sp.pos ((bi 112 (by decide)).mpr q3) ?_
    by_cases z : W 0 ≤ 4
    · refine Sp.neg (nI_nlt (a := 4) (b := W 0) z (by decide)) (Sp.pos i25 ?_)
      rw [e25]
      refine Sp_cbe (k_isIn _ _ _ _) ?_
      by_cases y : 1 ≤ W 1 ∧ W 1 ≤ 99
      · rw [if_pos (show (1 : Int32) ≤ nI (W 1) ∧ nI (W 1) ≤ 99 from ⟨nI_le (a := 1) y.1 (by omega), nI_le (b := 99) y.2 (by decide)⟩)]
        refine Sp.neg (by decide) (Sp.mlet (Sp.pos i25 (Sp.mlet (Sp.ret ⟨(RF.sc (by decide) (by decide)).tr (RF.sc (by decide) (by decide)), Or.inl ⟨rfl, ⟨z, y.1, y.2⟩, ?_⟩⟩))))
        have e25' : mset M 80 13 (nI (W 0)) (link 80 25) (nI j).toNatClampNeg = nI (W 1) := by rw [ms_ne (by decide)]; exact e25
        rw [e25']
        have r1 : RP (pset P 10 2 (W 0)) (mset M 80 13 (nI (W 0))) := h.sone 2
        exact r1.sone 3
      · rw [if_neg (show ¬ ((1 : Int32) ≤ nI (W 1) ∧ nI (W 1) ≤ 99) from fun t => y ⟨(nI_leI (a := 1) (by decide) (by omega)).mp t.1, (nI_leI (b := 99) (by omega) (by decide)).mp t.2⟩)]
        exact Sp.pos rfl (Sp.ret ⟨RF.rf, Or.inr ⟨rfl, fun t => y t.2⟩⟩)
    · exact Sp.pos (nI_lt (a := 4) (by omega) (by omega)) (Sp.ret ⟨RF.rf, Or.inr ⟨rfl, fun t => z t.1⟩⟩)
  rw [if_neg q3, if_neg q3]
  refine Sp.neg (fun t => q3 ((bi 112 (by decide)).mp t)) ?_
  by_cases q4 : b = 119
  · rw [if_pos q4, if_pos q4]
    have e24 : M (link 80 24) (nI j).toNatClampNeg = nI (W 1) := by rw [nI_clamp (by omega)]; exact (d4 q4).1
    have e25 : M (link 80 25) (nI j).toNatClampNeg = nI (W 2) := by rw [nI_clamp (by omega)]; exact (d4 q4).2
    refine Sp.pos ((bi 119 (by decide)).mpr q4) ?_
    by_cases z : W 0 < P 10 0
    · refine Sp_cbe (r_isPlaceY h hV z) (Sp.neg (by decide) (Sp.pos i24 ?_))
      rw [e24]
      by_cases y : W 1 ≤ 6
      · refine Sp.neg (nI_nlt (a := 6) (b := W 1) y (by decide)) (Sp.pos i25 ?_)
        rw [e25]
        refine Sp_cbe (k_isIn _ _ _ _) ?_
        by_cases x : 1 ≤ W 2 ∧ W 2 ≤ 99
        · rw [if_pos (show (1 : Int32) ≤ nI (W 2) ∧ nI (W 2) ≤ 99 from ⟨nI_le (a := 1) x.1 (by omega), nI_le (b := 99) x.2 (by decide)⟩), h12']
          refine Sp.neg (by decide) ?_
          by_cases w : P 10 1 = 12
          · exact Sp.pos (by rw [w]; rfl) (Sp.ret ⟨RF.rf, Or.inr ⟨rfl, fun t => by omega⟩⟩)
          · refine Sp.neg (fun t => w ((nI_eq (b := 12) (by omega) (by decide)).mp t)) (Sp_cbe (r_isTaken h h12 hV.b13 hn (by omega)) ?_)
            have ht : tk P (W 0) ≤ 1 := tkn_le _
            by_cases v : tk P (W 0) = 1
            · exact Sp.neg (by rw [v]; decide) (Sp.ret ⟨RF.rf, Or.inr ⟨rfl, fun t => t.2.2.2.2 v⟩⟩)
            · refine Sp.pos (by rw [show tk P (W 0) = 0 by omega]; rfl) (Sp.pos i24 (Sp.pos i25 ?_))
              rw [e24, e25]
              exact Sp.cb (r_comesWalker h (by omega) (by omega)) (fun r M1 t => Sp.ret ⟨t.2, Or.inl ⟨rfl, ⟨z, y, x, by omega, v⟩, t.1⟩⟩)
        · rw [if_neg (show ¬ ((1 : Int32) ≤ nI (W 2) ∧ nI (W 2) ≤ 99) from fun t => x ⟨(nI_leI (a := 1) (by decide) (by omega)).mp t.1, (nI_leI (b := 99) (by omega) (by decide)).mp t.2⟩)]
          exact Sp.pos rfl (Sp.ret ⟨RF.rf, Or.inr ⟨rfl, fun t => x t.2.2.1⟩⟩)
      · exact Sp.pos (nI_lt (a := 6) (by omega) (by omega)) (Sp.ret ⟨RF.rf, Or.inr ⟨rfl, fun t => y t.2.1⟩⟩)
    · exact Sp_cbe (r_isPlaceN h (Or.inr (nI_le (by omega) (by omega)))) (Sp.pos rfl (Sp.ret ⟨RF.rf, Or.inr ⟨rfl, fun t => z t.1⟩⟩))
  rw [if_neg q4, if_neg q4]
  refine Sp.neg (fun t => q4 ((bi 119 (by decide)).mp t)) ?_
  by_cases z : W 0 ≤ 2
  · exact Sp.pos (nI_le (b := 2) z (by decide)) (Sp.mlet (Sp.ret ⟨RF.sc (by decide) (by decide), Or.inl ⟨rfl, z, h.sone 4⟩⟩))
  · exact Sp.neg (nI_ge (a := 2) (by omega) (by omega)) (Sp.ret ⟨RF.rf, Or.inr ⟨rfl, z⟩⟩)
