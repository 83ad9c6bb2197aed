/-! ===== the reference: a whole party in mind ===== -/
theorem lnn_le {P : PAy} : ∀ n, lnn P n ≤ n := by
  intro n
  induction n with
  | zero => exact Nat.le_refl _
  | succ n ih =>
    show (if P 3 n = 1 then n + 1 else lnn P n) ≤ n + 1
    split <;> omega
def wnn (P : PAy) (i : Nat) : Nat := if insc P (P 10 1) = 1 then lnn P i else 0
theorem r_plays59 {P : PAy} {n : Nat} (hV : VA P) (hn : 60 < n) : ∀ (f i : Nat) (M : Mem), i ≤ P 10 1 → P 10 1 < i + f → RP P M → M 80 39 = gI (wnn P i) → Sp (s9_plays_59 n 80 f (nI i) M) (fun _ M' => M' 80 39 = gI (winA P) ∧ (∀ q, q ≠ 80 → M' q = M q) ∧ (∀ k, k ≠ 39 → M' 80 k = M 80 k)) := by
  have h12 := hV.w12
  intro f
  induction f with
  | zero => intro i M h1 h2; omega
  | succ f ih =>
    intro i M h1 h2 h h39
    have hN : M 80 12 = nI (P 10 1) := h.one 1 (by decide)
    rw [s9_plays_59, hN]
    by_cases q : i < P 10 1
    · have i4 : inB (nI i) (alen (link 80 4)) := vp_in_nI (N := 12) (by omega) (by decide)
      have e4 : M (link 80 4) (nI i).toNatClampNeg = nI (P 3 i) := h.rowc 2 (by decide) (by omega)
      have b3 := (hV.w q).2.2.1
      have hi := insc_le hV (Nat.le_refl (P 10 1))
      have en : lnn P (i + 1) = if P 3 i = 1 then i + 1 else lnn P i := rfl
      refine Sp.neg (nI_ge q (by omega)) (Sp.pos i4 ?_)
      rw [e4]
      have go : ∀ v, v = gI (wnn P (i + 1)) → Sp (s9_plays_59 n 80 f (nI (i + 1)) (mset M 80 39 v)) (fun _ M' => M' 80 39 = gI (winA P) ∧ (∀ q, q ≠ 80 → M' q = M q) ∧ (∀ k, k ≠ 39 → M' 80 k = M 80 k)) := fun v hv =>
        (ih (i + 1) _ (by omega) (by omega) (h.scl (by omega)) (by rw [ms_eq, hv])).mono (fun r M' z => ⟨z.1, fun q' hq => (z.2.1 q' hq).trans (ms_ne hq), fun k hk => (z.2.2 k hk).trans (ms_ne2 hk)⟩)
      by_cases q3 : P 3 i = 1
      · refine Sp.pos (by rw [q3]; rfl) (Sp_cbe (r_ins h hV hn) ?_)
        by_cases q4 : insc P (P 10 1) = 1
        · refine Sp.pos (by rw [q4]; rfl) (Sp.mlet (Sp.ilet ?_))
          rw [nI_1]
          exact go _ (by unfold wnn; rw [if_pos q4, en, if_pos q3, gI_suc])
        · refine Sp.neg (fun z => q4 ((nI_is1 (by omega)).mp z)) (Sp.mlet (Sp.ilet ?_))
          rw [nI_1]
          exact go _ (by rw [h39]; unfold wnn; rw [if_neg q4, if_neg q4])
      · refine Sp.neg (fun z => q3 ((nI_is1 (by omega)).mp z)) (Sp.mlet (Sp.ilet ?_))
        rw [nI_1]
        exact go _ (by rw [h39]; unfold wnn; rw [en, if_neg q3])
    · have e : i = P 10 1 := by omega
      subst e
      exact Sp.pos (nI_le (Nat.le_refl _) (by omega)) (Sp.ret ⟨h39, fun _ _ => rfl, fun _ _ => rfl⟩)
theorem mes_le {P : PAy} (hV : VA P) : mes P ≤ 3300 := by
  have := insc_le hV (Nat.le_refl (P 10 1))
  have := hV.w12
  unfold mes
  omega
/-- the party in mind behind k tenths -/
theorem gN_inv {P : PAy} (hV : VA P) (ht : P 10 6 ≤ 299) : ∀ k, (∀ j, j < k → ¬ ovr (gN P j)) → VA (gN P k) ∧ gN P k 10 6 ≤ 299 ∧ (∀ a b, a ≠ 0 → a ≠ 1 → a ≠ 2 → a ≠ 3 → (a ≠ 10 ∨ b < 5) → gN P k a b = P a b) ∧ (¬ ovr (gN P k) → mes (gN P k) + k ≤ mes P) ∧ (0 < k → (ovr (gN P k) ↔ gN P k 10 8 = 1)) := by
  intro k
  induction k with
  | zero => intro _; exact ⟨hV, ht, fun _ _ _ _ _ _ _ => rfl, fun _ => Nat.le_refl _, fun h => by omega⟩
  | succ k ih =>
    intro hno
    obtain ⟨i1, i2, i3, i4, i5⟩ := ih (fun j hj => hno j (by omega))
    have hk := hno k (by omega)
    obtain ⟨g1, g2, g3, g4, g5⟩ := go1_step i1 i2 hk
    have i4' := i4 hk
    refine ⟨g1, g2, fun a b a0 a1 a2 a3 ab => ?_, fun hn => ?_, fun _ => g3⟩
    · rw [← i3 a b a0 a1 a2 a3 ab]
      have et : tck (gN P k) a b = gN P k a b := tck_keep (Or.inl ⟨a1, a2⟩) (ab.imp id (fun z => by omega))
      show go1 (gN P k) a b = gN P k a b
      unfold go1
      by_cases q : stb (tck (gN P k))
      · rw [cif_pos q, er_keep a0 a3 (ab.imp id (fun z => by omega)), et]
      · rw [cif_neg q, et]
    · have := g4 hn
      show mes (go1 (gN P k)) + (k + 1) ≤ mes P
      omega
theorem pK_eq {P : PAy} {k : Nat} (h : ovr (gN P k)) (hno : ∀ j, j < k → ¬ ovr (gN P j)) : pK P = k :=
  Fst_uniq (Classical.epsilon_spec (p := fun k => FstA (fun j => ovr (gN P j)) k) ⟨k, h, hno⟩) ⟨h, hno⟩
theorem cifI {c : Prop} : (cif c (1 : Int32) 0 = 0 ↔ ¬ c) := by
  by_cases q : c
  · rw [cif_pos q]; exact ⟨fun z => absurd z (by decide), fun z => absurd q z⟩
  · rw [cif_neg q]; exact ⟨fun _ => q, fun _ => rfl⟩
theorem gR_suc {P : PAy} {k : Nat} : gR P (k + 1) = gR P k + cif (stb (tck (gN P k))) 1 0 := rfl
theorem r_plays10 {P : PAy} {n : Nat} (hV : VA P) (ht : P 10 6 ≤ 299) (hn : 60 < n) : ∀ (f k : Nat) (M : Mem), 3302 ≤ k + f → (∀ j, j < k → ¬ ovr (gN P j)) → k ≤ 3301 → RP (gN P k) M → M 80 37 = nI k → M 80 38 = nI (gR P k) → Sp (s9_plays_10 n 80 f M) (fun _ M' => M' 80 37 = nI (pK P) ∧ M' 80 38 = nI (gR P (pK P)) ∧ M' 80 39 = gI (winA (gN P (pK P))) ∧ RH M M') := by
  have hme := mes_le hV
  intro f
  induction f with
  | zero =>
    intro k M h1 h2 h3 h h37 h38
    omega
  | succ f ih =>
    intro k M h1 h2 h3 h h37 h38
    obtain ⟨i1, i2, i3, i4, i5⟩ := gN_inv hV ht k h2
    rw [s9_plays_10]
    refine Sp_cbe (r_isOver h i1 hn) ?_
    by_cases q : ovr (gN P k)
    · have eK := pK_eq q h2
      refine Sp.neg (fun z => cifI.mp z q) (Sp.mlet ?_)
      refine (r_plays59 (P := gN P k) i1 hn n 0 _ (Nat.zero_le _) (by have := i1.w12; omega) (h.scl (by omega)) (by rw [ms_eq]; unfold wnn; split <;> rfl)).mono (fun r M' z => ⟨?_, ?_, ?_, ?_⟩)
      · rw [z.2.2 37 (by decide), ms_ne2 (by decide), h37, eK]
      · rw [z.2.2 38 (by decide), ms_ne2 (by decide), h38, eK]
      · rw [z.1, eK]
      · exact (RH.sc (M := M) (k := 39) (v := -9) (by omega)).tr ⟨fun q' a _ _ _ => z.2.1 q' a, fun j hj => z.2.2 j (by omega)⟩
    · have i4' := i4 q
      have hW : 1 ≤ gN P k 10 1 := by
        have h2' : ¬ insc (gN P k) (gN P k 10 1) < 2 := fun y => q (Or.inr (Or.inl y))
        have := insc_le i1 (Nat.le_refl (gN P k 10 1))
        omega
      have hm1 := (go1_step i1 i2 q).2.2.2.2
      refine Sp.pos (cifI.mpr q) (Sp.mlet ?_)
      rw [h37, nI_1]
      have hR : RP (gN P k) (mset M 80 37 (nI (k + 1))) := h.scl (by omega)
      have e38 : mset M 80 37 (nI (k + 1)) 80 38 = nI (gR P k) := by rw [ms_ne2 (by decide)]; exact h38
      refine Sp.cb (r_goesOn hR i1 i2 hW hn) (fun r M1 g => ?_)
      obtain ⟨gr, gP, gF⟩ := g
      have f1 : RH M M1 := (RH.sc (M := M) (k := 37) (v := nI (k + 1)) (by omega)).tr gF.RH
      rw [e38]
      have go : ∀ v, v = nI (gR P (k + 1)) → Sp (s9_plays_10 n 80 f (mset M1 80 38 v)) (fun _ M' => M' 80 37 = nI (pK P) ∧ M' 80 38 = nI (gR P (pK P)) ∧ M' 80 39 = gI (winA (gN P (pK P))) ∧ RH M M') := fun v hv => by
        refine (ih (k + 1) _ (by omega) (fun j hj => ?_) (by omega) (RP.scl gP (by omega)) ?_ (by rw [ms_eq, hv])).mono (fun r M' z => ⟨z.1, z.2.1, z.2.2.1, (f1.tr (RH.sc (by omega))).tr z.2.2.2⟩)
        · by_cases e : j = k
          · subst e; exact q
          · exact h2 j (by omega)
        · rw [ms_ne2 (by decide), gF.2 37 (by omega), ms_eq]
      by_cases z : stb (tck (gN P k))
      · refine Sp.neg (by rw [gr]; exact fun y => stqI_0.mp y z) (Sp.mlet ?_)
        exact go _ (by rw [gR_suc, cif_pos z]; exact nI_add _ 1)
      · refine Sp.pos (by rw [gr]; exact stqI_0.mpr z) (Sp.mlet ?_)
        exact go _ (by rw [gR_suc, cif_neg z]; exact nI_add _ 0)
theorem r_plays {P : PAy} {M : Mem} {n : Nat} (h : RP P M) (hV : VA P) (ht : P 10 6 ≤ 299) (hn : 4000 < n) : Sp (s9_plays n 80 M) (fun _ M' => M' 80 37 = nI (pK P) ∧ M' 80 38 = nI (gR P (pK P)) ∧ M' 80 39 = gI (winA (gN P (pK P))) ∧ RH M M') := by
  unfold s9_plays
  refine Sp.mlet (Sp.mlet ?_)
  refine (r_plays10 hV ht (by omega) n 0 _ (by omega) (fun j hj => by omega) (by omega) ((h.scl (by omega)).scl (by omega)) ?_ ?_).mono (fun r M' z => ⟨z.1, z.2.1, z.2.2.1, ((RH.sc (by omega)).tr (RH.sc (by omega))).tr z.2.2.2⟩)
  · rw [ms_ne2 (by decide), ms_eq]; rfl
  · rw [ms_eq]; rfl
/-- a party in mind, by a seed, a form, a player -/
def bys (P : PAy) (z f p : Nat) : PAy := pset (pset (pset P 10 5 z) 10 4 f) 10 2 p
theorem V_bys {P : PAy} {z f p : Nat} (hV : VA P) (hf : f ≤ 2) (hp : p ≤ 4) : VA (bys P z f p) := by
  have s1 := hV.s
  unfold VSa at s1
  have h1 : VA (pset P 10 5 z) := by
    refine V_sc hV (by decide) ?_
    unfold VSa
    rw [ps_j (b := 6) (by decide), ps_j (b := 2) (by decide), ps_j (b := 3) (by decide), ps_j (b := 4) (by decide), ps_j (b := 8) (by decide)]
    exact s1
  have h2 : VA (pset (pset P 10 5 z) 10 4 f) := by
    have s2 := h1.s
    unfold VSa at s2
    refine V_sc h1 (by decide) ?_
    unfold VSa
    rw [ps_eq, ps_j (b := 6) (by decide), ps_j (b := 2) (by decide), ps_j (b := 3) (by decide), ps_j (b := 8) (by decide)]
    exact ⟨s2.1, s2.2.1, hf, s2.2.2.2⟩
  have s3 := h2.s
  unfold VSa at s3
  refine V_sc h2 (by decide) ?_
  unfold VSa
  rw [ps_eq, ps_j (b := 6) (by decide), ps_j (b := 4) (by decide), ps_j (b := 3) (by decide), ps_j (b := 8) (by decide)]
  exact ⟨hp, s3.2⟩
theorem r_partyBy {P : PAy} {M : Mem} {n z f p : Nat} (h : RP P M) (hV : VA P) (ht : P 10 6 ≤ 299) (hf : f ≤ 2) (hp : p ≤ 4) (hn : 4000 < n) : Sp (s9_partyBy n 80 (nI z) (nI f) (nI p) M) (fun _ M' => RP P M' ∧ RGm M M' ∧ M' 80 37 = nI (pK (bys P z f p)) ∧ M' 80 38 = nI (gR (bys P z f p) (pK (bys P z f p))) ∧ M' 80 39 = gI (winA (gN (bys P z f p) (pK (bys P z f p))))) := by
  unfold s9_partyBy
  refine Sp.cb (r_keep1 h (by omega)) (fun r M1 h1 => Sp.mlet (Sp.mlet (Sp.mlet ?_)))
  have r1 : RP (bys P z f p) (mset (mset (mset M1 80 16 (nI z)) 80 15 (nI f)) 80 13 (nI p)) := by
    have a : RP (pset P 10 5 z) (mset M1 80 16 (nI z)) := h1.1.sone 5
    have b : RP (pset (pset P 10 5 z) 10 4 f) (mset (mset M1 80 16 (nI z)) 80 15 (nI f)) := a.sone 4
    exact b.sone 2
  have f1 : RH M1 (mset (mset (mset M1 80 16 (nI z)) 80 15 (nI f)) 80 13 (nI p)) := ((RH.sc (by omega)).tr (RH.sc (by omega))).tr (RH.sc (by omega))
  have t1 : bys P z f p 10 6 ≤ 299 := by
    unfold bys
    rw [ps_j (by decide), ps_j (by decide), ps_j (by decide)]; exact ht
  refine Sp.cb (r_plays r1 (V_bys hV hf hp) t1 hn) (fun r M2 h2 => Sp.cb (r_back1 (h1.2.1.h (f1.tr h2.2.2.2)) (by omega)) (fun r M3 h3 => Sp.ret ⟨h3.1, (h1.2.2.tr (f1.tr h2.2.2.2).RGm).tr h3.2.1, ?_, ?_, ?_⟩))
  · rw [h3.2.2.2 37 (by decide)]; exact h2.1
  · rw [h3.2.2.2 38 (by decide)]; exact h2.2.1
  · rw [h3.2.2.2 39 (by decide)]; exact h2.2.2.1
/-! what comes -/
def adc (P : PAy) (p : Nat) : PAy := pset (pset P 0 p 1) 10 8 0
theorem r_comesChair {P : PAy} {M : Mem} {p : Nat} (h : RP P M) (hp : p < 60) : Sp (s9_comesChair 80 (nI p) M) (fun _ M' => RP (adc P p) M' ∧ RF M M') := by
  have i1 : inB (nI p) (alen (link 80 1)) := vp_in_nI (N := 60) hp (by decide)
  unfold s9_comesChair
  refine Sp.pos i1 (Sp.mlet (Sp.mlet (Sp.ret ⟨?_, ?_⟩)))
  · rw [nI_clamp (by omega)]
    have a : RP (pset P 0 p 1) (mset M (link 80 1) p 1) := h.sch (v := 1)
    exact a.sone 8 (v := 0)
  · exact (RF.row (by decide) (by decide)).tr (RF.sc (by decide) (by decide))
theorem V_adc {P : PAy} {p : Nat} (hV : VA P) (hp : p < P 10 0) (hc : P 0 p = 0) (hr : rk P 60 ≤ 10) : VA (adc P p) := by
  have k : ∀ a b, a ≠ 0 → pset P 0 p 1 a b = P a b := fun a b ha => ps_i ha
  have kk : ∀ b, (b = p ∧ pset P 0 p 1 0 b = 1) ∨ pset P 0 p 1 0 b = P 0 b := fun b => by
    by_cases e : b = p
    · subst e; exact Or.inl ⟨rfl, ps_eq⟩
    · exact Or.inr (ps_j e)
  have h60 := hV.n60
  have h1 : VA (pset P 0 p 1) := by
    refine ⟨?_, ?_, ⟨?_, ?_, ?_⟩, ?_, ?_, ?_⟩
    · rw [k _ _ (by decide)]; exact hV.1
    · rw [k _ _ (by decide)]; exact hV.2.1
    · intro q
      have := hV.c1 q
      rcases kk q with e | e <;> omega
    · intro q
      rw [k 10 _ (by decide)]
      intro hq
      have := hV.c0 hq
      rcases kk q with e | e <;> omega
    · have := rk_set (P := P) (p := p) (v := 1) (by decide) 60
      rw [if_pos (by omega), if_pos (by omega)] at this
      omega
    · intro u hu
      rw [k _ _ (by decide)] at hu
      unfold VWa
      rw [k 10 _ (by decide), k 1 _ (by decide), k 2 _ (by decide), k 3 _ (by decide), k 4 _ (by decide), k 5 _ (by decide), k 6 _ (by decide), k 7 _ (by decide), k 8 _ (by decide), k 9 _ (by decide)]
      exact hV.w hu
    · intro u v
      rw [k 10 _ (by decide), k 1 _ (by decide), k 1 _ (by decide), k 3 _ (by decide), k 3 _ (by decide)]
      exact hV.i u v
    · unfold VSa
      rw [k 10 _ (by decide), k 10 _ (by decide), k 10 _ (by decide), k 10 _ (by decide), k 10 _ (by decide)]
      exact hV.s
  have s1 := h1.s
  unfold VSa at s1
  refine V_sc h1 (by decide) ?_
  unfold VSa
  rw [ps_eq, ps_j (b := 6) (by decide), ps_j (b := 2) (by decide), ps_j (b := 3) (by decide), ps_j (b := 4) (by decide)]
  exact ⟨s1.1, s1.2.1, s1.2.2.1, s1.2.2.2.1, by omega⟩
def slo (f : Nat) : Nat := if f / 2 < 1 then 1 else f / 2
def adwR (P : PAy) (p k f : Nat) : PAy := pset (pset (pset (pset (pset (pset (pset (pset (pset P 1 (P 10 1) p) 2 (P 10 1) 0) 3 (P 10 1) 1) 4 (P 10 1) k) 5 (P 10 1) f) 6 (P 10 1) (slo f)) 7 (P 10 1) 9) 8 (P 10 1) 5) 9 (P 10 1) 5
def adw (P : PAy) (p k f : Nat) : PAy := pset (pset (adwR P p k f) 10 1 (P 10 1 + 1)) 10 8 0
theorem r_comesWalker {P : PAy} {M : Mem} {n p k f : Nat} (h : RP P M) (hw : P 10 1 < 12) (hf : f < 100) : Sp (s9_comesWalker n 80 (nI p) (nI k) (nI f) M) (fun _ M' => RP (adw P p k f) M' ∧ RF M M') := by
  have hW : M 80 12 = nI (P 10 1) := h.one 1 (by decide)
  have ii : ∀ j, 2 ≤ j → j < 11 → inB (nI (P 10 1)) (alen (link 80 j)) := fun j h2 h11 => by
    have : alen (link 80 j) = 12 := by
      have : ∀ j, j < 11 → 2 ≤ j → alen (link 80 j) = 12 := by decide
      exact this j h11 h2
    rw [this]; exact vp_in_nI (N := 12) hw (by decide)
  have ec : (nI (P 10 1)).toNatClampNeg = P 10 1 := nI_clamp (by omega)
  have ed : nI f / (2 : Int32) = nI (f / 2) := pk_div (d := 2) (by omega) (by decide) (by decide)
  have e1 : ∀ (X : Mem) (q j : Nat) (v : Int32), q ≠ 80 → mset X q j v 80 12 = X 80 12 := fun X q j v hq => by rw [ms_ne (Ne.symm hq)]
  have tail : ∀ (M5 : Mem) (t : Nat), RP (pset (pset (pset (pset (pset P 1 (P 10 1) p) 2 (P 10 1) 0) 3 (P 10 1) 1) 4 (P 10 1) k) 5 (P 10 1) f) M5 → RF M M5 → M5 80 12 = nI (P 10 1) → t = slo f → Sp (s9_comesWalker_72 n 80 (nI t) (nI (P 10 1)) (link 80 7) M5) (fun _ M' => RP (adw P p k f) M' ∧ RF M M') := fun M5 t r5 f5 w5 ht => by
    unfold s9_comesWalker_72
    refine Sp.pos (ii 7 (by decide) (by decide)) (Sp.mlet ?_)
    rw [ec]
    have w6 : mset M5 (link 80 7) (P 10 1) (nI t) 80 12 = nI (P 10 1) := by rw [e1 _ _ _ _ (by decide)]; exact w5
    rw [w6]
    refine Sp.pos (ii 8 (by decide) (by decide)) (Sp.mlet ?_)
    rw [ec]
    have w7 : mset (mset M5 (link 80 7) (P 10 1) (nI t)) (link 80 8) (P 10 1) 9 80 12 = nI (P 10 1) := by rw [e1 _ _ _ _ (by decide)]; exact w6
    rw [w7]
    refine Sp.pos (ii 9 (by decide) (by decide)) (Sp.mlet ?_)
    rw [ec]
    have w8 : mset (mset (mset M5 (link 80 7) (P 10 1) (nI t)) (link 80 8) (P 10 1) 9) (link 80 9) (P 10 1) 5 80 12 = nI (P 10 1) := by rw [e1 _ _ _ _ (by decide)]; exact w7
    rw [w8]
    refine Sp.pos (ii 10 (by decide) (by decide)) (Sp.mlet ?_)
    rw [ec]
    have w9 : mset (mset (mset (mset M5 (link 80 7) (P 10 1) (nI t)) (link 80 8) (P 10 1) 9) (link 80 9) (P 10 1) 5) (link 80 10) (P 10 1) 5 80 12 = nI (P 10 1) := by rw [e1 _ _ _ _ (by decide)]; exact w8
    rw [w9, nI_1]
    refine Sp.mlet (Sp.mlet (Sp.ret ⟨?_, ?_⟩))
    · have a6 := r5.srow 5 (w := P 10 1) (v := t) (by decide)
      have a7 := a6.srow 6 (w := P 10 1) (v := 9) (by decide)
      have a8 := a7.srow 7 (w := P 10 1) (v := 5) (by decide)
      have a9 := a8.srow 8 (w := P 10 1) (v := 5) (by decide)
      have a10 := a9.sone 1 (v := P 10 1 + 1)
      have a11 := a10.sone 8 (v := 0)
      rw [ht] at a11 ⊢
      exact a11
    · exact (((((f5.tr (RF.row (by decide) (by decide))).tr (RF.row (by decide) (by decide))).tr (RF.row (by decide) (by decide))).tr (RF.row (by decide) (by decide))).tr (RF.sc (by decide) (by decide))).tr (RF.sc (by decide) (by decide))
  unfold s9_comesWalker
  rw [hW]
  refine Sp.pos (ii 2 (by decide) (by decide)) (Sp.mlet ?_)
  rw [ec]
  have w1 : mset M (link 80 2) (P 10 1) (nI p) 80 12 = nI (P 10 1) := by rw [e1 _ _ _ _ (by decide)]; exact hW
  rw [w1]
  refine Sp.pos (ii 3 (by decide) (by decide)) (Sp.mlet ?_)
  rw [ec]
  have w2 : mset (mset M (link 80 2) (P 10 1) (nI p)) (link 80 3) (P 10 1) 0 80 12 = nI (P 10 1) := by rw [e1 _ _ _ _ (by decide)]; exact w1
  rw [w2]
  refine Sp.pos (ii 4 (by decide) (by decide)) (Sp.mlet ?_)
  rw [ec]
  have w3 : mset (mset (mset M (link 80 2) (P 10 1) (nI p)) (link 80 3) (P 10 1) 0) (link 80 4) (P 10 1) 1 80 12 = nI (P 10 1) := by rw [e1 _ _ _ _ (by decide)]; exact w2
  rw [w3]
  refine Sp.pos (ii 5 (by decide) (by decide)) (Sp.mlet ?_)
  rw [ec]
  have w4 : mset (mset (mset (mset M (link 80 2) (P 10 1) (nI p)) (link 80 3) (P 10 1) 0) (link 80 4) (P 10 1) 1) (link 80 5) (P 10 1) (nI k) 80 12 = nI (P 10 1) := by rw [e1 _ _ _ _ (by decide)]; exact w3
  rw [w4]
  refine Sp.pos (ii 6 (by decide) (by decide)) (Sp.mlet ?_)
  rw [ec]
  have w5 : mset (mset (mset (mset (mset M (link 80 2) (P 10 1) (nI p)) (link 80 3) (P 10 1) 0) (link 80 4) (P 10 1) 1) (link 80 5) (P 10 1) (nI k)) (link 80 6) (P 10 1) (nI f) 80 12 = nI (P 10 1) := by rw [e1 _ _ _ _ (by decide)]; exact w4
  rw [w5, ed]
  have b1 := h.srow 0 (w := P 10 1) (v := p) (by decide)
  have b2 := b1.srow 1 (w := P 10 1) (v := 0) (by decide)
  have b3 := b2.srow 2 (w := P 10 1) (v := 1) (by decide)
  have b4 := b3.srow 3 (w := P 10 1) (v := k) (by decide)
  have b5 := b4.srow 4 (w := P 10 1) (v := f) (by decide)
  have fr5 : RF M (mset (mset (mset (mset (mset M (link 80 2) (P 10 1) (nI p)) (link 80 3) (P 10 1) 0) (link 80 4) (P 10 1) 1) (link 80 5) (P 10 1) (nI k)) (link 80 6) (P 10 1) (nI f)) := ((((RF.row (by decide) (by decide)).tr (RF.row (by decide) (by decide))).tr (RF.row (by decide) (by decide))).tr (RF.row (by decide) (by decide))).tr (RF.row (by decide) (by decide))
  by_cases q : 1 ≤ f / 2
  · refine Sp.pos (nI_le (a := 1) q (by omega)) ?_
    exact tail _ _ b5 fr5 w5 (by unfold slo; rw [if_neg (by omega)])
  · refine Sp.neg (nI_ge (b := 1) (by omega) (by decide)) ?_
    exact tail _ 1 b5 fr5 w5 (by unfold slo; rw [if_pos (by omega)])
theorem adw_old {P : PAy} {p k f a b : Nat} (ha : a ≠ 10) (hb : b ≠ P 10 1) : adw P p k f a b = P a b := by
  unfold adw adwR
  rw [ps_i ha, ps_i ha, ps_j hb, ps_j hb, ps_j hb, ps_j hb, ps_j hb, ps_j hb, ps_j hb, ps_j hb, ps_j hb]
theorem adw_0 {P : PAy} {p k f b : Nat} : adw P p k f 0 b = P 0 b := by
  unfold adw adwR
  simp [pset]
theorem adw_sc {P : PAy} {p k f b : Nat} (h1 : b ≠ 1) (h8 : b ≠ 8) : adw P p k f 10 b = P 10 b := by
  unfold adw adwR
  simp [pset, h1, h8]
theorem adw_s1 {P : PAy} {p k f : Nat} : adw P p k f 10 1 = P 10 1 + 1 ∧ adw P p k f 10 8 = 0 := by
  unfold adw adwR
  simp [pset]
theorem adw_new {P : PAy} {p k f : Nat} : adw P p k f 1 (P 10 1) = p ∧ adw P p k f 2 (P 10 1) = 0 ∧ adw P p k f 3 (P 10 1) = 1 ∧ adw P p k f 4 (P 10 1) = k ∧ adw P p k f 5 (P 10 1) = f ∧ adw P p k f 6 (P 10 1) = slo f ∧ adw P p k f 7 (P 10 1) = 9 ∧ adw P p k f 8 (P 10 1) = 5 ∧ adw P p k f 9 (P 10 1) = 5 := by
  unfold adw adwR
  simp [pset]
theorem V_adw {P : PAy} {p k f : Nat} (hV : VA P) (hp : p < P 10 0) (hk : k ≤ 6) (hf : 1 ≤ f) (hf2 : f ≤ 99) (hw : P 10 1 < 12) (ht : tk P p ≠ 1) : VA (adw P p k f) := by
  have e1 := (adw_s1 (P := P) (p := p) (k := k) (f := f)).1
  have e8 := (adw_s1 (P := P) (p := p) (k := k) (f := f)).2
  obtain ⟨n1, n2, n3, n4, n5, n6, n7, n8, n9⟩ := adw_new (P := P) (p := p) (k := k) (f := f)
  have hsl : 1 ≤ slo f ∧ slo f ≤ 99 := by unfold slo; split <;> omega
  have e0 : adw P p k f 10 0 = P 10 0 := adw_sc (by decide) (by decide)
  have h0 : ∀ v, v < P 10 1 → P 3 v = 1 → P 1 v ≠ p := fun v a b c => ht ((tkn_1 _).mpr ⟨v, a, b, c⟩)
  refine ⟨?_, ?_, ⟨?_, ?_, ?_⟩, ?_, ?_, ?_⟩
  · rw [e0]; exact hV.1
  · rw [e1]; omega
  · intro q; rw [adw_0]; exact hV.c1 q
  · intro q; rw [adw_0, e0]; exact fun z => hV.c0 z
  · rw [rk_ext (fun q _ => adw_0)]; exact hV.c11
  · intro u hu
    rw [e1] at hu
    by_cases e : u = P 10 1
    · subst e
      unfold VWa
      rw [e0, n1, n2, n3, n4, n5, n6, n7, n8, n9]
      exact ⟨hp, by omega, by omega, hk, ⟨hf, hf2⟩, hsl, by omega, by omega, by omega⟩
    · unfold VWa
      rw [e0, adw_old (by decide) e, adw_old (by decide) e, adw_old (by decide) e, adw_old (by decide) e, adw_old (by decide) e, adw_old (by decide) e, adw_old (by decide) e, adw_old (by decide) e, adw_old (by decide) e]
      exact hV.w (by omega)
  · intro u v hu hv
    rw [e1] at hu hv
    by_cases e : u = P 10 1
    · by_cases g : v = P 10 1
      · intro _ _ _; omega
      · subst e
        rw [n3, n1, adw_old (by decide) g, adw_old (by decide) g]
        intro _ i2 i3
        exact absurd i3.symm (h0 v (by omega) i2)
    · by_cases g : v = P 10 1
      · subst g
        rw [n3, n1, adw_old (by decide) e, adw_old (by decide) e]
        intro i1 _ i3
        exact absurd i3 (h0 u (by omega) i1)
      · rw [adw_old (by decide) e, adw_old (by decide) e, adw_old (by decide) g, adw_old (by decide) g]
        exact hV.i u v (by omega) (by omega)
  · have s1 := hV.s
    unfold VSa at s1 ⊢
    rw [e8, adw_sc (by decide) (by decide), adw_sc (by decide) (by decide), adw_sc (by decide) (by decide), adw_sc (by decide) (by decide)]
    exact ⟨s1.1, s1.2.1, s1.2.2.1, s1.2.2.2.1, by omega⟩
