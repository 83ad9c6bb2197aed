/-! ===== the reference: what is thought ===== -/
/-- nothing but the party, the seats and what a thought counts differs -/
def RH (M M' : Mem) : Prop := (∀ q, q ≠ 80 → q ≠ 99 → q ≠ 100 → (q < 82 ∨ 92 ≤ q) → M' q = M q) ∧ ∀ k, (k < 11 ∨ (20 ≤ k ∧ k < 35) ∨ 40 ≤ k) → M' 80 k = M 80 k
theorem RH.rf {M : Mem} : RH M M := ⟨fun _ _ _ _ _ => rfl, fun _ _ => rfl⟩
theorem RH.tr {M M' M'' : Mem} (h : RH M M') (h' : RH M' M'') : RH M M'' := ⟨fun q a b c d => (h'.1 q a b c d).trans (h.1 q a b c d), fun k a => (h'.2 k a).trans (h.2 k a)⟩
theorem RF.RH {M M' : Mem} (h : RF M M') : RH M M' := ⟨fun q a b _ d => h.1 q a b d, fun k a => h.2 k (by omega)⟩
theorem R99.RH {M M' : Mem} (h : R99 M M') : RH M M' := h.RF.RH
theorem RH.o100 {M : Mem} {k : Nat} {v : Int32} : RH M (mset M 100 k v) := ⟨fun q _ _ c _ => ms_ne c, fun j _ => by rw [ms_ne (by decide)]⟩
theorem RH.sc {M : Mem} {k : Nat} {v : Int32} (h : (11 ≤ k ∧ k < 20) ∨ (35 ≤ k ∧ k < 40)) : RH M (mset M 80 k v) := ⟨fun q a _ _ _ => ms_ne a, fun j a => ms_ne2 (by omega)⟩
/-- and the row that is kept for a thought -/
def RGm (M M' : Mem) : Prop := (∀ q, q ≠ 80 → q ≠ 98 → q ≠ 99 → q ≠ 100 → (q < 82 ∨ 92 ≤ q) → M' q = M q) ∧ (∀ k, (k < 11 ∨ (20 ≤ k ∧ k < 31) ∨ k = 33 ∨ k = 34 ∨ 40 ≤ k) → M' 80 k = M 80 k) ∧ ∀ j, j < 200 → M' 98 j = M 98 j
theorem RGm.tr {M M' M'' : Mem} (h : RGm M M') (h' : RGm M' M'') : RGm M M'' := ⟨fun q a b c d e => (h'.1 q a b c d e).trans (h.1 q a b c d e), fun k a => (h'.2.1 k a).trans (h.2.1 k a), fun j a => (h'.2.2 j a).trans (h.2.2 j a)⟩
theorem RH.RGm {M M' : Mem} (h : RH M M') : RGm M M' := ⟨fun q a _ c d e => h.1 q a c d e, fun k a => h.2 k (by omega), fun j _ => by rw [h.1 98 (by decide) (by decide) (by decide) (by decide)]⟩
def KP (b : Nat) (P : PAy) (M : Mem) : Prop := ∀ j, j < 177 → M 98 (b + j) = nI (pcA P j)
theorem KP.h {b : Nat} {P : PAy} {M M' : Mem} (h : KP b P M) (g : RH M M') : KP b P M' := fun j hj => by
  rw [g.1 98 (by decide) (by decide) (by decide) (by decide)]; exact h j hj
theorem RP.oh {P : PAy} {M M' : Mem} (h : RP P M) (h1 : ∀ s, 11 ≤ s → s < 20 → M' 80 s = M 80 s) (h2 : ∀ q, 82 ≤ q → q < 92 → M' q = M q) : RP P M' :=
  h.frA (fun s hs => h1 (11 + s) (by omega) (by omega)) h2
theorem r_keep1 {P : PAy} {M : Mem} {n : Nat} (h : RP P M) (hn : 60 < n) : Sp (s9_passesAll n 80 1 1 M) (fun _ M' => RP P M' ∧ KP 200 P M' ∧ RGm M M') := by
  refine (keepAll hn (x := 1) (b := 200) (by decide) (by decide) M).mono (fun r M' k => ?_)
  obtain ⟨k1, k2, k3, k4, k5, k6⟩ := k
  refine ⟨h.oh (fun s a b => k3 s (by omega) (by omega)) (fun q a b => k4 q (by omega) (by omega)), fun j hj => ?_, fun q a b _ _ _ => k4 q a b, fun s a => k3 s (by omega) (by omega), fun j a => k5 j (Or.inl a)⟩
  rw [k6 j hj]; exact h j hj
theorem r_back1 {P : PAy} {M : Mem} {n : Nat} (h : KP 200 P M) (hn : 60 < n) : Sp (s9_passesAll n 80 1 0 M) (fun _ M' => RP P M' ∧ RGm M M' ∧ M' 100 = M 100 ∧ (∀ k, 35 ≤ k → M' 80 k = M 80 k)) := by
  refine (backAll hn (x := 1) (b := 200) (by decide) (by decide) M).mono (fun r M' k => ?_)
  obtain ⟨k1, k2, k3, k4, k5⟩ := k
  refine ⟨fun j hj => ?_, ⟨fun q a _ _ _ e => k4 q a e, fun s a => k3 s (by omega) (by omega) (by omega), fun j _ => by rw [k4 98 (by decide) (by decide)]⟩, k4 100 (by decide) (by decide), fun s a => k3 s (by omega) (by omega) (by omega)⟩
  rw [k5 j hj]; exact h j hj
/-! how often -/
def wI (P : PAy) : Nat → PAy
  | 0 => P
  | k + 1 => wkA (wI P k)
theorem wI_keep {P : PAy} {a b : Nat} (h : a ≠ 1 ∧ a ≠ 2) : ∀ k, wI P k a b = P a b := by
  intro k
  induction k with
  | zero => rfl
  | succ k ih =>
    show wkA (wI P k) a b = P a b
    rw [wk_keep (Or.inl h), ih]
theorem V_wI {P : PAy} (h : VA P) : ∀ k, VA (wI P k) := by
  intro k
  induction k with
  | zero => exact h
  | succ k ih => exact V_wk ih
noncomputable def cnA (P : PAy) (w : Nat) : Nat → Nat
  | 0 => 0
  | k + 1 => cnA P w k + (if sit (wI P (k + 1)) w = 0 then 0 else 1)
noncomputable def tgA (P : PAy) (a b : Nat) : Nat → Nat
  | 0 => 0
  | k + 1 => tgA P a b k + (if sit (wI P (k + 1)) a = 0 ∧ sit (wI P (k + 1)) b = 0 then 0 else 1)
noncomputable def hlA (P : PAy) (a b : Nat) : Nat → Nat
  | 0 => 0
  | k + 1 => hlA P a b k + (if sit (wI P (k + 1)) b ≠ 0 ∨ (sit (wI P (k + 1)) a ≠ 0 ∧ frA (P 10 0) (wI P (k + 1) 1 b) (sit (wI P (k + 1)) a - 1) ≤ P 7 b) then 1 else 0)
/-- only the counts differ -/
def R100 (M M' : Mem) : Prop := ∀ q, q ≠ 100 → M' q = M q
theorem r_odds60 {P Q : PAy} {S : Nat → Nat} {n m k : Nat} {x2 x3 : Int32} {K : Int32 → Mem → Option Res} {R : Int32 → Mem → Prop} (c c' : Nat → Nat) (h12 : P 10 1 ≤ 12) (h6 : S60 S) (hc : ∀ w, c' w = c w + (if S w = 0 then 0 else 1)) : ∀ (f i : Nat) (M : Mem), i ≤ P 10 1 → P 10 1 < i + f → M 80 12 = nI (P 10 1) → RS P S M → (∀ w, w < i → M 100 w = nI (c' w)) → (∀ w, i ≤ w → w < P 10 1 → M 100 w = nI (c w)) → (∀ M', R100 M M' → (∀ w, w < P 10 1 → M' 100 w = nI (c' w)) → Sp (s9_findOdds_60 n K 80 (nI m) x2 x3 (nI k) 1 (nI (P 10 1)) M') R) → Sp (s9_findOdds_60 n K 80 (nI m) x2 x3 (nI k) f (nI i) M) R := by
  intro f
  induction f with
  | zero => intro i M h1 h2; omega
  | succ f ih =>
    intro i M h1 h2 hW hs hlo hhi hk
    by_cases q : i < P 10 1
    · have i34 : inB (nI i) (alen (link 80 34)) := vp_in_nI (N := 12) (by omega) (by decide)
      have i33 : inB (nI i) (alen (link 80 33)) := vp_in_nI (N := 12) (by omega) (by decide)
      have e33 : M (link 80 33) (nI i).toNatClampNeg = sI (S i) := by rw [nI_clamp (by omega)]; exact hs i q
      have e34 : M (link 80 34) (nI i).toNatClampNeg = nI (c i) := by rw [nI_clamp (by omega)]; exact hhi i (Nat.le_refl _) q
      have goon : ∀ v, v = nI (c' i) → Sp (s9_findOdds_60 n K 80 (nI m) x2 x3 (nI k) f (nI (i + 1)) (mset M (link 80 34) (nI i).toNatClampNeg v)) R := fun v hv => by
        rw [nI_clamp (by omega), hv]
        refine ih (i + 1) _ (by omega) (by omega) ?_ (fun w hw => ?_) (fun w hw => ?_) (fun w a b => ?_) (fun M' a b => hk M' (fun q' hq => (a q' hq).trans (ms_ne hq)) b)
        · rw [ms_ne (by decide)]; exact hW
        · rw [ms_ne (by decide)]; exact hs w hw
        · show mset M 100 i (nI (c' i)) 100 w = nI (c' w)
          by_cases e : w = i
          · subst e; exact ms_eq
          · rw [ms_ne2 e]; exact hlo w (by omega)
        · show mset M 100 i (nI (c' i)) 100 w = nI (c w)
          rw [ms_ne2 (by omega)]; exact hhi w (by omega) b
      rw [s9_findOdds_60, hW]
      refine Sp.neg (nI_ge q (by omega)) (Sp.pos i34 (Sp.pos i33 ?_))
      rw [e33, e34]
      by_cases q4 : S i = 0
      · refine Sp.pos ((sI_neg (h6 i)).mpr q4) (Sp.pos i34 (Sp.mlet (Sp.ilet ?_)))
        rw [nI_1]
        refine goon _ ?_
        rw [hc, if_pos q4]; exact nI_add (c i) 0
      · refine Sp.neg (fun z => q4 ((sI_neg (h6 i)).mp z)) (Sp.pos i34 (Sp.mlet (Sp.ilet ?_)))
        rw [nI_1]
        refine goon _ ?_
        rw [hc, if_neg q4]; exact nI_add (c i) 1
    · have e : i = P 10 1 := by omega
      subst e
      have := hk M (fun _ _ => rfl) (fun w hw => hlo w hw)
      rw [s9_findOdds_60, hW] at this ⊢
      rw [if_pos (nI_le (Nat.le_refl _) (by omega))] at this ⊢
      exact this
theorem r_odds135 {Q : PAy} {S : Nat → Nat} {M : Mem} {n m a b k t u e : Nat} {K : Int32 → Mem → Option Res} {R : Int32 → Mem → Prop} (h : RP Q M) (hV : VA Q) (hn : 60 < n) (hs : RS Q S M) (ha : a < Q 10 1) (hb : b < Q 10 1) (hS : SV Q S) (h36 : M 80 36 = nI e) (hk : ∀ M', M' 80 35 = nI (u + t) → M' 80 36 = nI (e + (if S b ≠ 0 ∨ (S a ≠ 0 ∧ frA (Q 10 0) (Q 1 b) (S a - 1) ≤ Q 7 b) then 1 else 0)) → (∀ q, q ≠ 80 → M' q = M q) → (∀ j, j ≠ 35 → j ≠ 36 → M' 80 j = M 80 j) → Sp (K (nI (k + 1)) M') R) : Sp (s9_findOdds_135 n K 80 (nI m) (nI a) (nI b) (nI k) (nI t) (nI u) 80 M) R := by
  have h12 := hV.w12
  have h6 := hS.s60 hV
  have ia : inB (nI a) (alen (link 80 33)) := vp_in_nI (N := 12) (by omega) (by decide)
  have ib : inB (nI b) (alen (link 80 33)) := vp_in_nI (N := 12) (by omega) (by decide)
  unfold s9_findOdds_135
  refine Sp.mlet (Sp.pos ib ?_)
  rw [nI_add]
  have ea : mset M 80 35 (nI (u + t)) (link 80 33) (nI a).toNatClampNeg = sI (S a) := by rw [ms_ne (by decide), nI_clamp (by omega)]; exact hs a ha
  have eb : mset M 80 35 (nI (u + t)) (link 80 33) (nI b).toNatClampNeg = sI (S b) := by rw [ms_ne (by decide), nI_clamp (by omega)]; exact hs b hb
  have e36 : mset M 80 35 (nI (u + t)) 80 36 = nI e := by rw [ms_ne2 (by decide)]; exact h36
  have fin : ∀ v x, v = nI (e + x) → x = (if S b ≠ 0 ∨ (S a ≠ 0 ∧ frA (Q 10 0) (Q 1 b) (S a - 1) ≤ Q 7 b) then 1 else 0) → Sp (K (nI (k + 1)) (mset (mset M 80 35 (nI (u + t))) 80 36 v)) R := fun v x hv hx => by
    refine hk _ ?_ ?_ (fun q hq => ?_) (fun j h1 h2 => ?_)
    · rw [ms_ne2 (by decide), ms_eq]
    · rw [ms_eq, hv, hx]
    · rw [ms_ne hq, ms_ne hq]
    · rw [ms_ne2 h2, ms_ne2 h1]
  rw [ea, eb, e36]
  by_cases z : S b = 0
  · refine Sp.neg (fun y => (sI_nn (h6 b)).mp y z) (Sp.pos ia ?_)
    by_cases z2 : S a = 0
    · refine Sp.pos ((sI_neg (h6 a)).mpr z2) (Sp.mlet (Sp.ilet ?_))
      rw [nI_1]
      exact fin _ 0 (nI_add e 0) (by rw [if_neg (fun y => by omega)])
    · refine Sp.neg (fun y => z2 ((sI_neg (h6 a)).mp y)) (Sp.pos ia ?_)
      have hpN := hV.cN (hS a z2).2.2
      have es : sI (S a) = nI (S a - 1) := if_neg z2
      rw [es]
      have hR1 : RP Q (mset M 80 35 (nI (u + t))) := h.scl (by omega)
      refine Sp_cbe (r_mayReach hR1 hV hb hpN) ?_
      by_cases z3 : frA (Q 10 0) (Q 1 b) (S a - 1) ≤ Q 7 b
      · rw [if_pos z3]
        refine Sp.neg (by decide) ?_
        unfold s9_findOdds_176
        refine Sp.mlet (Sp.ilet ?_)
        rw [nI_1]
        exact fin _ 1 (nI_add e 1) (by rw [if_pos (Or.inr ⟨z2, z3⟩)])
      · rw [if_neg z3]
        refine Sp.pos rfl (Sp.mlet (Sp.ilet ?_))
        rw [nI_1]
        exact fin _ 0 (nI_add e 0) (by rw [if_neg (fun y => y.elim (fun w => w z) (fun w => z3 w.2))])
  · refine Sp.pos ((sI_nn (h6 b)).mpr z) ?_
    unfold s9_findOdds_176
    refine Sp.mlet (Sp.ilet ?_)
    rw [nI_1]
    exact fin _ 1 (nI_add e 1) (by rw [if_pos (Or.inl z)])
/-- the three counts -/
def Odd (P : PAy) (x2 : Int32) (a b k : Nat) (M : Mem) : Prop := (∀ w, w < P 10 1 → M 100 w = nI (cnA P w k)) ∧ (0 ≤ x2 → M 80 35 = nI (tgA P a b k) ∧ M 80 36 = nI (hlA P a b k))
theorem r_odds43 {P : PAy} {n m a b : Nat} {x2 x3 : Int32} (hV : VA P) (hn : 200 < n) (hm : m ≤ 200) (hx : x2 = -1 ∨ (x2 = nI a ∧ x3 = nI b ∧ a < P 10 1 ∧ b < P 10 1)) : ∀ (f k : Nat) (M : Mem), k ≤ m → m < k + f → RP (wI P k) M → KP 200 P M → Odd P x2 a b k M → Sp (s9_findOdds_43 n 80 (nI m) x2 x3 f (nI k) M) (fun _ M' => RP P M' ∧ RGm M M' ∧ Odd P x2 a b m M') := by
  have h12 := hV.w12
  have h60 := hV.n60
  intro f
  induction f with
  | zero => intro k M h1 h2; omega
  | succ f ih =>
    intro k M h1 h2 h hK hO
    rw [s9_findOdds_43]
    by_cases q : k < m
    · refine Sp.neg (nI_ge q (by omega)) ?_
      have hVk := V_wI hV k
      have hVk1 := V_wI hV (k + 1)
      have e1 : wI P (k + 1) 10 1 = P 10 1 := wI_keep ⟨by decide, by decide⟩ _
      have e0 : wI P (k + 1) 10 0 = P 10 0 := wI_keep ⟨by decide, by decide⟩ _
      refine Sp.cb (r_walks h hVk (by omega)) (fun r M1 h3 => Sp.cb (r_sit h3.1 hVk1 (by omega)) (fun r M2 h4 => ?_))
      have hR2 : RP (wI P (k + 1)) M2 := h4.2.rp h3.1
      have f2 : RH M M2 := h3.2.RH.tr h4.2.RH
      have hs : RS P (sit (wI P (k + 1))) M2 := fun w hw => h4.1 w (show w < wI P (k + 1) 10 1 by rw [e1]; exact hw)
      have h6 := (SV_sit hVk1).s60 hVk1
      have hW : M2 80 12 = nI (P 10 1) := by rw [← e1]; exact hR2.one 1 (by decide)
      have e100 : M2 100 = M 100 := by rw [h4.2 100 (by decide), h3.2.1 100 (by decide) (by decide) (by decide)]
      have e35 : ∀ j, 35 ≤ j → M2 80 j = M 80 j := fun j hj => by rw [h4.2 80 (by decide), h3.2.2 j (by omega)]
      refine r_odds60 (Q := P) (fun w => cnA P w k) (fun w => cnA P w (k + 1)) h12 h6 (fun w => rfl) n 0 M2 (Nat.zero_le _) (by omega) hW hs (fun w hw => by omega) (fun w _ hw => by rw [e100]; exact hO.1 w hw) (fun M3 g3 o3 => ?_)
      have hR3 : RP (wI P (k + 1)) M3 := hR2.oh (fun s _ _ => by rw [g3 80 (by decide)]) (fun q' c d => g3 q' (by omega))
      have f3 : RH M M3 := f2.tr ⟨fun q' _ _ c _ => g3 q' c, fun j _ => by rw [g3 80 (by decide)]⟩
      have hs3 : RS P (sit (wI P (k + 1))) M3 := fun w hw => by rw [g3 99 (by decide)]; exact hs w hw
      have g35 : ∀ j, 35 ≤ j → M3 80 j = M 80 j := fun j hj => by rw [g3 80 (by decide), e35 j hj]
      have hW3 : M3 80 12 = nI (P 10 1) := by rw [g3 80 (by decide)]; exact hW
      rw [s9_findOdds_60, hW3]
      refine Sp.pos (nI_le (Nat.le_refl _) (by omega)) ?_
      rcases hx with hx | ⟨hx, hx3, ha, hb⟩
      · subst hx
        refine Sp.neg (by decide) (Sp.ilet ?_)
        rw [nI_1]
        refine (ih (k + 1) M3 (by omega) (by omega) hR3 (hK.h f3) ⟨o3, fun z => ?_⟩).mono (fun r M4 h5 => ⟨h5.1, f3.RGm.tr h5.2.1, h5.2.2⟩)
        exact absurd z (by decide)
      · subst hx; subst hx3
        have hO2 := hO.2 (nI_pos' (by omega))
        have ia : inB (nI a) (alen (link 80 33)) := vp_in_nI (N := 12) (by omega) (by decide)
        have ib : inB (nI b) (alen (link 80 33)) := vp_in_nI (N := 12) (by omega) (by decide)
        have ea : M3 (link 80 33) (nI a).toNatClampNeg = sI (sit (wI P (k + 1)) a) := by rw [nI_clamp (by omega)]; exact hs3 a ha
        have eb : M3 (link 80 33) (nI b).toNatClampNeg = sI (sit (wI P (k + 1)) b) := by rw [nI_clamp (by omega)]; exact hs3 b hb
        have g35' : M3 80 35 = nI (tgA P a b k) := by rw [g35 35 (by decide)]; exact hO2.1
        have g36' : M3 80 36 = nI (hlA P a b k) := by rw [g35 36 (by decide)]; exact hO2.2
        have fin : ∀ t, tgA P a b (k + 1) = tgA P a b k + t → Sp (s9_findOdds_135 n (s9_findOdds_43 n 80 (nI m) (nI a) (nI b) f) 80 (nI m) (nI a) (nI b) (nI k) (nI t) (nI (tgA P a b k)) 80 M3) (fun _ M' => RP P M' ∧ RGm M M' ∧ Odd P (nI a) a b m M') := fun t ht => by
          refine r_odds135 hR3 hVk1 (by omega) (fun w hw => hs3 w (by rw [← e1]; exact hw)) (by rw [e1]; exact ha) (by rw [e1]; exact hb) (SV_sit hVk1) g36' (fun M4 i1 i2 i3 i4 => ?_)
          have f4 : RH M3 M4 := ⟨fun q' c1 _ _ _ => i3 q' c1, fun j hj => i4 j (by omega) (by omega)⟩
          have hR4 : RP (wI P (k + 1)) M4 := hR3.oh (fun s c1 c2 => i4 s (by omega) (by omega)) (fun q' c1 c2 => i3 q' (by omega))
          refine (ih (k + 1) M4 (by omega) (by omega) hR4 (hK.h (f3.tr f4)) ⟨fun w hw => by rw [i3 100 (by decide)]; exact o3 w hw, fun _ => ⟨by rw [i1, ht], ?_⟩⟩).mono (fun r M5 h5 => ⟨h5.1, (f3.tr f4).RGm.tr h5.2.1, h5.2.2⟩)
          rw [i2, e0, wI_keep (a := 7) ⟨by decide, by decide⟩]
          rfl
        refine Sp.pos (nI_pos' (by omega)) (Sp.pos ia ?_)
        rw [ea, g35']
        have et : tgA P a b (k + 1) = tgA P a b k + (if sit (wI P (k + 1)) a = 0 ∧ sit (wI P (k + 1)) b = 0 then 0 else 1) := rfl
        by_cases z : sit (wI P (k + 1)) a = 0
        · refine Sp.neg (fun y => (sI_nn (h6 a)).mp y z) (Sp.pos ib ?_)
          rw [eb]
          by_cases z2 : sit (wI P (k + 1)) b = 0
          · refine Sp.pos ((sI_neg (h6 b)).mpr z2) ?_
            exact fin 0 (by rw [et, if_pos ⟨z, z2⟩])
          · refine Sp.neg (fun y => z2 ((sI_neg (h6 b)).mp y)) ?_
            unfold s9_findOdds_130
            exact fin 1 (by rw [et, if_neg (fun y => z2 y.2)])
        · refine Sp.pos ((sI_nn (h6 a)).mpr z) ?_
          unfold s9_findOdds_130
          exact fin 1 (by rw [et, if_neg (fun y => z y.1)])
    · have e : k = m := by omega
      subst e
      refine Sp.pos (nI_le (Nat.le_refl _) (by omega)) (Sp.cb (r_back1 hK (by omega)) (fun r M1 h3 => Sp.ret ⟨h3.1, h3.2.1, fun w hw => by rw [h3.2.2.1]; exact hO.1 w hw, fun z => ?_⟩))
      rw [h3.2.2.2 35 (by decide), h3.2.2.2 36 (by decide)]
      exact hO.2 z
theorem r_odds9 {P : PAy} {n m : Nat} {x2 x3 : Int32} {R : Int32 → Mem → Prop} : ∀ (f i : Nat) (M : Mem), i ≤ 12 → 12 < i + f → (∀ w, w < i → M 100 w = 0) → (∀ M', RH M M' → (∀ q, q ≠ 100 → q ≠ 80 → M' q = M q) → (∀ s, s < 35 → M' 80 s = M 80 s) → (∀ w, w < 12 → M' 100 w = 0) → M' 80 35 = 0 → M' 80 36 = 0 → Sp (s9_findOdds_43 n 80 (nI m) x2 x3 n 0 M') R) → Sp (s9_findOdds_9 n 80 (nI m) x2 x3 f (nI i) M) R := by
  intro f
  induction f with
  | zero => intro i M h1 h2; omega
  | succ f ih =>
    intro i M h1 h2 h3 hk
    rw [s9_findOdds_9]
    by_cases q : i < 12
    · have i34 : inB (nI i) (alen (link 80 34)) := vp_in_nI (N := 12) q (by decide)
      refine Sp.neg (nI_ge (b := 12) q (by decide)) (Sp.pos i34 (Sp.mlet (Sp.ilet ?_)))
      rw [nI_1, nI_clamp (by omega)]
      refine ih (i + 1) _ (by omega) (by omega) (fun w hw => ?_) (fun M' a a2 a3 b c d => hk M' (RH.o100.tr a) (fun q' h1 h2 => (a2 q' h1 h2).trans (ms_ne h1)) (fun s hs => (a3 s hs).trans (by rw [ms_ne (by decide)])) b c d)
      show mset M 100 i 0 100 w = 0
      by_cases e : w = i
      · subst e; exact ms_eq
      · rw [ms_ne2 e]; exact h3 w (by omega)
    · have e : i = 12 := by omega
      subst e
      refine Sp.pos (by decide) (Sp.mlet (Sp.mlet ?_))
      refine hk _ ((RH.sc (by omega)).tr (RH.sc (by omega))) (fun q' h1 h2 => by rw [ms_ne h2, ms_ne h2]) (fun s hs => by rw [ms_ne2 (by omega), ms_ne2 (by omega)]) (fun w hw => by rw [ms_ne (by decide), ms_ne (by decide)]; exact h3 w hw) ?_ ?_
      · rw [ms_ne2 (by decide), ms_eq]
      · rw [ms_eq]
theorem r_findOdds {P : PAy} {M : Mem} {n m a b : Nat} {x2 x3 : Int32} (h : RP P M) (hV : VA P) (hn : 200 < n) (hm : m ≤ 200) (hx : x2 = -1 ∨ (x2 = nI a ∧ x3 = nI b ∧ a < P 10 1 ∧ b < P 10 1)) : Sp (s9_findOdds n 80 (nI m) x2 x3 M) (fun _ M' => RP P M' ∧ RGm M M' ∧ Odd P x2 a b m M') := by
  have h12 := hV.w12
  unfold s9_findOdds
  refine Sp.cb (r_keep1 h (by omega)) (fun r M1 h1 => ?_)
  refine r_odds9 (P := P) n 0 M1 (by decide) (by omega) (fun w hw => by omega) (fun M2 f2 g2 s2 z2 z35 z36 => ?_)
  have hR2 : RP P M2 := h1.1.oh (fun s _ hs => s2 s (by omega)) (fun q c d => g2 q (by omega) (by omega))
  exact (r_odds43 hV hn hm hx n 0 M2 (Nat.zero_le _) (by omega) hR2 (h1.2.1.h f2) ⟨fun w hw => z2 w (by omega), fun _ => ⟨z35, z36⟩⟩).mono (fun r M3 h3 => ⟨h3.1, (h1.2.2.tr f2.RGm).tr h3.2.1, h3.2.2⟩)
