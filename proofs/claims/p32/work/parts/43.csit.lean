/-! ===== the program: sitting ===== -/
def hI (P : PAy) (w p : Nat) : Int32 := if P 3 w = 1 ∧ frA (P 10 0) (P 1 w) p ≤ P 7 w then nI (hst P w p) else 2147483647
def Hs7 (o : Nat) (P : PAy) (M : Mem) : Prop := ∀ w, w < P 10 1 → ∀ p, P 0 p = 1 → M (o + 7) (w * 11 + rk P p) = hI P w p
def Fr8 (o : Nat) (P : PAy) (S : Nat → Nat) (M : Mem) : Prop := ∀ p, P 0 p = 1 → M (o + 8) (rk P p) = cif (∃ v, v < P 10 1 ∧ S v = p + 1) 0 1
theorem hst_le {P : PAy} {w p : Nat} (hV : VA P) (hw : w < P 10 1) (hp : p < P 10 0) : hst P w p ≤ 12000 :=
  hof_le (hV.w hw) (by have := fr_lt (hV.w hw).1 hp hV.n60; omega)
theorem rkp {P : PAy} (hV : VA P) {p : Nat} (hp : P 0 p = 1) : rk P p < rk P 60 ∧ rk P p < 11 := by
  have h1 := rk_lt (hV.c60 hp) hp
  have h2 := hV.c11
  omega
/-- while the rows are measured -/
def Me5 (o : Nat) (P : PAy) (N : Mem) (i c : Nat) (M : Mem) : Prop := KS5 o N M ∧ M (o + 5) 3 = nI (P 10 1) ∧ M (o + 5) 4 = nI (rk P 60) ∧ (∀ p, P 0 p = 1 → M (o + 8) (rk P p) = 1) ∧ (∀ u, u < i → M (o + 6) u = -1) ∧ ∀ u, u < P 10 1 → ∀ p, P 0 p = 1 → (u + 1 < i ∨ (u + 1 = i ∧ rk P p < c)) → M (o + 7) (u * 11 + rk P p) = hI P u p
theorem k_me100 {o n i : Nat} {P : PAy} {N : Mem} {k75 : Int32 → Mem → Option Res} {Q : Int32 → Mem → Prop} (h : PO o) (c : CP o P N) (hV : VA P) (hw : i < P 10 1) (hk : ∀ M, Me5 o P N (i + 1) (rk P 60) M → Sp (k75 (nI (i + 1)) M) Q) : ∀ (f j : Nat) (M : Mem), j ≤ rk P 60 → rk P 60 < j + f → Me5 o P N (i + 1) j M → Sp (s5_measure_100 n k75 (o + 5) o (nI i) (o + 11 + i) f (nI j) M) Q := by
  have h11 := hV.c11
  have h12 := hV.w12
  have h60 := hV.n60
  obtain ⟨b1, b2, b3, b4, b5, b6, b7, b8, b9⟩ := hV.w hw
  intro f
  induction f with
  | zero => intro j M h1 h2; omega
  | succ f ih =>
    intro j M h1 h2 hM
    obtain ⟨m1, m2, m3, m4, m5, m6⟩ := hM
    have cM := m1.cp c
    rw [s5_measure_100, m3]
    by_cases q : j < rk P 60
    · obtain ⟨p, p1, p2, p3⟩ := rk_surj hV.c1 q
      have hpN := hV.cN p2
      have e0 : M (o + 11 + i) 0 = nI (P 1 i) := cM.w hw 0 (by decide)
      have e2 : M (o + 11 + i) 2 = nI (P 3 i) := cM.w hw 2 (by decide)
      have e6 : M (o + 11 + i) 6 = nI (P 7 i) := cM.w hw 6 (by decide)
      have ix : (nI i * (11 : Int32)) + nI j = nI (i * 11 + j) := by rw [show (11 : Int32) = nI 11 from rfl, pk_mul, nI_add]
      have ii : inB (nI (i * 11 + j)) (alen (o + 7)) := by rw [al7 h]; exact vp_in_nI (by omega) (by decide)
      have hfr := fr_lt b1 hpN h60
      have fin : ∀ v, v = hI P i p → Sp (s5_measure_100 n k75 (o + 5) o (nI i) (o + 11 + i) f (nI (j + 1)) (mset M (o + 7) (nI (i * 11 + j)).toNatClampNeg v)) Q := fun v hv => by
        rw [nI_clamp (by omega)]
        refine ih (j + 1) _ (by omega) (by omega) ⟨m1.tr (KS5.st (by omega) (by omega)), ?_, ?_, fun r r1 => ?_, fun u hu => ?_, fun u hu r r1 r2 => ?_⟩
        · rw [ms_ne (by omega)]; exact m2
        · rw [ms_ne (by omega)]; exact m3
        · rw [ms_ne (by omega)]; exact m4 r r1
        · rw [ms_ne (by omega)]; exact m5 u hu
        · have hr := rkp hV r1
          by_cases e : u = i ∧ rk P r = j
          · obtain ⟨e1, e2⟩ := e
            have : r = p := rk_inj r1 p2 (by omega)
            rw [e1, e2, ms_eq, hv, this]
          · rw [ms_ne2 (by omega)]
            exact m6 u hu r r1 (by omega)
      refine Sp.neg (nI_ge q (by omega)) ?_
      rw [lo0 h, ← p3]
      refine Sp_cbe (k_place h cM hV p2) ?_
      rw [e0]
      refine Sp_cbe (k_far cM hV b1 hpN) ?_
      rw [p3, e2, e6]
      have no : hI P i p = 2147483647 → Sp (s5_measure_151 n k75 (s5_measure_100 n k75 (o + 5) o (nI i) (o + 11 + i) f) (o + 5) o (nI i) (o + 11 + i) (nI j) (nI (frA (P 10 0) (P 1 i) p)) M) Q := fun hno => by
        unfold s5_measure_151 s5_measure_152
        rw [ix, ls1 h]
        refine Sp.pos rfl (Sp.pos ii (Sp.mlet (Sp.ilet ?_)))
        rw [nI_1]
        exact fin _ hno.symm
      by_cases z : P 3 i = 0
      · exact Sp.pos (by rw [z]; rfl) (no (if_neg (fun y => by omega)))
      · refine Sp.neg (fun y => z ((nI_is0 (by omega)).mp y)) ?_
        by_cases z2 : frA (P 10 0) (P 1 i) p ≤ P 7 i
        · refine Sp.neg (nI_nlt z2 (by omega)) ?_
          unfold s5_measure_152
          refine Sp.neg (by decide) (Sp_cbe (k_haste cM hV hw (by omega)) ?_)
          rw [ix, ls1 h]
          refine Sp.pos ii (Sp.mlet (Sp.ilet ?_))
          rw [nI_1]
          refine fin _ ?_
          unfold hI
          rw [if_pos ⟨by omega, z2⟩]; rfl
        · exact Sp.pos (nI_lt (by omega) (by omega)) (no (if_neg (fun y => z2 y.2)))
    · have e : j = rk P 60 := by omega
      refine Sp.pos (nI_le (by omega) (by omega)) (Sp.ilet ?_)
      rw [nI_1]
      exact hk M ⟨m1, m2, m3, m4, m5, fun u hu r r1 r2 => m6 u hu r r1 (by omega)⟩
theorem k_me75 {o n : Nat} {P : PAy} {N : Mem} (h : PO o) (c : CP o P N) (hV : VA P) (hn : 60 < n) : ∀ (f i : Nat) (M : Mem), i ≤ P 10 1 → P 10 1 < i + f → Me5 o P N i (rk P 60) M → Sp (s5_measure_75 n (o + 5) o f (nI i) M) (fun _ M' => Me5 o P N (P 10 1) (rk P 60) M') := by
  have h11 := hV.c11
  have h12 := hV.w12
  intro f
  induction f with
  | zero => intro i M h1 h2; omega
  | succ f ih =>
    intro i M h1 h2 hM
    obtain ⟨m1, m2, m3, m4, m5, m6⟩ := hM
    rw [s5_measure_75, m2]
    by_cases q : i < P 10 1
    · have i9 : inB (nI i) (alen (o + 9)) := by rw [al9 h]; exact vp_in_nI (by omega) (by decide)
      have i6 : inB (nI i) (alen (o + 6)) := by rw [al6 h]; exact vp_in_nI (by omega) (by decide)
      refine Sp.neg (nI_ge q (by omega)) ?_
      rw [lo3 h, ls0 h]
      refine Sp.pos i9 (Sp.pos i6 (Sp.mlet ?_))
      rw [nI_clamp (by omega), lw9 h (by omega)]
      refine k_me100 h c hV q (fun M' hM' => ih (i + 1) M' (by omega) (by omega) hM') n 0 _ (Nat.zero_le _) (by omega) ⟨m1.tr (KS5.st (by omega) (by omega)), ?_, ?_, fun r r1 => ?_, fun u hu => ?_, fun u hu r r1 r2 => ?_⟩
      · rw [ms_ne (by omega)]; exact m2
      · rw [ms_ne (by omega)]; exact m3
      · rw [ms_ne (by omega)]; exact m4 r r1
      · by_cases e : u = i
        · rw [e]; exact ms_eq
        · rw [ms_ne2 e]; exact m5 u (by omega)
      · have hr := rkp hV r1
        rw [ms_ne (by omega)]; exact m6 u hu r r1 (by omega)
    · have e : i = P 10 1 := by omega
      subst e
      exact Sp.pos (nI_le (Nat.le_refl _) (by omega)) (Sp.ret ⟨m1, m2, m3, m4, m5, m6⟩)
theorem k_me52 {o n : Nat} {P : PAy} {N : Mem} (h : PO o) (c : CP o P N) (hV : VA P) (hn : 60 < n) : ∀ (f i : Nat) (M : Mem), i ≤ rk P 60 → rk P 60 < i + f → KS5 o N M → M (o + 5) 3 = nI (P 10 1) → M (o + 5) 4 = nI (rk P 60) → (∀ j, j < i → M (o + 8) j = 1) → Sp (s5_measure_52 n (o + 5) o f (nI i) M) (fun _ M' => Me5 o P N (P 10 1) (rk P 60) M') := by
  have h11 := hV.c11
  have h12 := hV.w12
  intro f
  induction f with
  | zero => intro i M h1 h2; omega
  | succ f ih =>
    intro i M h1 h2 m1 m2 m3 m4
    rw [s5_measure_52, m3]
    by_cases q : i < rk P 60
    · have i8 : inB (nI i) (alen (o + 8)) := by rw [al8 h]; exact vp_in_nI (by omega) (by decide)
      refine Sp.neg (nI_ge q (by omega)) ?_
      rw [ls2 h]
      refine Sp.pos i8 (Sp.mlet (Sp.ilet ?_))
      rw [nI_1, nI_clamp (by omega)]
      refine ih (i + 1) _ (by omega) (by omega) (m1.tr (KS5.st (by omega) (by omega))) ?_ ?_ (fun j hj => ?_)
      · rw [ms_ne (by omega)]; exact m2
      · rw [ms_ne (by omega)]; exact m3
      · by_cases e : j = i
        · rw [e, ms_eq]; rfl
        · rw [ms_ne2 e]; exact m4 j (by omega)
    · have e : i = rk P 60 := by omega
      refine Sp.pos (nI_le (by omega) (by omega)) ?_
      exact k_me75 h c hV hn n 0 M (Nat.zero_le _) (by omega) ⟨m1, m2, m3, fun p hp => m4 _ (by have := rkp hV hp; omega), fun u hu => by omega, fun u hu p hp y => by omega⟩
theorem k_measure {o n : Nat} {P : PAy} {M : Mem} (h : PO o) (c : CP o P M) (hV : VA P) (hn : 60 < n) : Sp (s5_measure n (o + 5) o M) (fun _ M' => KS5 o M M' ∧ CS o P (fun _ => 0) M' ∧ Hs7 o P M' ∧ Fr8 o P (fun _ => 0) M') := by
  have h11 := hV.c11
  have h12 := hV.w12
  have core : Sp (s5_measure_19 n (o + 5) o (nI (P 10 1)) (o + 5) M) (fun _ M' => Me5 o P M (P 10 1) (rk P 60) M') := by
    unfold s5_measure_19
    refine Sp.mlet ?_
    have ec : mset M (o + 5) 3 (nI (P 10 1)) (link o 0) 1 = nI (rk P 60) := by rw [lo0 h, ms_ne (by omega)]; exact c.cs
    rw [ec]
    have go : ∀ v, v = nI (rk P 60) → Sp (mlet (mset (mset M (o + 5) 3 (nI (P 10 1))) (o + 5) 4 v) (fun M2 => s5_measure_52 n (o + 5) o n 0 M2)) (fun _ M' => Me5 o P M (P 10 1) (rk P 60) M') := fun v hv => by
      refine Sp.mlet (k_me52 h c hV hn n 0 _ (Nat.zero_le _) (by omega) ((KS5.st (by omega) (by omega)).tr (KS5.st (by omega) (by omega))) ?_ ?_ (fun j hj => by omega))
      · rw [ms_ne2 (by decide), ms_eq]
      · rw [ms_eq, hv]
    by_cases q : 11 ≤ rk P 60
    · have e : rk P 60 = 11 := by omega
      exact Sp.pos (nI_le (a := 11) q (by omega)) (go 11 (by rw [e]; rfl))
    · exact Sp.neg (nI_ge (b := 11) (by omega) (by decide)) (go _ rfl)
  have post : ∀ (E : Option Res), Sp E (fun _ M' => Me5 o P M (P 10 1) (rk P 60) M') → Sp E (fun _ M' => KS5 o M M' ∧ CS o P (fun _ => 0) M' ∧ Hs7 o P M' ∧ Fr8 o P (fun _ => 0) M') := fun E hE => hE.mono (fun r M' z => by
    obtain ⟨m1, m2, m3, m4, m5, m6⟩ := z
    refine ⟨m1, ⟨m2, m3, fun w hw => m5 w hw⟩, fun w hw p hp => m6 w hw p hp ?_, fun p hp => ?_⟩
    · have := rkp hV hp
      omega
    · rw [m4 p hp, cif_neg]
      intro ⟨v, _, hv⟩
      exact absurd (show (0 : Nat) = p + 1 from hv) (by omega))
  unfold s5_measure
  rw [c.wc]
  by_cases q : 12 ≤ P 10 1
  · have e : P 10 1 = 12 := by omega
    have e12 : nI (P 10 1) = 12 := by rw [e]; rfl
    refine Sp.pos (by rw [e12]; decide) (post _ ?_)
    rw [e12] at core
    exact core
  · exact Sp.neg (nI_ge (b := 12) (by omega) (by decide)) (post _ core)
/-! one more sits -/
theorem Bnn_mv {P : PAy} {S : Nat → Nat} {w0 a b : Nat} (e : rk P a = rk P b) (h : Bnn P S w0 a) : Bnn P S w0 b := fun w p h1 h2 => by
  have hp := h1.2.2.2.2.1
  refine h w p h1 ?_
  rcases h2 with q | ⟨q1, q2⟩
  · exact Or.inl q
  · refine Or.inr ⟨q1, Nat.not_le.mp (fun y => ?_)⟩
    have := rk_lt q2 hp
    have := rk_mono (P := P) y
    omega
theorem Bbb_mv {P : PAy} {S : Nat → Nat} {w0 a b w p : Nat} (e : rk P a = rk P b) (h : Bbb P S w0 a w p) : Bbb P S w0 b w p := by
  have mv : ∀ (a b w p : Nat), rk P a = rk P b → P 0 p = 1 → Scn w0 a w p → Scn w0 b w p := fun a b w p e hp h2 => by
    rcases h2 with q | ⟨q1, q2⟩
    · exact Or.inl q
    · refine Or.inr ⟨q1, Nat.not_le.mp (fun y => ?_)⟩
      have := rk_lt q2 hp
      have := rk_mono (P := P) y
      omega
  exact ⟨h.1, mv a b w p e h.1.2.2.2.2.1 h.2.1, fun w' p' h1 h2 => h.2.2 w' p' h1 (mv b a w' p' e.symm h1.2.2.2.2.1 h2)⟩
def Cst (P : PAy) (S : Nat → Nat) (w0 p0 : Nat) (x1 x2 x3 : Int32) : Prop := (x1 = 2147483647 ∧ x2 = -1 ∧ x3 = -1 ∧ Bnn P S w0 p0) ∨ ∃ w p, x1 = nI (hst P w p) ∧ x2 = nI w ∧ x3 = nI (rk P p) ∧ Bbb P S w0 p0 w p
theorem Cst_mv {P : PAy} {S : Nat → Nat} {w0 a b : Nat} {x1 x2 x3 : Int32} (e : rk P a = rk P b) (h : Cst P S w0 a x1 x2 x3) : Cst P S w0 b x1 x2 x3 := by
  rcases h with ⟨a1, a2, a3, a4⟩ | ⟨w, p, a1, a2, a3, a4⟩
  · exact Or.inl ⟨a1, a2, a3, Bnn_mv e a4⟩
  · exact Or.inr ⟨w, p, a1, a2, a3, Bbb_mv e a4⟩
theorem Cst_skip {P : PAy} {S : Nat → Nat} {w0 p0 : Nat} {x1 x2 x3 : Int32} (h : Cst P S w0 p0 x1 x2 x3) (hc : ¬ Cnd P S w0 p0) : Cst P S w0 (p0 + 1) x1 x2 x3 := by
  rcases h with ⟨a1, a2, a3, a4⟩ | ⟨w, p, a1, a2, a3, a4⟩
  · exact Or.inl ⟨a1, a2, a3, Bnn_skip a4 hc⟩
  · exact Or.inr ⟨w, p, a1, a2, a3, Bbb_skip a4 hc⟩
theorem Cst_row {P : PAy} {S : Nat → Nat} {w0 : Nat} {x1 x2 x3 : Int32} (h : Cst P S w0 (P 10 0) x1 x2 x3) : Cst P S (w0 + 1) 0 x1 x2 x3 := by
  rcases h with ⟨a1, a2, a3, a4⟩ | ⟨w, p, a1, a2, a3, a4⟩
  · exact Or.inl ⟨a1, a2, a3, Bnn_row a4⟩
  · exact Or.inr ⟨w, p, a1, a2, a3, Bbb_row a4⟩
theorem Cst_no {P : PAy} {S : Nat → Nat} {w0 : Nat} {x1 x2 x3 : Int32} (h : Cst P S w0 0 x1 x2 x3) (hc : ∀ p, ¬ Cnd P S w0 p) : Cst P S (w0 + 1) 0 x1 x2 x3 := by
  rcases h with ⟨a1, a2, a3, a4⟩ | ⟨w, p, a1, a2, a3, a4⟩
  · exact Or.inl ⟨a1, a2, a3, Bnn_no a4 hc⟩
  · exact Or.inr ⟨w, p, a1, a2, a3, Bbb_no a4 hc⟩
theorem Cst_le {P : PAy} {S : Nat → Nat} {w0 p0 : Nat} {x1 x2 x3 : Int32} (hV : VA P) (h : Cst P S w0 p0 x1 x2 x3) : x1 ≤ 2147483647 := by
  rcases h with ⟨a1, a2, a3, a4⟩ | ⟨w, p, a1, a2, a3, a4⟩
  · rw [a1]; decide
  · have hb := hst_le hV a4.1.1 a4.1.2.2.2.1
    rw [a1]
    exact nI_le (b := 2147483647) (by omega) (by decide)
theorem k_slh22 {o n w0 : Nat} {P : PAy} {S : Nat → Nat} {M : Mem} {k10 : Int32 → Int32 → Int32 → Int32 → Mem → Option Res} {Q : Int32 → Mem → Prop} (h : PO o) (hV : VA P) (h6 : S60 S) (hs : CS o P S M) (h7 : Hs7 o P M) (h8 : Fr8 o P S M) (hw : w0 < P 10 1) (hS : S w0 = 0) (hk : ∀ x1 x2 x3, Cst P S (w0 + 1) 0 x1 x2 x3 → Sp (k10 x1 x2 x3 (nI (w0 + 1)) M) Q) : ∀ (f i p0 : Nat) (x1 x2 x3 : Int32), i ≤ rk P 60 → rk P 60 < i + f → rk P p0 = i → Cst P S w0 p0 x1 x2 x3 → Sp (s5_seatLeastHaste_22 n k10 (o + 5) (nI w0) f x1 x2 x3 (nI i) M) Q := by
  have h11 := hV.c11
  have h12 := hV.w12
  have h60 := hV.n60
  have i6 : inB (nI w0) (alen (o + 6)) := by rw [al6 h]; exact vp_in_nI (by omega) (by decide)
  have e6 : M (o + 6) (nI w0).toNatClampNeg = cI P (S w0) := by rw [nI_clamp (by omega)]; exact hs.2.2 w0 hw
  intro f
  induction f with
  | zero => intro i p0 x1 x2 x3 h1 h2; omega
  | succ f ih =>
    intro i p0 x1 x2 x3 h1 h2 hp0 hC
    rw [s5_seatLeastHaste_22, hs.2.1]
    by_cases q : i < rk P 60
    · obtain ⟨p, p1, p2, p3⟩ := rk_surj hV.c1 q
      have hpN := hV.cN p2
      have hC2 : Cst P S w0 p x1 x2 x3 := Cst_mv (by omega) hC
      have hb := hst_le hV hw hpN
      have i8 : inB (nI i) (alen (o + 8)) := by rw [al8 h]; exact vp_in_nI (by omega) (by decide)
      have e8 : M (o + 8) (nI i).toNatClampNeg = cif (∃ v, v < P 10 1 ∧ S v = p + 1) 0 1 := by rw [nI_clamp (by omega), ← p3]; exact h8 p p2
      have ix : (nI w0 * (11 : Int32)) + nI i = nI (w0 * 11 + i) := by rw [show (11 : Int32) = nI 11 from rfl, pk_mul, nI_add]
      have i7 : inB (nI (w0 * 11 + i)) (alen (o + 7)) := by rw [al7 h]; exact vp_in_nI (by omega) (by decide)
      have e7 : M (o + 7) (nI (w0 * 11 + i)).toNatClampNeg = hI P w0 p := by rw [nI_clamp (by omega), ← p3]; exact h7 w0 hw p p2
      have rp : rk P (p + 1) = i + 1 := by
        show rk P p + P 0 p = i + 1
        omega
      have skip : ¬ Cnd P S w0 p → Sp (s5_seatLeastHaste_22 n k10 (o + 5) (nI w0) f x1 x2 x3 (nI (i + 1)) M) Q := fun hno =>
        ih (i + 1) (p + 1) _ _ _ (by omega) (by omega) rp (Cst_skip hC2 hno)
      refine Sp.neg (nI_ge q (by omega)) ?_
      rw [ls0 h, ls1 h, ls2 h]
      refine Sp.pos i6 ?_
      rw [e6]
      refine Sp.neg (fun z => (cI_nn hV (h6 w0)).mp z hS) (Sp.pos i8 ?_)
      rw [e8]
      by_cases t : ∃ v, v < P 10 1 ∧ S v = p + 1
      · refine Sp.pos (cif_pos t) (Sp.ilet ?_)
        rw [nI_1]
        exact skip (fun z => by obtain ⟨v, v1, v2⟩ := t; exact z.2.2.2.2.2.1 v v1 v2)
      · refine Sp.neg (by rw [cif_neg t]; decide) ?_
        rw [ix]
        refine Sp.pos i7 ?_
        rw [e7]
        by_cases y : P 3 w0 = 1 ∧ frA (P 10 0) (P 1 w0) p ≤ P 7 w0
        · have hh : hI P w0 p = nI (hst P w0 p) := if_pos y
          have hCn : Cnd P S w0 p := ⟨hw, y.1, hS, hpN, p2, fun v v1 v2 => t ⟨v, v1, v2⟩, y.2⟩
          rw [hh]
          have take : Cst P S w0 (p + 1) (nI (hst P w0 p)) (nI w0) (nI i) → ¬ x1 ≤ nI (hst P w0 p) → Sp (if x1 ≤ nI (hst P w0 p) then (ilet (nI i + 1) (fun v6 => s5_seatLeastHaste_22 n k10 (o + 5) (nI w0) f x1 x2 x3 v6 M)) else (if inB (nI (w0 * 11 + i)) (alen (o + 7)) then ilet (nI (hst P w0 p)) (fun v7 => ilet (nI i + 1) (fun v8 => s5_seatLeastHaste_22 n k10 (o + 5) (nI w0) f v7 (nI w0) (nI i) v8 M)) else none)) Q := fun hT hgt => by
            refine Sp.neg hgt (Sp.pos i7 (Sp.ilet (Sp.ilet ?_)))
            rw [nI_1]
            exact ih (i + 1) (p + 1) _ _ _ (by omega) (by omega) rp hT
          rcases hC2 with ⟨a1, a2, a3, a4⟩ | ⟨w, r, a1, a2, a3, a4⟩
          · exact take (Or.inr ⟨w0, p, rfl, rfl, by rw [p3], Bnn_take a4 hCn⟩) (by rw [a1]; exact nI_ge (b := 2147483647) (by omega) (by decide))
          · have hb2 := hst_le hV a4.1.1 a4.1.2.2.2.1
            by_cases u : hst P w r ≤ hst P w0 p
            · refine Sp.pos (by rw [a1]; exact nI_le u (by omega)) (Sp.ilet ?_)
              rw [nI_1]
              exact ih (i + 1) (p + 1) _ _ _ (by omega) (by omega) rp (Or.inr ⟨w, r, a1, a2, a3, Bbb_keep a4 u⟩)
            · exact take (Or.inr ⟨w0, p, rfl, rfl, by rw [p3], Bbb_take a4 hCn (by omega)⟩) (by rw [a1]; exact nI_ge (by omega) (by omega))
        · have hh : hI P w0 p = 2147483647 := if_neg y
          rw [hh]
          refine Sp.pos (Cst_le hV hC2) (Sp.ilet ?_)
          rw [nI_1]
          exact skip (fun z => y ⟨z.2.1, z.2.2.2.2.2.2⟩)
    · have e : i = rk P 60 := by omega
      refine Sp.pos (nI_le (by omega) (by omega)) (Sp.ilet ?_)
      rw [nI_1]
      exact hk _ _ _ (Cst_row (Cst_mv (by rw [rk_N hV]; omega) hC))
def SSt (o : Nat) (P : PAy) (S : Nat → Nat) (M : Mem) : Prop := CS o P S M ∧ Hs7 o P M ∧ Fr8 o P S M
theorem k_slh10 {o n : Nat} {P : PAy} {S : Nat → Nat} {M : Mem} (h : PO o) (hV : VA P) (h6 : S60 S) (hs : SSt o P S M) (hn : 60 < n) : ∀ (f i : Nat) (x1 x2 x3 : Int32), i ≤ P 10 1 → P 10 1 < i + f → Cst P S i 0 x1 x2 x3 → Sp (s5_seatLeastHaste_10 n (o + 5) f x1 x2 x3 (nI i) M) (fun r M' => (r = 0 ∧ M' = M ∧ ∀ w p, ¬ Cnd P S w p) ∨ (r = 1 ∧ ∃ w p, Bst P S w p ∧ SSt o P (fun v => if v = w then p + 1 else S v) M' ∧ KS5 o M M')) := by
  have h11 := hV.c11
  have h12 := hV.w12
  obtain ⟨s1, s2, s3⟩ := hs
  intro f
  induction f with
  | zero => intro i x1 x2 x3 h1 h2; omega
  | succ f ih =>
    intro i x1 x2 x3 h1 h2 hC
    rw [s5_seatLeastHaste_10, s1.1]
    by_cases q : i < P 10 1
    · refine Sp.neg (nI_ge q (by omega)) ?_
      have nx := fun y1 y2 y3 (hy : Cst P S (i + 1) 0 y1 y2 y3) => ih (i + 1) y1 y2 y3 (by omega) (by omega) hy
      by_cases z : S i = 0
      · exact k_slh22 h hV h6 s1 s2 s3 q z nx n 0 0 x1 x2 x3 (Nat.zero_le _) (by omega) rfl hC
      · have hno : Cst P S (i + 1) 0 x1 x2 x3 := Cst_no hC (fun p y => z y.2.2.1)
        have i6 : inB (nI i) (alen (o + 6)) := by rw [al6 h]; exact vp_in_nI (by omega) (by decide)
        have e6 : M (o + 6) (nI i).toNatClampNeg = cI P (S i) := by rw [nI_clamp (by omega)]; exact s1.2.2 i q
        cases n with
        | zero => omega
        | succ m =>
          rw [s5_seatLeastHaste_22, s1.2.1]
          by_cases y : rk P 60 ≤ 0
          · refine Sp.pos (show nI (rk P 60) ≤ 0 by rw [show rk P 60 = 0 by omega]; decide) (Sp.ilet ?_)
            rw [nI_1]
            exact nx _ _ _ hno
          · refine Sp.neg (nI_nle (by omega) (by omega)) ?_
            rw [ls0 h]
            refine Sp.pos i6 ?_
            rw [e6]
            refine Sp.pos ((cI_nn hV (h6 i)).mpr z) (Sp.ilet ?_)
            rw [nI_1]
            exact nx _ _ _ hno
    · have e : i = P 10 1 := by omega
      subst e
      refine Sp.pos (nI_le (Nat.le_refl _) (by omega)) ?_
      rcases hC with ⟨a1, a2, a3, a4⟩ | ⟨w, p, a1, a2, a3, a4⟩
      · exact Sp.pos (by rw [a2]; decide) (Sp.ret (Or.inl ⟨rfl, rfl, Bnn_end a4⟩))
      · have hB := Bbb_end a4
        have hwW := hB.1.1
        have hp2 := hB.1.2.2.2.2.1
        have hr := rkp hV hp2
        have i6 : inB (nI w) (alen (o + 6)) := by rw [al6 h]; exact vp_in_nI (by omega) (by decide)
        have i8 : inB (nI (rk P p)) (alen (o + 8)) := by rw [al8 h]; exact vp_in_nI (by omega) (by decide)
        rw [a2, a3, ls0 h, ls2 h]
        refine Sp.neg (nI_pos (by omega)) (Sp.pos (nI_pos' (by omega)) (Sp.pos i6 (Sp.mlet (Sp.pos i8 (Sp.mlet (Sp.ret (Or.inr ⟨rfl, w, p, hB, ⟨⟨?_, ?_, fun v hv => ?_⟩, fun v hv r r1 => ?_, fun r r1 => ?_⟩, ?_⟩)))))))
        · rw [ms_ne (by omega), ms_ne (by omega)]; exact s1.1
        · rw [ms_ne (by omega), ms_ne (by omega)]; exact s1.2.1
        · rw [ms_ne (by omega), nI_clamp (by omega)]
          show mset M (o + 6) w (nI (rk P p)) (o + 6) v = cI P (if v = w then p + 1 else S v)
          by_cases e : v = w
          · rw [e, ms_eq, if_pos rfl]; unfold cI; rw [if_neg (by omega)]; rfl
          · rw [ms_ne2 e, if_neg e]; exact s1.2.2 v hv
        · rw [ms_ne (by omega), ms_ne (by omega)]; exact s2 v hv r r1
        · rw [nI_clamp (n := rk P p) (by omega)]
          have hr1 := rkp hV r1
          by_cases e : r = p
          · rw [e, ms_eq, cif_pos ⟨w, hwW, if_pos rfl⟩]; rfl
          · rw [ms_ne2 (fun y => e (rk_inj r1 hp2 y)), ms_ne (by omega), s3 r r1]
            have ee : (∃ v, v < P 10 1 ∧ S v = r + 1) ↔ (∃ v, v < P 10 1 ∧ (if v = w then p + 1 else S v) = r + 1) := by
              constructor
              · intro ⟨v, v1, v2⟩
                by_cases y : v = w
                · rw [y, hB.1.2.2.1] at v2; omega
                · exact ⟨v, v1, by rw [if_neg y]; exact v2⟩
              · intro ⟨v, v1, v2⟩
                by_cases y : v = w
                · rw [if_pos y] at v2; omega
                · rw [if_neg y] at v2; exact ⟨v, v1, v2⟩
            by_cases t : ∃ v, v < P 10 1 ∧ S v = r + 1
            · rw [cif_pos t, cif_pos (ee.mp t)]
            · rw [cif_neg t, cif_neg (fun y => t (ee.mpr y))]
        · exact (KS5.st (by omega) (by omega)).tr (KS5.st (by omega) (by omega))
theorem k_slh {o n : Nat} {P : PAy} {S : Nat → Nat} {M : Mem} (h : PO o) (hV : VA P) (h6 : S60 S) (hs : SSt o P S M) (hn : 60 < n) : Sp (s5_seatLeastHaste n (o + 5) M) (fun r M' => (r = 0 ∧ M' = M ∧ ∀ w p, ¬ Cnd P S w p) ∨ (r = 1 ∧ ∃ w p, Bst P S w p ∧ SSt o P (fun v => if v = w then p + 1 else S v) M' ∧ KS5 o M M')) :=
  k_slh10 h hV h6 hs hn n 0 _ _ _ (Nat.zero_le _) (by have := hV.w12; omega) (Or.inl ⟨rfl, rfl, rfl, fun w p _ z => by unfold Scn at z; omega⟩)
/-- who sits is within reach -/
def SRr (P : PAy) (S : Nat → Nat) : Prop := ∀ w, S w ≠ 0 → frA (P 10 0) (P 1 w) (S w - 1) ≤ P 7 w
theorem SRr_sN {P : PAy} (hV : VA P) : ∀ k, SRr P (sNA P k) := by
  intro k
  induction k with
  | zero => exact fun w hw => absurd rfl hw
  | succ k ih =>
    show SRr P (sn P (sNA P k))
    by_cases q : ∃ x, Bst P (sNA P k) (x / 64) (x % 64)
    · obtain ⟨x, hx⟩ := q
      rw [sn_best hV hx]
      intro v hv
      have hv2 : (if v = x / 64 then x % 64 + 1 else sNA P k v) ≠ 0 := hv
      show frA (P 10 0) (P 1 v) ((if v = x / 64 then x % 64 + 1 else sNA P k v) - 1) ≤ P 7 v
      by_cases e : v = x / 64
      · rw [if_pos e, e]; exact hx.1.2.2.2.2.2.2
      · rw [if_neg e] at hv2 ⊢; exact ih v hv2
    · unfold sn
      rw [cif_neg q]; exact ih
theorem SRr_ja {P : PAy} {S : Nat → Nat} (h : SRr P S) : ∀ k, SRr P (ja P S k) := by
  intro k
  induction k with
  | zero => exact h
  | succ k ih =>
    show SRr P (if P 3 k = 1 ∧ P 4 k = 6 ∧ ja P S k k ≠ 0 then jd P (ja P S k) k else ja P S k)
    by_cases q : P 3 k = 1 ∧ P 4 k = 6 ∧ ja P S k k ≠ 0
    · rw [if_pos q]
      by_cases y : ∃ v, FstA (Gv P (ja P S k) k) v
      · obtain ⟨v, hv⟩ := y
        rw [jd_some hv]
        intro u hu
        have hu2 : (if u = k then 0 else if u = v then ja P S k k else ja P S k u) ≠ 0 := hu
        show frA (P 10 0) (P 1 u) ((if u = k then 0 else if u = v then ja P S k k else ja P S k u) - 1) ≤ P 7 u
        by_cases e : u = k
        · rw [if_pos e] at hu2; exact absurd rfl hu2
        · rw [if_neg e] at hu2 ⊢
          by_cases e2 : u = v
          · rw [if_pos e2, e2]; exact hv.1.2.2.2.1
          · rw [if_neg e2] at hu2 ⊢; exact ih u hu2
      · have : jd P (ja P S k) k = ja P S k := by
          unfold jd
          rw [cif_neg y]
        rw [this]; exact ih
    · rw [if_neg q]; exact ih
theorem k_give22 {o n g : Nat} {P : PAy} {S : Nat → Nat} {M : Mem} (h : PO o) (hV : VA P) (hSV : SV P S) (hs : CS o P S M) (h7 : Hs7 o P M) (hg : S g ≠ 0) : ∀ (f i : Nat), i ≤ P 10 1 → P 10 1 < i + f → (∀ u, u < i → ¬ Gv P S g u) → Sp (s5_giveWay_22 n (o + 5) (nI g) (nI (rk P (S g - 1))) (nI (hst P g (S g - 1))) f (nI i) M) (fun _ M' => CS o P (jd P S g) M' ∧ Hs7 o P M' ∧ KS5 o M M') := by
  have h11 := hV.c11
  have h12 := hV.w12
  have h6 := hSV.s60 hV
  obtain ⟨g1, g2, g3⟩ := hSV g hg
  have hpN := hV.cN g3
  have hr := rkp hV g3
  have hb1 := hst_le hV g1 hpN
  intro f
  induction f with
  | zero => intro i h1 h2; omega
  | succ f ih =>
    intro i h1 h2 hno
    rw [s5_giveWay_22, hs.1]
    by_cases q : i < P 10 1
    · have i6 : inB (nI i) (alen (o + 6)) := by rw [al6 h]; exact vp_in_nI (by omega) (by decide)
      have ig : inB (nI g) (alen (o + 6)) := by rw [al6 h]; exact vp_in_nI (by omega) (by decide)
      have e6 : M (o + 6) (nI i).toNatClampNeg = cI P (S i) := by rw [nI_clamp (by omega)]; exact hs.2.2 i q
      have ix : (nI i * (11 : Int32)) + nI (rk P (S g - 1)) = nI (i * 11 + rk P (S g - 1)) := by rw [show (11 : Int32) = nI 11 from rfl, pk_mul, nI_add]
      have i7 : inB (nI (i * 11 + rk P (S g - 1))) (alen (o + 7)) := by rw [al7 h]; exact vp_in_nI (by omega) (by decide)
      have e7 : M (o + 7) (nI (i * 11 + rk P (S g - 1))).toNatClampNeg = hI P i (S g - 1) := by rw [nI_clamp (by omega)]; exact h7 i q _ g3
      have hb2 := hst_le hV q hpN
      have skip : ∀ x, x = nI (i + 1) → ¬ Gv P S g i → Sp (s5_giveWay_22 n (o + 5) (nI g) (nI (rk P (S g - 1))) (nI (hst P g (S g - 1))) f x M) (fun _ M' => CS o P (jd P S g) M' ∧ Hs7 o P M' ∧ KS5 o M M') := fun x hx hgv => by
        rw [hx]; exact ih (i + 1) (by omega) (by omega) (fun u hu => by
          by_cases e : u = i
          · subst e; exact hgv
          · exact hno u (by omega))
      refine Sp.neg (nI_ge q (by omega)) ?_
      rw [ls0 h, ls1 h]
      refine Sp.pos i6 ?_
      rw [e6]
      by_cases z : S i = 0
      · refine Sp.neg (fun y => (cI_nn hV (h6 i)).mp y z) ?_
        rw [ix]
        refine Sp.pos i7 ?_
        rw [e7]
        by_cases y : Gv P S g i
        · have hh : hI P i (S g - 1) = nI (hst P i (S g - 1)) := if_pos ⟨y.2.1, y.2.2.2.1⟩
          rw [hh]
          refine Sp.neg (nI_nlt y.2.2.2.2 (by omega)) (Sp.pos i6 (Sp.mlet (Sp.pos ig (Sp.mlet (Sp.ret ⟨⟨?_, ?_, fun u hu => ?_⟩, fun v hv r r1 => ?_, ?_⟩)))))
          · rw [ms_ne (by omega), ms_ne (by omega)]; exact hs.1
          · rw [ms_ne (by omega), ms_ne (by omega)]; exact hs.2.1
          · rw [nI_clamp (by omega), nI_clamp (by omega), jd_some ⟨y, hno⟩]
            show mset (mset M (o + 6) i (nI (rk P (S g - 1)))) (o + 6) g (-1) (o + 6) u = cI P (if u = g then 0 else if u = i then S g else S u)
            by_cases e : u = g
            · rw [e, ms_eq, if_pos rfl]; rfl
            · rw [ms_ne2 e, if_neg e]
              by_cases e2 : u = i
              · rw [e2, ms_eq, if_pos rfl]; unfold cI; rw [if_neg hg]
              · rw [ms_ne2 e2, if_neg e2]; exact hs.2.2 u hu
          · rw [ms_ne (by omega), ms_ne (by omega)]; exact h7 v hv r r1
          · exact (KS5.st (by omega) (by omega)).tr (KS5.st (by omega) (by omega))
        · refine Sp.pos ?_ (Sp.ilet (skip _ (nI_1 i) y))
          unfold hI
          by_cases t : P 3 i = 1 ∧ frA (P 10 0) (P 1 i) (S g - 1) ≤ P 7 i
          · rw [if_pos t]
            exact nI_lt (Nat.not_le.mp (fun u => y ⟨q, t.1, z, t.2, u⟩)) (by omega)
          · rw [if_neg t]
            exact nI_lt (b := 2147483647) (by omega) (by decide)
      · exact Sp.pos ((cI_nn hV (h6 i)).mpr z) (Sp.ilet (skip _ (nI_1 i) (fun y => z y.2.2.1)))
    · have e : i = P 10 1 := by omega
      subst e
      refine Sp.pos (nI_le (Nat.le_refl _) (by omega)) (Sp.ret ⟨?_, h7, KS5.rf⟩)
      rw [jd_none (fun v z => hno v z.1 z)]
      exact hs
theorem k_give {o n g : Nat} {P : PAy} {S : Nat → Nat} {M : Mem} (h : PO o) (hV : VA P) (hSV : SV P S) (hSR : SRr P S) (hs : CS o P S M) (h7 : Hs7 o P M) (hg : S g ≠ 0) (hn : 60 < n) : Sp (s5_giveWay n (o + 5) (nI g) M) (fun _ M' => CS o P (jd P S g) M' ∧ Hs7 o P M' ∧ KS5 o M M') := by
  have h12 := hV.w12
  obtain ⟨g1, g2, g3⟩ := hSV g hg
  have hr := rkp hV g3
  have ig : inB (nI g) (alen (o + 6)) := by rw [al6 h]; exact vp_in_nI (by omega) (by decide)
  have eg : M (o + 6) (nI g).toNatClampNeg = nI (rk P (S g - 1)) := by rw [nI_clamp (by omega), hs.2.2 g g1]; exact if_neg hg
  have ix : (nI g * (11 : Int32)) + nI (rk P (S g - 1)) = nI (g * 11 + rk P (S g - 1)) := by rw [show (11 : Int32) = nI 11 from rfl, pk_mul, nI_add]
  have i7 : inB (nI (g * 11 + rk P (S g - 1))) (alen (o + 7)) := by rw [al7 h]; exact vp_in_nI (by omega) (by decide)
  have e7 : M (o + 7) (nI (g * 11 + rk P (S g - 1))).toNatClampNeg = nI (hst P g (S g - 1)) := by
    rw [nI_clamp (by omega), h7 g g1 _ g3]; exact if_pos ⟨g2, hSR g hg⟩
  unfold s5_giveWay
  rw [ls0 h, ls1 h]
  refine Sp.pos ig (Sp.ilet ?_)
  rw [eg, ix]
  refine Sp.pos i7 (Sp.ilet ?_)
  rw [e7]
  exact k_give22 h hV hSV hs h7 hg n 0 (Nat.zero_le _) (by omega) (fun u hu => by omega)
theorem k_seat34 {o n : Nat} {P : PAy} {N : Mem} {S : Nat → Nat} (h : PO o) (c : CP o P N) (hV : VA P) (hSV : SV P S) (hSR : SRr P S) (hn : 60 < n) : ∀ (f i : Nat) (M : Mem), i ≤ P 10 1 → P 10 1 < i + f → KS5 o N M → CS o P (ja P S i) M → Hs7 o P M → Sp (s5_seatAll_34 n (o + 5) o f (nI i) M) (fun _ M' => CS o P (ja P S (P 10 1)) M' ∧ KS5 o N M') := by
  have h12 := hV.w12
  intro f
  induction f with
  | zero => intro i M h1 h2; omega
  | succ f ih =>
    intro i M h1 h2 m1 hs h7
    have cM := m1.cp c
    have hSi := SV_ja hSV i
    have h6 := hSi.s60 hV
    rw [s5_seatAll_34, hs.1]
    by_cases q : i < P 10 1
    · have i9 : inB (nI i) (alen (o + 9)) := by rw [al9 h]; exact vp_in_nI (by omega) (by decide)
      have i6 : inB (nI i) (alen (o + 6)) := by rw [al6 h]; exact vp_in_nI (by omega) (by decide)
      have e3 : M (link (o + 9) (nI i).toNatClampNeg) 3 = nI (P 4 i) := by rw [nI_clamp (by omega), lw9 h (by omega)]; exact cM.w q 3 (by decide)
      have e6 : M (o + 6) (nI i).toNatClampNeg = cI P (ja P S i i) := by rw [nI_clamp (by omega)]; exact hs.2.2 i q
      have b4 := (hV.w q).2.2.2.1
      have en : ja P S (i + 1) = if P 3 i = 1 ∧ P 4 i = 6 ∧ ja P S i i ≠ 0 then jd P (ja P S i) i else ja P S i := rfl
      have skip : ∀ x, x = nI (i + 1) → ¬ (P 3 i = 1 ∧ P 4 i = 6 ∧ ja P S i i ≠ 0) → Sp (s5_seatAll_34 n (o + 5) o f x M) (fun _ M' => CS o P (ja P S (P 10 1)) M' ∧ KS5 o N M') := fun x hx hno => by
        rw [hx]; exact ih (i + 1) M (by omega) (by omega) m1 (by rw [en, if_neg hno]; exact hs) h7
      refine Sp.neg (nI_ge q (by omega)) ?_
      rw [lo3 h, ls0 h]
      refine Sp.pos i9 ?_
      rw [e3]
      by_cases z : P 4 i = 6
      · refine Sp.pos (by rw [z]; rfl) (Sp.pos i6 ?_)
        rw [e6]
        by_cases y : ja P S i i = 0
        · exact Sp.pos ((cI_neg hV (h6 i)).mpr y) (Sp.ilet (skip _ (nI_1 i) (fun t => t.2.2 y)))
        · refine Sp.neg (fun t => y ((cI_neg hV (h6 i)).mp t)) (Sp.cb (k_give h hV hSi (SRr_ja hSR i) hs h7 y hn) (fun r M1 g => Sp.ilet ?_))
          rw [nI_1]
          refine ih (i + 1) M1 (by omega) (by omega) (m1.tr g.2.2) ?_ g.2.1
          rw [en, if_pos ⟨(hSi i y).2.1, z, y⟩]; exact g.1
      · exact Sp.neg (fun t => z ((nI_is6 (by omega)).mp t)) (Sp.ilet (skip _ (nI_1 i) (fun t => z t.2.1)))
    · have e : i = P 10 1 := by omega
      subst e
      exact Sp.pos (nI_le (Nat.le_refl _) (by omega)) (Sp.ret ⟨hs, m1⟩)
theorem k_seat9 {o n : Nat} {P : PAy} {N : Mem} (h : PO o) (c : CP o P N) (hV : VA P) (hn : 60 < n) : ∀ (f i k : Nat) (x2 : Int32) (M : Mem), i ≤ rk P 60 → rk P 60 < i + f → KS5 o N M → SSt o P (sNA P k) M → k ≤ 12 → ((x2 = 1 ∧ k = i ∧ cT P (sNA P k) 60 = i) ∨ (x2 = 0 ∧ ∀ w p, ¬ Cnd P (sNA P k) w p)) → Sp (s5_seatAll_9 n (o + 5) o f x2 (nI i) M) (fun _ M' => CS o P (sit P) M' ∧ KS5 o N M') := by
  have h11 := hV.c11
  have h12 := hV.w12
  have fin : ∀ (k : Nat) (M : Mem), KS5 o N M → SSt o P (sNA P k) M → k ≤ 12 → (∀ w p, ¬ Cnd P (sNA P k) w p) → Sp (s5_seatAll_34 n (o + 5) o n 0 M) (fun _ M' => CS o P (sit P) M' ∧ KS5 o N M') := fun k M m1 hs hk hno => by
    have e : sNA P 12 = sNA P k := by
      have := sN_fix hno (12 - k)
      rw [show k + (12 - k) = 12 by omega] at this
      exact this
    refine k_seat34 h c hV (SV_sN hV 12) (SRr_sN hV 12) hn n 0 M (Nat.zero_le _) (by omega) m1 ?_ hs.2.1
    show CS o P (sNA P 12) M
    rw [e]; exact hs.1
  intro f
  induction f with
  | zero => intro i k x2 M h1 h2; omega
  | succ f ih =>
    intro i k x2 M h1 h2 m1 hs hk hx
    rw [s5_seatAll_9, hs.1.2.1]
    by_cases q : i < rk P 60
    · refine Sp.neg (nI_ge q (by omega)) ?_
      rcases hx with ⟨a1, a2, a3⟩ | ⟨a1, a2⟩
      · refine Sp.neg (by rw [a1]; decide) (Sp.cb (k_slh h hV ((SV_sN hV k).s60 hV) hs hn) (fun r M1 g => Sp.ilet ?_))
        rw [nI_1]
        rcases g with ⟨rfl, rfl, hno⟩ | ⟨rfl, w, p, hB, g2, g3⟩
        · exact ih (i + 1) k 0 _ (by omega) (by omega) m1 hs hk (Or.inr ⟨rfl, hno⟩)
        · have e1 : sNA P (k + 1) = fun v => if v = w then p + 1 else sNA P k v := sn_best hV hB
          refine ih (i + 1) (k + 1) 1 M1 (by omega) (by omega) (m1.tr g3) (by rw [e1]; exact g2) (by omega) (Or.inl ⟨rfl, by omega, ?_⟩)
          rw [e1, cT_step hB.1 60, a3, if_pos (hV.c60 hB.1.2.2.2.2.1)]
      · exact Sp.pos a1 (fin k M m1 hs hk a2)
    · have e : i = rk P 60 := by omega
      refine Sp.pos (nI_le (by omega) (by omega)) ?_
      rcases hx with ⟨a1, a2, a3⟩ | ⟨a1, a2⟩
      · refine fin k M m1 hs hk (fun w p z => ?_)
        have := cT_lt (P := P) (S := sNA P k) z.2.2.2.2.1 z.2.2.2.2.2.1 60 (hV.c60 z.2.2.2.2.1)
        omega
      · exact fin k M m1 hs hk a2
theorem k_seatAll {o n : Nat} {P : PAy} {M : Mem} (h : PO o) (c : CP o P M) (hV : VA P) (hn : 60 < n) : Sp (s5_seatAll n (o + 5) o M) (fun _ M' => CS o P (sit P) M' ∧ KS5 o M M') := by
  unfold s5_seatAll
  refine Sp.cb (k_measure h c hV hn) (fun r M1 g => ?_)
  exact k_seat9 h c hV hn n 0 0 1 M1 (Nat.zero_le _) (by have := hV.c11; omega) g.1 ⟨g.2.1, g.2.2.1, g.2.2.2⟩ (by decide) (Or.inl ⟨rfl, rfl, cT_0 60⟩)
