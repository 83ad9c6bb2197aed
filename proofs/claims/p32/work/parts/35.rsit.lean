/-! ===== the reference: sitting, a stop ===== -/
def Scn (w0 p0 w p : Nat) : Prop := w < w0 ∨ (w = w0 ∧ p < p0)
def Bnn (P : PAy) (S : Nat → Nat) (w0 p0 : Nat) : Prop := ∀ w p, Cnd P S w p → ¬ Scn w0 p0 w p
def Bbb (P : PAy) (S : Nat → Nat) (w0 p0 w p : Nat) : Prop := Cnd P S w p ∧ Scn w0 p0 w p ∧ ∀ w' p', Cnd P S w' p' → Scn w0 p0 w' p' → Lx P w p w' p'
theorem Scn_suc {w0 p0 w p : Nat} : Scn w0 (p0 + 1) w p ↔ Scn w0 p0 w p ∨ (w = w0 ∧ p = p0) := by
  unfold Scn; omega
theorem Bnn_skip {P : PAy} {S : Nat → Nat} {w0 p0 : Nat} (h : Bnn P S w0 p0) (hc : ¬ Cnd P S w0 p0) : Bnn P S w0 (p0 + 1) := fun w p h1 h2 => by
  rcases Scn_suc.mp h2 with q | ⟨q1, q2⟩
  · exact h w p h1 q
  · subst q1; subst q2; exact hc h1
theorem Bbb_skip {P : PAy} {S : Nat → Nat} {w0 p0 w p : Nat} (h : Bbb P S w0 p0 w p) (hc : ¬ Cnd P S w0 p0) : Bbb P S w0 (p0 + 1) w p :=
  ⟨h.1, Scn_suc.mpr (Or.inl h.2.1), fun w' p' h1 h2 => by
    rcases Scn_suc.mp h2 with q | ⟨q1, q2⟩
    · exact h.2.2 w' p' h1 q
    · subst q1; subst q2; exact absurd h1 hc⟩
theorem Lx_rf {P : PAy} {w p : Nat} : Lx P w p w p := Or.inr ⟨rfl, Or.inr ⟨rfl, Nat.le_refl _⟩⟩
theorem Bnn_take {P : PAy} {S : Nat → Nat} {w0 p0 : Nat} (h : Bnn P S w0 p0) (hc : Cnd P S w0 p0) : Bbb P S w0 (p0 + 1) w0 p0 :=
  ⟨hc, Scn_suc.mpr (Or.inr ⟨rfl, rfl⟩), fun w' p' h1 h2 => by
    rcases Scn_suc.mp h2 with q | ⟨q1, q2⟩
    · exact absurd q (h w' p' h1)
    · subst q1; subst q2; exact Lx_rf⟩
theorem Bbb_take {P : PAy} {S : Nat → Nat} {w0 p0 w p : Nat} (h : Bbb P S w0 p0 w p) (hc : Cnd P S w0 p0) (hl : hst P w0 p0 < hst P w p) : Bbb P S w0 (p0 + 1) w0 p0 :=
  ⟨hc, Scn_suc.mpr (Or.inr ⟨rfl, rfl⟩), fun w' p' h1 h2 => by
    rcases Scn_suc.mp h2 with q | ⟨q1, q2⟩
    · have := h.2.2 w' p' h1 q
      unfold Lx at this ⊢
      omega
    · subst q1; subst q2; exact Lx_rf⟩
theorem Bbb_keep {P : PAy} {S : Nat → Nat} {w0 p0 w p : Nat} (h : Bbb P S w0 p0 w p) (hl : hst P w p ≤ hst P w0 p0) : Bbb P S w0 (p0 + 1) w p :=
  ⟨h.1, Scn_suc.mpr (Or.inl h.2.1), fun w' p' h1 h2 => by
    rcases Scn_suc.mp h2 with q | ⟨q1, q2⟩
    · exact h.2.2 w' p' h1 q
    · have := h.2.1
      unfold Lx
      unfold Scn at this
      subst q1; subst q2
      omega⟩
theorem Bnn_row {P : PAy} {S : Nat → Nat} {w0 : Nat} (h : Bnn P S w0 (P 10 0)) : Bnn P S (w0 + 1) 0 := fun w p h1 h2 => by
  have hp := h1.2.2.2.1
  exact h w p h1 (by unfold Scn at h2 ⊢; omega)
theorem Bbb_row {P : PAy} {S : Nat → Nat} {w0 w p : Nat} (h : Bbb P S w0 (P 10 0) w p) : Bbb P S (w0 + 1) 0 w p :=
  ⟨h.1, by have := h.2.1; unfold Scn at this ⊢; omega, fun w' p' h1 h2 => h.2.2 w' p' h1 (by
    have hp := h1.2.2.2.1
    unfold Scn at h2 ⊢; omega)⟩
theorem Bnn_no {P : PAy} {S : Nat → Nat} {w0 : Nat} (h : Bnn P S w0 0) (hc : ∀ p, ¬ Cnd P S w0 p) : Bnn P S (w0 + 1) 0 := fun w p h1 h2 => by
  by_cases e : w = w0
  · subst e; exact hc p h1
  · exact h w p h1 (by unfold Scn at h2 ⊢; omega)
theorem Bbb_no {P : PAy} {S : Nat → Nat} {w0 w p : Nat} (h : Bbb P S w0 0 w p) (hc : ∀ p, ¬ Cnd P S w0 p) : Bbb P S (w0 + 1) 0 w p :=
  ⟨h.1, by have := h.2.1; unfold Scn at this ⊢; omega, fun w' p' h1 h2 => by
    by_cases e : w' = w0
    · subst e; exact absurd h1 (hc p')
    · exact h.2.2 w' p' h1 (by unfold Scn at h2 ⊢; omega)⟩
theorem Bnn_end {P : PAy} {S : Nat → Nat} (h : Bnn P S (P 10 1) 0) : ∀ w p, ¬ Cnd P S w p := fun w p h1 => h w p h1 (Or.inl h1.1)
theorem Bbb_end {P : PAy} {S : Nat → Nat} {w p : Nat} (h : Bbb P S (P 10 1) 0 w p) : Bst P S w p := ⟨h.1, fun w' p' h1 => h.2.2 w' p' h1 (Or.inl h1.1)⟩
/-- the best so far, as the reference holds it -/
def Rst (P : PAy) (S : Nat → Nat) (w0 p0 : Nat) (x1 x2 : Int32) : Prop := (x1 = -1 ∧ Bnn P S w0 p0) ∨ ∃ w p, x1 = nI w ∧ x2 = nI p ∧ Bbb P S w0 p0 w p
theorem Rst_skip {P : PAy} {S : Nat → Nat} {w0 p0 : Nat} {x1 x2 : Int32} (h : Rst P S w0 p0 x1 x2) (hc : ¬ Cnd P S w0 p0) : Rst P S w0 (p0 + 1) x1 x2 := by
  rcases h with ⟨a, b⟩ | ⟨w, p, a, b, c⟩
  · exact Or.inl ⟨a, Bnn_skip b hc⟩
  · exact Or.inr ⟨w, p, a, b, Bbb_skip c hc⟩
theorem Rst_row {P : PAy} {S : Nat → Nat} {w0 : Nat} {x1 x2 : Int32} (h : Rst P S w0 (P 10 0) x1 x2) : Rst P S (w0 + 1) 0 x1 x2 := by
  rcases h with ⟨a, b⟩ | ⟨w, p, a, b, c⟩
  · exact Or.inl ⟨a, Bnn_row b⟩
  · exact Or.inr ⟨w, p, a, b, Bbb_row c⟩
theorem Rst_no {P : PAy} {S : Nat → Nat} {w0 : Nat} {x1 x2 : Int32} (h : Rst P S w0 0 x1 x2) (hc : ∀ p, ¬ Cnd P S w0 p) : Rst P S (w0 + 1) 0 x1 x2 := by
  rcases h with ⟨a, b⟩ | ⟨w, p, a, b, c⟩
  · exact Or.inl ⟨a, Bnn_no b hc⟩
  · exact Or.inr ⟨w, p, a, b, Bbb_no c hc⟩
theorem r_seats38 {P : PAy} {M : Mem} {S : Nat → Nat} {n w0 : Nat} {k6 : Int32 → Int32 → Int32 → Mem → Option Res} {Q : Int32 → Mem → Prop} (h : RP P M) (hV : VA P) (hs : RS P S M) (h6 : S60 S) (hn : 60 < n) (hw : w0 < P 10 1) (h3 : P 3 w0 = 1) (hS : S w0 = 0) (hk : ∀ x1 x2, Rst P S (w0 + 1) 0 x1 x2 → Sp (k6 x1 x2 (nI (w0 + 1)) M) Q) : ∀ (f i : Nat) (x1 x2 : Int32), i ≤ P 10 0 → P 10 0 < i + f → Rst P S w0 i x1 x2 → Sp (s9_seatsOne_38 n k6 80 (nI w0) f x1 x2 (nI i) M) Q := by
  have hN : M 80 11 = nI (P 10 0) := h.one 0 (by decide)
  have h60 := hV.n60
  have h12 := hV.w12
  intro f
  induction f with
  | zero => intro i x1 x2 h1 h2; omega
  | succ f ih =>
    intro i x1 x2 h1 h2 hst0
    rw [s9_seatsOne_38, hN]
    by_cases q : i < P 10 0
    · have hin : inB (nI i) (alen (link 80 1)) := vp_in_nI (N := 60) (by omega) (by decide)
      have e : M (link 80 1) (nI i).toNatClampNeg = nI (P 0 i) := h.chc (by omega)
      have hc := hV.c1 i
      refine Sp.neg (nI_ge q (by omega)) (Sp.pos hin ?_)
      rw [e]
      have skip : ∀ x, x = nI (i + 1) → ¬ Cnd P S w0 i → Sp (s9_seatsOne_38 n k6 80 (nI w0) f x1 x2 x M) Q := fun x hx hno => by
        rw [hx]; exact ih (i + 1) x1 x2 (by omega) (by omega) (Rst_skip hst0 hno)
      by_cases q3 : P 0 i = 0
      · exact Sp.pos (by rw [q3]; rfl) (Sp.ilet (skip _ (nI_1 i) (fun z => by have := z.2.2.2.2.1; omega)))
      · have q3' : P 0 i = 1 := by omega
        refine Sp.neg (fun z => q3 ((nI_is0 (by omega)).mp z)) ?_
        rcases r_isSeat h hV hs h6 (p := i) (by omega) hn with ⟨e1, v, v1, v2⟩ | ⟨e1, e2⟩
        · refine Sp_cbe e1 (Sp.neg (by decide) (Sp.ilet (skip _ (nI_1 i) (fun z => z.2.2.2.2.2.1 v v1 v2))))
        · refine Sp_cbe e1 (Sp.pos rfl (Sp_cbe (r_mayReach h hV hw q) ?_))
          by_cases q5 : frA (P 10 0) (P 1 w0) i ≤ P 7 w0
          · rw [if_pos q5]
            have hC : Cnd P S w0 i := ⟨hw, h3, hS, q, q3', e2, q5⟩
            refine Sp.neg (by decide) ?_
            rcases hst0 with ⟨a, b⟩ | ⟨w, p, a, b, c⟩
            · refine Sp.pos (by rw [a]; decide) ?_
              unfold s9_seatsOne_102
              refine Sp.ilet ?_
              rw [nI_1]
              exact ih (i + 1) _ _ (by omega) (by omega) (Or.inr ⟨w0, i, rfl, rfl, Bnn_take b hC⟩)
            · have hwW := c.1.1
              have hpN := c.1.2.2.2.1
              have hb1 := hof_le (f := frA (P 10 0) (P 1 w0) i) (hV.w hw) (by have := fr_lt (hV.w hw).1 q h60; omega)
              have hb2 := hof_le (f := frA (P 10 0) (P 1 w) p) (hV.w hwW) (by have := fr_lt (hV.w hwW).1 hpN h60; omega)
              have hb1' : hst P w0 i ≤ 12000 := hb1
              have hb2' : hst P w p ≤ 12000 := hb2
              rw [a, b]
              refine Sp.neg (nI_pos (by omega)) (Sp_cbe (r_hasteOf h hV hw q) (Sp_cbe (r_hasteOf h hV hwW hpN) ?_))
              by_cases q7 : hst P w0 i < hst P w p
              · refine Sp.pos (nI_lt q7 (by omega)) ?_
                unfold s9_seatsOne_102
                refine Sp.ilet ?_
                rw [nI_1]
                exact ih (i + 1) _ _ (by omega) (by omega) (Or.inr ⟨w0, i, rfl, rfl, Bbb_take c hC q7⟩)
              · refine Sp.neg (nI_nlt (by omega) (by omega)) (Sp.ilet ?_)
                rw [nI_1]
                exact ih (i + 1) _ _ (by omega) (by omega) (Or.inr ⟨w, p, rfl, rfl, Bbb_keep c (by omega)⟩)
          · rw [if_neg q5]
            exact Sp.pos rfl (Sp.ilet (skip _ (nI_1 i) (fun z => q5 z.2.2.2.2.2.2)))
    · have e : i = P 10 0 := by omega
      subst e
      refine Sp.pos (nI_le (Nat.le_refl _) (by omega)) (Sp.ilet ?_)
      rw [nI_1]
      exact hk x1 x2 (Rst_row hst0)
theorem r_seats6 {P : PAy} {M : Mem} {S : Nat → Nat} {n : Nat} (h : RP P M) (hV : VA P) (hs : RS P S M) (h6 : S60 S) (hn : 60 < n) : ∀ (f i : Nat) (x1 x2 : Int32), i ≤ P 10 1 → P 10 1 < i + f → Rst P S i 0 x1 x2 → Sp (s9_seatsOne_6 n 80 f x1 x2 (nI i) M) (fun r M' => (r = 0 ∧ M' = M ∧ ∀ w p, ¬ Cnd P S w p) ∨ (r = 1 ∧ ∃ w p, Bst P S w p ∧ M' = mset M 99 w (nI p))) := by
  have hN : M 80 12 = nI (P 10 1) := h.one 1 (by decide)
  have h60 := hV.n60
  have h12 := hV.w12
  intro f
  induction f with
  | zero => intro i x1 x2 h1 h2; omega
  | succ f ih =>
    intro i x1 x2 h1 h2 hst0
    rw [s9_seatsOne_6, hN]
    by_cases q : i < P 10 1
    · have i4 : inB (nI i) (alen (link 80 4)) := vp_in_nI (N := 12) (by omega) (by decide)
      have i33 : inB (nI i) (alen (link 80 33)) := vp_in_nI (N := 12) (by omega) (by decide)
      have e4 : M (link 80 4) (nI i).toNatClampNeg = nI (P 3 i) := h.rowc 2 (by decide) (by omega)
      have e33 : M (link 80 33) (nI i).toNatClampNeg = sI (S i) := by rw [nI_clamp (by omega)]; exact hs i q
      have b3 := (hV.w q).2.2.1
      refine Sp.neg (nI_ge q (by omega)) (Sp.pos i4 ?_)
      rw [e4]
      by_cases q3 : P 3 i = 0
      · refine Sp.pos (by rw [q3]; rfl) (Sp.ilet ?_)
        rw [nI_1]
        exact ih (i + 1) _ _ (by omega) (by omega) (Rst_no hst0 (fun p z => by have := z.2.1; omega))
      · refine Sp.neg (fun z => q3 ((nI_is0 (by omega)).mp z)) (Sp.pos i33 ?_)
        rw [e33]
        by_cases q4 : S i = 0
        · refine Sp.pos ((sI_neg (h6 i)).mpr q4) ?_
          exact r_seats38 h hV hs h6 hn q (by omega) q4 (fun y1 y2 hy => ih (i + 1) y1 y2 (by omega) (by omega) hy) n 0 x1 x2 (Nat.zero_le _) (by omega) hst0
        · refine Sp.neg (fun z => q4 ((sI_neg (h6 i)).mp z)) (Sp.ilet ?_)
          rw [nI_1]
          exact ih (i + 1) _ _ (by omega) (by omega) (Rst_no hst0 (fun p z => q4 z.2.2.1))
    · have e : i = P 10 1 := by omega
      subst e
      refine Sp.pos (nI_le (Nat.le_refl _) (by omega)) ?_
      rcases hst0 with ⟨a, b⟩ | ⟨w, p, a, b, c⟩
      · refine Sp.neg (by rw [a]; decide) (Sp.ret (Or.inl ⟨rfl, rfl, Bnn_end b⟩))
      · have hB := Bbb_end c
        have hwW := hB.1.1
        have i33 : inB (nI w) (alen (link 80 33)) := vp_in_nI (N := 12) (by omega) (by decide)
        rw [a, b]
        refine Sp.pos (nI_pos' (by omega)) (Sp.pos i33 (Sp.mlet (Sp.ret (Or.inr ⟨rfl, w, p, hB, ?_⟩))))
        rw [nI_clamp (by omega)]; rfl
theorem r_seatsOne {P : PAy} {M : Mem} {S : Nat → Nat} {n : Nat} (h : RP P M) (hV : VA P) (hs : RS P S M) (h6 : S60 S) (hn : 60 < n) : Sp (s9_seatsOne n 80 M) (fun r M' => (r = 0 ∧ M' = M ∧ ∀ w p, ¬ Cnd P S w p) ∨ (r = 1 ∧ ∃ w p, Bst P S w p ∧ M' = mset M 99 w (nI p))) :=
  r_seats6 h hV hs h6 hn n 0 _ _ (Nat.zero_le _) (by have := hV.w12; omega) (Or.inl ⟨rfl, fun w p _ z => by unfold Scn at z; omega⟩)
/-- only the seats differ -/
def R99 (M M' : Mem) : Prop := ∀ q, q ≠ 99 → M' q = M q
theorem R99.rf {M : Mem} : R99 M M := fun _ _ => rfl
theorem R99.tr {M M' M'' : Mem} (h : R99 M M') (h' : R99 M' M'') : R99 M M'' := fun q a => (h' q a).trans (h q a)
theorem R99.st {M : Mem} {k : Nat} {v : Int32} : R99 M (mset M 99 k v) := fun _ a => ms_ne a
theorem R99.rp {P : PAy} {M M' : Mem} (h : R99 M M') (r : RP P M) : RP P M' := r.frA (fun s _ => by rw [h 80 (by decide)]) (fun q h1 h2 => h q (by omega))
theorem R99.RF {M M' : Mem} (h : R99 M M') : RF M M' := ⟨fun q _ b _ => h q b, fun k _ => by rw [h 80 (by decide)]⟩
theorem RS.st {P : PAy} {S : Nat → Nat} {M : Mem} {w p : Nat} (h : RS P S M) : RS P (fun v => if v = w then p + 1 else S v) (mset M 99 w (nI p)) := fun v hv => by
  show mset M 99 w (nI p) 99 v = sI (if v = w then p + 1 else S v)
  by_cases e : v = w
  · subst e; rw [ms_eq, if_pos rfl]; unfold sI; rw [if_neg (by omega)]; rfl
  · rw [ms_ne2 e, if_neg e]; exact h v hv
theorem r_sit23 {P : PAy} {n : Nat} {Q : Int32 → Mem → Prop} (hV : VA P) (hn : 60 < n) : ∀ (f k : Nat) (M : Mem), 12 < k + f → RP P M → RS P (sNA P k) M → cT P (sNA P k) 60 = k → (∀ M', R99 M M' → RP P M' → RS P (sNA P 12) M' → Sp (s9_sit_37 n 80 n 0 M') Q) → Sp (s9_sit_23 n 80 f 1 M) Q := by
  intro f
  induction f with
  | zero =>
    intro k M h1 h2 h3 h4
    have := cT_le (P := P) (S := sNA P k) 60
    have := hV.c11
    omega
  | succ f ih =>
    intro k M h1 h2 h3 h4 h5
    rw [s9_sit_23]
    refine Sp.neg (by decide) (Sp.cb (r_seatsOne h2 hV h3 ((SV_sN hV k).s60 hV) hn) (fun r M' hr => ?_))
    rcases hr with ⟨rfl, rfl, hno⟩ | ⟨rfl, w, p, hB, rfl⟩
    · have hle := cT_le (P := P) (S := sNA P k) 60
      have h11 := hV.c11
      have e : sNA P 12 = sNA P k := by
        have := sN_fix hno (12 - k)
        rw [show k + (12 - k) = 12 by omega] at this
        exact this
      cases f with
      | zero => omega
      | succ f =>
        rw [s9_sit_23]
        refine Sp.pos rfl ?_
        exact h5 _ R99.rf h2 (by rw [e]; exact h3)
    · have e1 : sNA P (k + 1) = fun v => if v = w then p + 1 else sNA P k v := sn_best hV hB
      refine ih (k + 1) _ (by omega) (R99.st.rp h2) (by rw [e1]; exact h3.st) ?_ (fun M'' a b c => h5 M'' (R99.st.tr a) b c)
      rw [e1, cT_step hB.1 60, h4, if_pos (hV.c60 hB.1.2.2.2.2.1)]
theorem r_judges2 {P : PAy} {M : Mem} {S : Nat → Nat} {n j : Nat} (h : RP P M) (hV : VA P) (hs : RS P S M) (hSV : SV P S) (hn : 60 < n) (hj : S j ≠ 0) : ∀ (f i : Nat), i ≤ P 10 1 → P 10 1 < i + f → (∀ u, u < i → ¬ Gv P S j u) → Sp (s9_judges_2 n 80 (nI j) f (nI i) M) (fun _ M' => RS P (jd P S j) M' ∧ R99 M M') := by
  have hN : M 80 12 = nI (P 10 1) := h.one 1 (by decide)
  have h60 := hV.n60
  have h12 := hV.w12
  have h6 := hSV.s60 hV
  obtain ⟨j1, j2, j3⟩ := hSV j hj
  have hpN := hV.cN j3
  have ej : sI (S j) = nI (S j - 1) := if_neg hj
  have e33 : M (link 80 33) (nI j).toNatClampNeg = nI (S j - 1) := by rw [nI_clamp (by omega), ← ej]; exact hs j j1
  have ij : inB (nI j) (alen (link 80 33)) := vp_in_nI (N := 12) (by omega) (by decide)
  intro f
  induction f with
  | zero => intro i h1 h2; omega
  | succ f ih =>
    intro i h1 h2 hno
    rw [s9_judges_2, hN]
    by_cases q : i < P 10 1
    · have i4 : inB (nI i) (alen (link 80 4)) := vp_in_nI (N := 12) (by omega) (by decide)
      have i33 : inB (nI i) (alen (link 80 33)) := vp_in_nI (N := 12) (by omega) (by decide)
      have e4 : M (link 80 4) (nI i).toNatClampNeg = nI (P 3 i) := h.rowc 2 (by decide) (by omega)
      have ei : M (link 80 33) (nI i).toNatClampNeg = sI (S i) := by rw [nI_clamp (by omega)]; exact hs i q
      have b3 := (hV.w q).2.2.1
      refine Sp.neg (nI_ge q (by omega)) (Sp.pos i4 ?_)
      rw [e4]
      have skip : ∀ x, x = nI (i + 1) → ¬ Gv P S j i → Sp (s9_judges_2 n 80 (nI j) f x M) (fun _ M' => RS P (jd P S j) M' ∧ R99 M M') := fun x hx hg => by
        rw [hx]; exact ih (i + 1) (by omega) (by omega) (fun u hu => by
          by_cases e : u = i
          · subst e; exact hg
          · exact hno u (by omega))
      by_cases q3 : P 3 i = 0
      · exact Sp.pos (by rw [q3]; rfl) (Sp.ilet (skip _ (nI_1 i) (fun z => by have := z.2.1; omega)))
      · refine Sp.neg (fun z => q3 ((nI_is0 (by omega)).mp z)) (Sp.pos i33 ?_)
        rw [ei]
        by_cases q4 : S i = 0
        · refine Sp.neg (fun z => (sI_nn (h6 i)).mp z q4) (Sp.pos ij ?_)
          rw [e33]
          refine Sp_cbe (r_mayReach h hV q hpN) ?_
          by_cases q5 : frA (P 10 0) (P 1 i) (S j - 1) ≤ P 7 i
          · rw [if_pos q5]
            refine Sp.neg (by decide) (Sp.pos ij ?_)
            rw [e33]
            refine Sp_cbe (r_hasteOf h hV q hpN) (Sp.pos ij ?_)
            rw [e33]
            refine Sp_cbe (r_hasteOf h hV j1 hpN) ?_
            have hb1 : hst P i (S j - 1) ≤ 12000 := hof_le (hV.w q) (by have := fr_lt (hV.w q).1 hpN h60; omega)
            have hb2 : hst P j (S j - 1) ≤ 12000 := hof_le (hV.w j1) (by have := fr_lt (hV.w j1).1 hpN h60; omega)
            by_cases q6 : hst P i (S j - 1) ≤ hst P j (S j - 1)
            · refine Sp.pos (nI_le q6 (by omega)) (Sp.pos ij (Sp.pos i33 (Sp.mlet (Sp.pos ij (Sp.mlet (Sp.ret ⟨?_, R99.st.tr R99.st⟩))))))
              have hF : FstA (Gv P S j) i := ⟨⟨q, by omega, q4, q5, q6⟩, hno⟩
              rw [e33, jd_some hF, nI_clamp (by omega), nI_clamp (by omega)]
              have hne : i ≠ j := fun z => by subst z; exact hj q4
              intro u hu
              show mset (mset M 99 i (nI (S j - 1))) 99 j (-1) 99 u = sI (if u = j then 0 else if u = i then S j else S u)
              by_cases z : u = j
              · subst z; rw [ms_eq, if_pos rfl]; rfl
              · rw [ms_ne2 z, if_neg z]
                by_cases z2 : u = i
                · subst z2; rw [ms_eq, if_pos rfl]; exact ej.symm
                · rw [ms_ne2 z2, if_neg z2]; exact hs u hu
            · refine Sp.neg (nI_ge (by omega) (by omega)) (Sp.ilet (skip _ (nI_1 i) (fun z => q6 z.2.2.2.2)))
          · rw [if_neg q5]
            exact Sp.pos rfl (Sp.ilet (skip _ (nI_1 i) (fun z => q5 z.2.2.2.1)))
        · exact Sp.pos ((sI_nn (h6 i)).mpr q4) (Sp.ilet (skip _ (nI_1 i) (fun z => q4 z.2.2.1)))
    · have e : i = P 10 1 := by omega
      subst e
      refine Sp.pos (nI_le (Nat.le_refl _) (by omega)) (Sp.ret ⟨?_, R99.rf⟩)
      rw [jd_none (fun v z => hno v z.1 z)]
      exact hs
theorem r_sit37 {P : PAy} {n : Nat} {S : Nat → Nat} (hV : VA P) (hSV : SV P S) (hn : 60 < n) : ∀ (f i : Nat) (M : Mem), i ≤ P 10 1 → P 10 1 < i + f → RP P M → RS P (ja P S i) M → Sp (s9_sit_37 n 80 f (nI i) M) (fun _ M' => RS P (ja P S (P 10 1)) M' ∧ R99 M M') := by
  have h12 := hV.w12
  intro f
  induction f with
  | zero => intro i M h1 h2; omega
  | succ f ih =>
    intro i M h1 h2 h hs
    have hN : M 80 12 = nI (P 10 1) := h.one 1 (by decide)
    have hSi := SV_ja hSV i
    have h6 := hSi.s60 hV
    rw [s9_sit_37, hN]
    by_cases q : i < P 10 1
    · have i4 : inB (nI i) (alen (link 80 4)) := vp_in_nI (N := 12) (by omega) (by decide)
      have i5 : inB (nI i) (alen (link 80 5)) := vp_in_nI (N := 12) (by omega) (by decide)
      have i33 : inB (nI i) (alen (link 80 33)) := vp_in_nI (N := 12) (by omega) (by decide)
      have e4 : M (link 80 4) (nI i).toNatClampNeg = nI (P 3 i) := h.rowc 2 (by decide) (by omega)
      have e5 : M (link 80 5) (nI i).toNatClampNeg = nI (P 4 i) := h.rowc 3 (by decide) (by omega)
      have ei : M (link 80 33) (nI i).toNatClampNeg = sI (ja P S i i) := by rw [nI_clamp (by omega)]; exact hs i q
      obtain ⟨-, -, b3, b4, -⟩ := hV.w q
      have en : ja P S (i + 1) = if P 3 i = 1 ∧ P 4 i = 6 ∧ ja P S i i ≠ 0 then jd P (ja P S i) i else ja P S i := rfl
      refine Sp.neg (nI_ge q (by omega)) (Sp.pos i4 ?_)
      rw [e4]
      have skip : ∀ x, x = nI (i + 1) → ¬ (P 3 i = 1 ∧ P 4 i = 6 ∧ ja P S i i ≠ 0) → Sp (s9_sit_37 n 80 f x M) (fun _ M' => RS P (ja P S (P 10 1)) M' ∧ R99 M M') := fun x hx hg => by
        rw [hx]; exact ih (i + 1) M (by omega) (by omega) h (by rw [en, if_neg hg]; exact hs)
      by_cases q3 : P 3 i = 1
      · refine Sp.pos (by rw [q3]; rfl) (Sp.pos i5 ?_)
        rw [e5]
        by_cases q4 : P 4 i = 6
        · refine Sp.pos (by rw [q4]; rfl) (Sp.pos i33 ?_)
          rw [ei]
          by_cases q5 : ja P S i i = 0
          · exact Sp.pos ((sI_neg (h6 i)).mpr q5) (Sp.ilet (skip _ (nI_1 i) (fun z => z.2.2 q5)))
          · refine Sp.neg (fun z => q5 ((sI_neg (h6 i)).mp z)) ?_
            refine Sp.cb (r_judges2 h hV hs hSi hn q5 n 0 (Nat.zero_le _) (by omega) (fun u hu => by omega)) (fun r M1 h3 => Sp.ilet ?_)
            rw [nI_1]
            refine (ih (i + 1) M1 (by omega) (by omega) (h3.2.rp h) (by rw [en, if_pos ⟨q3, q4, q5⟩]; exact h3.1)).mono (fun r M2 h4 => ⟨h4.1, h3.2.tr h4.2⟩)
        · exact Sp.neg (fun z => q4 ((nI_is6 (by omega)).mp z)) (Sp.ilet (skip _ (nI_1 i) (fun z => q4 z.2.1)))
      · exact Sp.neg (fun z => q3 ((nI_is1 (by omega)).mp z)) (Sp.ilet (skip _ (nI_1 i) (fun z => q3 z.1)))
    · have e : i = P 10 1 := by omega
      subst e
      exact Sp.pos (nI_le (Nat.le_refl _) (by omega)) (Sp.ret ⟨hs, R99.rf⟩)
theorem r_sit2 {n : Nat} {Q : Int32 → Mem → Prop} : ∀ (f i : Nat) (M : Mem), i ≤ 12 → 12 < i + f → (∀ w, w < i → M 99 w = -1) → (∀ M', R99 M M' → (∀ w, w < 12 → M' 99 w = -1) → Sp (s9_sit_23 n 80 n 1 M') Q) → Sp (s9_sit_2 n 80 f (nI i) M) Q := by
  intro f
  induction f with
  | zero => intro i M h1 h2; omega
  | succ f ih =>
    intro i M h1 h2 h3 hk
    rw [s9_sit_2]
    by_cases q : i < 12
    · have i33 : inB (nI i) (alen (link 80 33)) := vp_in_nI (N := 12) q (by decide)
      refine Sp.neg (nI_ge (b := 12) q (by decide)) (Sp.pos i33 (Sp.mlet (Sp.ilet ?_)))
      rw [nI_1, nI_clamp (by omega)]
      refine ih (i + 1) _ (by omega) (by omega) (fun w hw => ?_) (fun M' a b => hk M' (R99.st.tr a) b)
      show mset M 99 i (-1) 99 w = -1
      by_cases e : w = i
      · subst e; exact ms_eq
      · rw [ms_ne2 e]; exact h3 w (by omega)
    · have e : i = 12 := by omega
      subst e
      exact Sp.pos (by decide) (hk M R99.rf h3)
theorem r_sit {P : PAy} {M : Mem} {n : Nat} (h : RP P M) (hV : VA P) (hn : 60 < n) : Sp (s9_sit n 80 M) (fun _ M' => RS P (sit P) M' ∧ R99 M M') := by
  have h12 := hV.w12
  refine r_sit2 n 0 M (by decide) (by omega) (fun w hw => by omega) (fun M1 a b => ?_)
  have hs0 : RS P (sNA P 0) M1 := fun w hw => by
    rw [b w (by omega)]; rfl
  exact r_sit23 (Q := fun _ M' => RS P (sit P) M' ∧ R99 M M') hV hn n 0 M1 (by omega) (a.rp h) hs0 (cT_0 60) (fun M2 c d e =>
    (r_sit37 hV (SV_sN hV 12) hn n 0 M2 (Nat.zero_le _) (by omega) d e).mono (fun r M3 g => ⟨g.1, (a.tr c).tr g.2⟩))
