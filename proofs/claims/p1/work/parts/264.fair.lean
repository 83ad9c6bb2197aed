/-! ===== p1: fair ===== -/
theorem mrow_F9 {M : Mem} {o : Nat} {f : Nat → Int32} (h : F9 M) (ho : o < 80) : F9 (mrow M o f) := fun q h1 h2 => by
  show (if q = o then f else M q) = M0 q
  rw [if_neg (by omega)]; exact h q h1 h2
theorem mw_ne {M : Mem} {o q : Nat} {f : Nat → Int32} (h : q ≠ o) : mrow M o f q = M q := if_neg h
/-- the party in mind has nobody and no chair -/
def CF (M : Mem) : Prop := M 34 5 = 0 ∧ M 35 1 = 0 ∧ M 11 5 = 0 ∧ F9 M
theorem CF.set {M : Mem} {o k : Nat} {v : Int32} (h : CF M) (ho : o < 80) (h1 : o ≠ 34) (h2 : o ≠ 35) (h3 : o ≠ 11) : CF (mset M o k v) := by
  refine ⟨?_, ?_, ?_, h.2.2.2.set ho⟩
  · rw [ms_ne (Ne.symm h1)]; exact h.1
  · rw [ms_ne (Ne.symm h2)]; exact h.2.1
  · rw [ms_ne (Ne.symm h3)]; exact h.2.2.1
theorem bec4 : Sp (s4_become (link (link 2 1) 0) (link (link 2 0) 0) M0) (fun _ M' => F9 M' ∧ M' 11 = M0 11 ∧ M' 15 = M0 15 ∧ M' 21 = M0 21 ∧ M' 35 1 = 0) := by
  unfold s4_become
  refine Sp.mlet (Sp.mlet (Sp.mlet (Sp.pos (by decide +kernel) (Sp.mlet (Sp.ret ⟨?_, rfl, rfl, rfl, rfl⟩)))))
  exact mrow_F9 (mrow_F9 ((F9_0.set (by decide)).set (by decide)) (by decide)) (by decide)
theorem bec3 {M : Mem} (h : F9 M ∧ M 11 = M0 11 ∧ M 15 = M0 15 ∧ M 21 = M0 21 ∧ M 35 1 = 0) : Sp (s3_become (link (link 2 1) 1) (link (link 2 0) 1) M) (fun _ M' => F9 M' ∧ M' 11 = M0 11 ∧ M' 21 = M0 21 ∧ M' 35 1 = 0) := by
  unfold s3_become
  refine Sp.mlet (Sp.mlet (Sp.mlet (Sp.ret ⟨((h.1.set (by decide)).set (by decide)).set (by decide), ?_, ?_, ?_⟩)))
  · exact h.2.1
  · exact h.2.2.2.1
  · exact h.2.2.2.2
theorem bec : Sp (s2_become 300 (link 2 1) (link 2 0) M0) (fun _ M' => CF M') := by
  unfold s2_become
  refine Sp.cb bec4 (fun _ M1 h1 => Sp.cb (bec3 h1) (fun _ M2 h2 => Sp.mlet ?_))
  obtain ⟨f2, e11, e21, e35⟩ := h2
  rw [s2_become_32]
  have e0 : (M2 (link 2 0) 5) = 0 := by show M2 11 5 = 0; rw [e11]; rfl
  refine Sp.pos (by rw [e0]; show (mset M2 34 5 0) 34 5 ≤ 0; rw [ms_eq]; decide) ?_
  unfold s2_become_67
  refine Sp.pos ?_ (Sp.mlet (Sp.mlet (Sp.mlet (Sp.mlet (Sp.pos ?_ (Sp.mlet (Sp.ret ?_)))))))
  · show bzAll (M2 21) 60 = true
    rw [e21]; decide +kernel
  · show bz (M2 11 9)
    rw [e11]; decide
  · rw [e0]
    refine ⟨rfl, e35, ?_, ?_⟩
    · show M2 11 5 = 0
      rw [e11]; rfl
    · exact ((((mrow_F9 (f2.set (by decide)) (by decide)).set (by decide)).set (by decide)).set (by decide)).set (by decide)
theorem seat0 {M : Mem} (h : CF M) : Sp (s5_seatAll 300 (link (link 2 1) 2) (link 2 1) M) (fun _ M' => CF M' ∧ M' 39 3 = 0) := by
  unfold s5_seatAll
  have hm : Sp (s5_measure 300 (link (link 2 1) 2) (link 2 1) M) (fun _ M' => CF M' ∧ M' 39 3 = 0 ∧ M' 39 4 = 0) := by
    unfold s5_measure
    have e5 : M (link 2 1) 5 = 0 := h.1
    refine Sp.neg (by rw [e5]; decide) ?_
    unfold s5_measure_19
    rw [e5]
    have hc : CF (mset M 39 3 0) := h.set (by decide) (by decide) (by decide) (by decide)
    refine Sp.mlet (Sp.neg (by show ¬ (11 : Int32) ≤ mset M 39 3 0 35 1; rw [hc.2.1]; decide) (Sp.mlet ?_))
    have e1 : mset M (link (link 2 1) 2) 3 0 (link (link 2 1) 0) 1 = 0 := hc.2.1
    rw [e1, s5_measure_52]
    have h2 : CF (mset (mset M 39 3 0) 39 4 0) := hc.set (by decide) (by decide) (by decide) (by decide)
    refine Sp.pos (show (0 : Int32) ≤ 0 by decide) ?_
    rw [s5_measure_75]
    exact Sp.pos (show (0 : Int32) ≤ 0 by decide) (Sp.ret ⟨h2, rfl, rfl⟩)
  refine Sp.cb hm (fun _ M1 h1 => ?_)
  rw [s5_seatAll_9]
  refine Sp.pos (by show M1 39 4 ≤ 0; rw [h1.2.2]; decide) ?_
  rw [s5_seatAll_34]
  exact Sp.pos (by show M1 39 3 ≤ 0; rw [h1.2.1]; decide) (Sp.ret ⟨h1.1, h1.2.1⟩)
theorem behind0 {M : Mem} (h : CF M) : Sp (s0_seatBehindTenth 300 2 M) (fun _ M' => CF M' ∧ M' 39 3 = 0) := by
  unfold s0_seatBehindTenth
  have hw : s2_walkAll 300 (link 2 1) M = some (0, M) := by
    unfold s2_walkAll
    rw [s2_walkAll_2, if_pos (by show M 34 5 ≤ 0; rw [h.1]; decide)]
  refine Sp_cbe hw (Sp.cb (seat0 h) (fun _ M1 h1 => Sp.ret h1))
theorem seated0 (x : Int32) {M : Mem} (h : M 39 3 = 0) : s5_isSeated (link (link 2 1) 2) x M = some (0, M) := by
  unfold s5_isSeated
  by_cases hx : x < 0
  · rw [if_pos hx]
  · rw [if_neg hx, if_pos (by show M 39 3 ≤ x; rw [h]; exact Ile hx)]
theorem cnt45 {k34 : Int32 → Mem → Option Res} {x1 x2 : Int32} {Q : Int32 → Mem → Prop} (hk : ∀ M, CF M → Sp (k34 (x2 + 1) M) Q) : ∀ (f i : Nat) (M : Mem), i ≤ 12 → 12 < i + f → CF M → M 39 3 = 0 → Sp (s0_countSeatedTimes_45 300 k34 2 x1 x2 f (nI i) M) Q := by
  intro f
  induction f with
  | zero => intro i M h1 h2; omega
  | succ f ih =>
    intro i M h1 h2 hc hs
    rw [s0_countSeatedTimes_45]
    refine Sp.ite (fun _ => Sp.ilet (hk M hc)) (fun h => ?_)
    have hi : i < 12 := Nat.not_le.mp (fun q => h (nI_le (a := 12) (b := i) q (by omega)))
    have hin : inB (nI i) (alen (link 2 2)) := vp_in_nI (N := 12) hi (by decide)
    refine Sp.pos hin (Sp_cbe (seated0 _ hs) (Sp.pos rfl (Sp.pos hin (Sp.mlet (Sp.ilet ?_)))))
    rw [nI_1]
    exact ih (i + 1) _ (by omega) (by omega) (hc.set (by decide) (by decide) (by decide) (by decide)) (by show mset M 3 _ _ 39 3 = 0; rw [ms_ne (by decide)]; exact hs)
theorem cnt34 {n : Nat} (hn : n ≤ 200) : ∀ (f i : Nat) (M : Mem), i ≤ n → n < i + f → CF M → Sp (s0_countSeatedTimes_34 300 2 (nI n) f (nI i) M) (fun _ M' => CF M') := by
  intro f
  induction f with
  | zero => intro i M h1 h2; omega
  | succ f ih =>
    intro i M h1 h2 hc
    rw [s0_countSeatedTimes_34]
    refine Sp.ite (fun _ => Sp.ret hc) (fun h => ?_)
    have hi : i < n := Nat.not_le.mp (fun q => h (nI_le q (by omega)))
    refine Sp.cb (behind0 hc) (fun _ M1 h3 => ?_)
    refine cnt45 (fun M2 h4 => ?_) 300 0 M1 (by omega) (by omega) h3.1 h3.2
    rw [nI_1]
    exact ih (i + 1) M2 (by omega) (by omega) h4
theorem cnt13 {n : Nat} (hn : n ≤ 200) : ∀ (f i : Nat) (M : Mem), i ≤ 12 → 12 < i + f → CF M → Sp (s0_countSeatedTimes_13 300 2 (nI n) f (nI i) M) (fun _ M' => CF M') := by
  intro f
  induction f with
  | zero => intro i M h1 h2; omega
  | succ f ih =>
    intro i M h1 h2 hc
    rw [s0_countSeatedTimes_13]
    refine Sp.ite (fun _ => cnt34 hn 300 0 M (by omega) (by omega) hc) (fun h => ?_)
    have hi : i < 12 := Nat.not_le.mp (fun q => h (nI_le (a := 12) (b := i) q (by omega)))
    refine Sp.pos (show inB (nI i) (alen (link 2 2)) from vp_in_nI (N := 12) hi (by decide)) (Sp.mlet (Sp.ilet ?_))
    rw [nI_1]
    exact ih (i + 1) _ (by omega) (by omega) (hc.set (by decide) (by decide) (by decide) (by decide))
theorem unf12 {n : Nat} (hn : n ≤ 200) : ∀ (f i : Nat) (M : Mem), i ≤ 12 → 12 < i + f → CF M → Sp (s0_unfairness_12 300 2 f 0 (nI n) (nI i) M) (fun r M' => r = 0 ∧ F9 M') := by
  intro f
  induction f with
  | zero => intro i M h1 h2; omega
  | succ f ih =>
    intro i M h1 h2 hc
    rw [s0_unfairness_12]
    refine Sp.ite (fun _ => Sp.ret ⟨?_, hc.2.2.2⟩) (fun h => ?_)
    · refine if_neg ?_
      have e := pk_sub_toInt (a := 0) (b := n) (by decide) (by omega)
      intro q
      have q2 : (0 : Int32) < nI 0 - nI n := q
      rw [Int32.lt_iff_toInt_lt, e] at q2
      have : (0 : Int32).toInt = 0 := by decide
      omega
    · have hi : i < 12 := Nat.not_le.mp (fun q => h (nI_le (a := 12) (b := i) q (by omega)))
      have hk : s2_knowsIn (link 2 0) (nI i) M = some (0, M) := k_knowsIn (nI i) M hc.2.2.1
      refine Sp_cbe hk (Sp.pos rfl (Sp.ilet ?_))
      rw [nI_1]
      exact ih (i + 1) M (by omega) (by omega) hc
theorem cl_fair {n : Nat} (hn : n ≤ 200) : Sp (s0_unfairness 300 (link 0 0) (nI n) M0) (fun r M' => r = 0 ∧ F9 M') := by
  unfold s0_unfairness s0_countSeatedTimes
  refine Sp.cb (P := fun _ M' => CF M') (Sp.cb bec (fun _ M1 h1 => cnt13 hn 300 0 M1 (by omega) (by omega) h1)) (fun _ M2 h2 => ?_)
  exact unf12 hn 300 0 M2 (by omega) (by omega) h2
/-! the reference -/
theorem sit2_0 {Q : Int32 → Mem → Prop} : ∀ (f i : Nat) (M : Mem), i ≤ 12 → 12 < i + f → M 80 12 = 0 → (∀ M', M' 80 = M 80 → M' 98 = M 98 → Q 0 M') → Sp (s9_sit_2 300 80 f (nI i) M) Q := by
  intro f
  induction f with
  | zero => intro i M h1 h2; omega
  | succ f ih =>
    intro i M h1 h2 h12 hQ
    rw [s9_sit_2]
    refine Sp.ite (fun _ => ?_) (fun h => ?_)
    · rw [s9_sit_23]
      refine Sp.neg (by decide) ?_
      have h1 : s9_seatsOne 300 80 M = some (0, M) := by
        unfold s9_seatsOne
        rw [s9_seatsOne_6, if_pos (by rw [h12]; decide), if_neg (by decide)]
      refine Sp_cbe h1 ?_
      rw [s9_sit_23]
      refine Sp.pos rfl ?_
      rw [s9_sit_37]
      exact Sp.pos (by rw [h12]; decide) (Sp.ret (hQ M rfl rfl))
    · have hi : i < 12 := Nat.not_le.mp (fun q => h (nI_le (a := 12) (b := i) q (by omega)))
      refine Sp.pos (show inB (nI i) (alen (link 80 33)) from vp_in_nI (N := 12) hi (by decide)) (Sp.mlet (Sp.ilet ?_))
      rw [nI_1]
      refine ih (i + 1) _ (by omega) (by omega) (by rw [ms_ne (show 80 ≠ link 80 33 by decide +kernel)]; exact h12) (fun M' e1 e2 => hQ M' ?_ ?_)
      · rw [e1, ms_ne (show 80 ≠ link 80 33 by decide +kernel)]
      · rw [e2, ms_ne (show 98 ≠ link 80 33 by decide +kernel)]
theorem odds43 {n : Nat} (hn : n ≤ 200) : ∀ (f i : Nat) (M : Mem), i ≤ n → n < i + f → M 80 12 = 0 → M 98 369 = 0 → Sp (s9_findOdds_43 300 80 (nI n) (-1) (-1) f (nI i) M) (fun _ M' => M' 80 12 = 0) := by
  intro f
  induction f with
  | zero => intro i M h1 h2; omega
  | succ f ih =>
    intro i M h1 h2 h12 h98
    rw [s9_findOdds_43]
    refine Sp.ite (fun _ => ?_) (fun h => ?_)
    · refine Sp.cb (backAll (b := 200) (by decide) (by decide) (by decide) M) (fun _ M1 h3 => Sp.ret ?_)
      have e := h3.2.2.2.2 169 (by decide)
      have e2 : kc M1 169 = M1 80 12 := kc_one (s := 1)
      rw [← e2, e]
      exact h98
    · have hw : s9_walks 300 80 M = some (0, M) := by
        unfold s9_walks
        rw [s9_walks_2, if_pos (by rw [h12]; decide)]
      refine Sp_cbe hw ?_
      unfold s9_sit
      refine Sp.cb (sit2_0 (Q := fun _ M' => M' 80 = M 80 ∧ M' 98 = M 98) 300 0 M (by omega) (by omega) h12 (fun M' e1 e2 => ⟨e1, e2⟩)) (fun _ M1 h3 => ?_)
      rw [s9_findOdds_60]
      refine Sp.pos (by rw [h3.1, h12]; decide) (Sp.neg (by decide) (Sp.ilet ?_))
      rw [nI_1]
      have hi : i < n := Nat.not_le.mp (fun q => h (nI_le q (by omega)))
      exact ih (i + 1) M1 (by omega) (by omega) (by rw [h3.1]; exact h12) (by rw [h3.2]; exact h98)
theorem odds9 {n : Nat} (hn : n ≤ 200) : ∀ (f i : Nat) (M : Mem), i ≤ 12 → 12 < i + f → M 80 12 = 0 → M 98 369 = 0 → Sp (s9_findOdds_9 300 80 (nI n) (-1) (-1) f (nI i) M) (fun _ M' => M' 80 12 = 0) := by
  intro f
  induction f with
  | zero => intro i M h1 h2; omega
  | succ f ih =>
    intro i M h1 h2 h12 h98
    rw [s9_findOdds_9]
    refine Sp.ite (fun _ => Sp.mlet (Sp.mlet ?_)) (fun h => ?_)
    · exact odds43 hn 300 0 _ (by omega) (by omega) (by rw [ms_ne2 (by decide), ms_ne2 (by decide)]; exact h12) (by rw [ms_ne (by decide), ms_ne (by decide)]; exact h98)
    · have hi : i < 12 := Nat.not_le.mp (fun q => h (nI_le (a := 12) (b := i) q (by omega)))
      refine Sp.pos (show inB (nI i) (alen (link 80 34)) from vp_in_nI (N := 12) hi (by decide)) (Sp.mlet (Sp.ilet ?_))
      rw [nI_1]
      exact ih (i + 1) _ (by omega) (by omega) (by rw [ms_ne (show 80 ≠ link 80 34 by decide +kernel)]; exact h12) (by rw [ms_ne (show 98 ≠ link 80 34 by decide +kernel)]; exact h98)
theorem B_fair (x : Int32) : Ag M0 (fun _ => True) (s8_fair 300 0 x) (s9_fair 300 80 x) := by
  rcases wy_cases x 1 200 with ⟨h, h1⟩ | ⟨h, h1, h2⟩ | ⟨h, h1, h2⟩
  · exact Ag_mk (by unfold s8_fair; rw [k_within, h]; rfl) (by unfold s9_fair; rw [k_bound, h]; rfl)
  · exact Ag_mk (by unfold s8_fair; rw [k_within, h]; rfl) (by unfold s9_fair; rw [k_bound, h]; rfl)
  · obtain ⟨n, hn, rfl⟩ := few 201 (by decide) (Int32.le_trans (by decide) h1) (Int32.lt_of_le_of_lt h2 (by decide))
    refine Ag_sp (P := fun r M' => r = 0 ∧ F9 M') ?_ ?_
    · show Sp (s8_fair 300 0 (nI n) M0) _
      unfold s8_fair
      rw [k_within, h, cb_some, if_pos rfl]
      exact Sp.cb (cl_fair (n := n) (by omega)) (fun r M h => Sp.ret h)
    · intro r M1 ⟨hr, hF⟩
      subst hr
      have h80 : M1 80 = M0 80 := hF 80 (by decide) (by decide)
      show Sp (s9_fair 300 80 (nI n) M1) _
      unfold s9_fair
      rw [k_bound, h, cb_some, if_pos (by decide)]
      have hfo : Sp (s9_findOdds 300 80 (nI n) (-1) (-1) M1) (fun _ M' => M' 80 12 = 0) := by
        unfold s9_findOdds
        refine Sp.cb (keepAll (b := 200) (by decide) (by decide) (by decide) M1) (fun _ M2 h3 => ?_)
        have e12 : M2 80 12 = 0 := by rw [h3.2.2.1 12 (by decide) (by decide), h80]; rfl
        have e98 : M2 98 369 = 0 := by
          have e := h3.2.2.2.2.2 169 (by decide)
          have e2 : kc M1 169 = M1 80 12 := kc_one (s := 1)
          rw [e2, h80] at e
          exact e
        exact odds9 (by omega) 300 0 M2 (by omega) (by omega) e12 e98
      refine Sp.cb hfo (fun _ M3 h3 => ?_)
      rw [s9_fair_34]
      exact Sp.pos (by rw [h3]; decide) (Sp.neg (by decide) (Sp.ret ⟨rfl, trivial⟩))
