/-! ===== p1: walker, fair ===== -/
def F9 (M : Mem) : Prop := ∀ q, 80 ≤ q → q < 103 → M q = M0 q
theorem F9.set {M : Mem} {o k : Nat} {v : Int32} (h : F9 M) (ho : o < 80) : F9 (mset M o k v) := fun q h1 h2 => by rw [ms_ne (by omega)]; exact h q h1 h2
theorem F9_0 : F9 M0 := fun _ _ _ => rfl
theorem mr_F9 (k : Nat) : F9 (mr k M0) := F9_0.set (by decide)
theorem stood0 (x : Int32) : s2_isStoodOn (link 0 1) x M0 = some (0, M0) := by
  unfold s2_isStoodOn
  by_cases h1 : x < 0
  · rw [if_pos h1]
  · rw [if_neg h1]
    by_cases h2 : (60 : Int32) ≤ x
    · rw [if_pos h2]
    · rw [if_neg h2]
      obtain ⟨j, hj, rfl⟩ := few 60 (by decide) (Ile h1) (Ilt h2)
      rw [if_pos (show inB (nI j) (alen (link (link 0 1) 4)) from vp_in_nI (N := 60) hj (by decide))]
      rfl
theorem k_whyW (x y z : Int32) : s2_whyNoWalker (link 0 1) x y z M0 = some (if 0 ≤ x ∧ x < 24 then (if 0 ≤ y ∧ y ≤ 6 then wy z 1 99 else 1) else 1, M0) := by
  unfold s2_whyNoWalker
  rw [k_place x M0 rfl]
  by_cases hx : 0 ≤ x ∧ x < 24
  · rw [if_pos hx, if_pos hx, cb_some, if_neg (by decide)]
    by_cases h1 : y < 0
    · rw [if_pos h1, if_neg (fun q => Inl q.1 h1)]
    · rw [if_neg h1]
      by_cases h2 : y < (7 : Int32)
      · rw [if_pos h2, if_pos ⟨Ile h1, by
          obtain ⟨j, hj, rfl⟩ := few 7 (by decide) (Ile h1) h2
          exact nI_le (a := j) (b := 6) (by omega) (by decide)⟩, k_within, cb_some]
        rcases wy_cases z 1 99 with ⟨h, -⟩ | ⟨h, -⟩ | ⟨h, -⟩
        · rw [h]; rfl
        · rw [h]; rfl
        · rw [h, if_pos rfl, if_pos (show M0 (link 0 1) 5 < 12 by decide), stood0]; rfl
      · rw [if_neg h2, if_neg (fun q => h2 (Int32.lt_of_le_of_lt q.2 (by decide)))]
  · rw [if_neg hx, if_neg hx]; rfl
theorem arrive_ok (o : Nat) (x y z : Int32) (M : Mem) (ho : o < 80) (hF : F9 M) (h : o ≠ 11) : Sp (s7_arrive 300 o x y z M) (fun _ M' => F9 M' ∧ M' 11 = M 11) := by
  unfold s7_arrive
  refine Sp.mlet (Sp.mlet (Sp.mlet (Sp.mlet (Sp.mlet ?_))))
  have h38 : ∀ (t : Int32) (M1 : Mem), F9 M1 ∧ M1 11 = M 11 → Sp (s7_arrive_38 300 o t o M1) (fun _ M' => F9 M' ∧ M' 11 = M 11) := by
    intro t M1 h1
    unfold s7_arrive_38
    refine Sp.mlet (Sp.mlet (Sp.mlet (Sp.mlet (Sp.ret ⟨(((h1.1.set ho).set ho).set ho).set ho, ?_⟩))))
    rw [ms_ne (Ne.symm h), ms_ne (Ne.symm h), ms_ne (Ne.symm h), ms_ne (Ne.symm h)]
    exact h1.2
  have hM : F9 (mset (mset (mset (mset (mset M o 0 x) o 1 0) o 2 1) o 3 y) o 4 z) ∧ (mset (mset (mset (mset (mset M o 0 x) o 1 0) o 2 1) o 3 y) o 4 z) 11 = M 11 :=
    ⟨((((hF.set ho).set ho).set ho).set ho).set ho, by rw [ms_ne (Ne.symm h), ms_ne (Ne.symm h), ms_ne (Ne.symm h), ms_ne (Ne.symm h), ms_ne (Ne.symm h)]⟩
  exact Sp.ite (fun _ => h38 _ _ hM) (fun _ => h38 _ _ hM)
theorem mark_ok (x : Int32) (M : Mem) (hF : F9 M) : Sp (s2_mark (link 0 1) x 1 M) (fun _ M' => F9 M') := by
  unfold s2_mark
  refine Sp.ite (fun _ => Sp.ret hF) (fun h1 => Sp.ite (fun _ => Sp.ret hF) (fun h2 => ?_))
  obtain ⟨j, hj, rfl⟩ := few 60 (by decide) (Ile h1) (Ilt h2)
  refine Sp.pos (show inB (nI j) (alen (link (link 0 1) 4)) from vp_in_nI (N := 60) hj (by decide)) (Sp.mlet (Sp.ret ?_))
  exact hF.set (by decide)
theorem addW_ok (x y z : Int32) : Sp (s2_addWalker 300 (link 0 1) x y z M0) (fun r M' => r = 0 ∧ F9 M') := by
  unfold s2_addWalker
  refine Sp.ilet (Sp.neg (show ¬ M0 (link 0 1) 5 < 0 by decide) (Sp.neg (show ¬ 12 ≤ M0 (link 0 1) 5 by decide) (Sp.pos (show inB (M0 (link 0 1) 5) (alen (link (link 0 1) 3)) by decide +kernel) ?_)))
  refine Sp.cb (arrive_ok (link (link (link 0 1) 3) (M0 (link 0 1) 5).toNatClampNeg) x y z M0 (by decide +kernel) F9_0 (by decide +kernel)) (fun r M1 h1 => ?_)
  refine Sp.cb (mark_ok x M1 h1.1) (fun r M2 h2 => ?_)
  exact Sp.mlet (Sp.mlet (Sp.ret ⟨rfl, (h2.set (by decide)).set (by decide)⟩))
theorem taken9 (x : Int32) (M : Mem) (h : M 80 12 = 0) : s9_isTaken 300 80 x M = some (0, M) := by
  unfold s9_isTaken
  rw [s9_isTaken_2, if_pos (by rw [h]; decide)]
theorem comes72 (t : Int32) (M : Mem) (h : M 80 12 = 0) : Sp (s9_comesWalker_72 300 80 t 0 (link 80 7) M) (fun _ M' => M' 80 12 = 1) := by
  unfold s9_comesWalker_72
  refine Sp.pos (by decide +kernel) (Sp.mlet ?_)
  have e1 : (mset M (link 80 7) (0 : Int32).toNatClampNeg t) 80 = M 80 := ms_ne (by decide +kernel)
  refine Sp.pos (by rw [e1, h]; decide +kernel) (Sp.mlet ?_)
  refine Sp.pos (by rw [ms_ne (show 80 ≠ link 80 8 by decide +kernel), e1, h]; decide +kernel) (Sp.mlet ?_)
  refine Sp.pos (by rw [ms_ne (show 80 ≠ link 80 9 by decide +kernel), ms_ne (show 80 ≠ link 80 8 by decide +kernel), e1, h]; decide +kernel) (Sp.mlet (Sp.mlet (Sp.mlet (Sp.ret ?_))))
  rw [ms_ne2 (by decide), ms_eq, ms_ne (show 80 ≠ link 80 10 by decide +kernel), ms_ne (show 80 ≠ link 80 9 by decide +kernel), ms_ne (show 80 ≠ link 80 8 by decide +kernel), e1, h]
  rfl
theorem comesW (x y z : Int32) (M : Mem) (h : M 80 12 = 0) : Sp (s9_comesWalker 300 80 x y z M) (fun _ M' => M' 80 12 = 1) := by
  unfold s9_comesWalker
  have n2 : 80 ≠ link 80 2 := by decide +kernel
  have n3 : 80 ≠ link 80 3 := by decide +kernel
  have n4 : 80 ≠ link 80 4 := by decide +kernel
  have n5 : 80 ≠ link 80 5 := by decide +kernel
  have n6 : 80 ≠ link 80 6 := by decide +kernel
  refine Sp.pos (by rw [h]; decide +kernel) (Sp.mlet ?_)
  refine Sp.pos (by rw [ms_ne n2, h]; decide +kernel) (Sp.mlet ?_)
  refine Sp.pos (by rw [ms_ne n3, ms_ne n2, h]; decide +kernel) (Sp.mlet ?_)
  refine Sp.pos (by rw [ms_ne n4, ms_ne n3, ms_ne n2, h]; decide +kernel) (Sp.mlet ?_)
  refine Sp.pos (by rw [ms_ne n5, ms_ne n4, ms_ne n3, ms_ne n2, h]; decide +kernel) (Sp.mlet ?_)
  generalize hX : mset (mset (mset (mset (mset M _ _ _) _ _ _) _ _ _) _ _ _) _ _ _ = X
  have hX80 : X 80 12 = 0 := by rw [← hX, ms_ne n6, ms_ne n5, ms_ne n4, ms_ne n3, ms_ne n2, h]
  rw [hX80]
  exact Sp.ite (fun _ => comes72 _ X hX80) (fun _ => comes72 _ X hX80)
theorem B_walker (x y z : Int32) : Ag M0 (fun _ => True) (s8_walker 300 0 x y z) (s9_walker 300 80 x y z) := by
  have cls : s8_walker 300 0 x y z M0 = cb (some (if 0 ≤ x ∧ x < 24 then (if 0 ≤ y ∧ y ≤ 6 then wy z 1 99 else 1) else 1, M0)) (fun r2 M1 => if r2 = 0 then (cb (s2_addWalker 300 (link 0 1) x y z M1) (fun r4 M3 => some (r4, M3))) else (cb (s8_refuse 0 r2 M1) (fun r6 M5 => some (r6, M5)))) := by
    unfold s8_walker
    rw [k_whyW]
  by_cases hx : 0 ≤ x ∧ x < 24
  · by_cases hy : 0 ≤ y ∧ y ≤ 6
    · rcases wy_cases z 1 99 with ⟨h, -⟩ | ⟨h, -⟩ | ⟨h, -⟩
      · exact Ag_mk (by rw [cls, if_pos hx, if_pos hy, h]; rfl) (by unfold s9_walker; rw [k_place9 x _ rfl, if_pos hx, cb_some, if_neg (by decide), k_isIn, if_pos hy, cb_some, if_neg (by decide), k_bound, h]; rfl)
      · exact Ag_mk (by rw [cls, if_pos hx, if_pos hy, h]; rfl) (by unfold s9_walker; rw [k_place9 x _ rfl, if_pos hx, cb_some, if_neg (by decide), k_isIn, if_pos hy, cb_some, if_neg (by decide), k_bound, h]; rfl)
      · refine Ag_sp (P := fun r M' => r = 0 ∧ F9 M') ?_ ?_
        · show Sp (s8_walker 300 0 x y z M0) _
          rw [cls, if_pos hx, if_pos hy, h, cb_some, if_pos rfl]
          exact Sp.cb (addW_ok x y z) (fun r M h => Sp.ret h)
        · intro r M1 ⟨hr, hF⟩
          subst hr
          have h80 : M1 80 = M0 80 := hF 80 (by decide) (by decide)
          have h12 : M1 80 12 = 0 := by rw [h80]; rfl
          show Sp (s9_walker 300 80 x y z M1) _
          unfold s9_walker
          rw [k_place9 x M1 (by rw [h80]; rfl), if_pos hx, cb_some, if_neg (by decide), k_isIn, if_pos hy, cb_some, if_neg (by decide), k_bound, h, cb_some, if_pos (by decide)]
          refine Sp.neg (by rw [h12]; decide) ?_
          unfold s9_walker_51
          refine Sp.pos (by decide) ?_
          rw [taken9 x M1 h12, cb_some]
          refine Sp.pos rfl ?_
          unfold s9_walker_68
          refine Sp.pos (by decide) ?_
          refine Sp.cb (comesW x y z M1 h12) (fun r M2 h2 => Sp.ret ⟨?_, trivial⟩)
          rw [h2]; rfl
    · exact Ag_mk (by rw [cls, if_pos hx, if_neg hy]; rfl) (by unfold s9_walker; rw [k_place9 x _ rfl, if_pos hx, cb_some, if_neg (by decide), k_isIn, if_neg hy]; rfl)
  · exact Ag_mk (by rw [cls, if_neg hx]; rfl) (by unfold s9_walker; rw [k_place9 x _ rfl, if_neg hx]; rfl)
