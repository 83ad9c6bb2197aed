/-! ===== the calls: rows of stops ===== -/
noncomputable def cfA (F : Nat → Nat) (x : Int32) : Nat → Nat
  | 0 => 0
  | j + 1 => if x < nI (F j) then cfA F x j else cfA F x j + 1
theorem k_up {n m : Nat} {x : Int32} {F : Nat → Nat} {M : Mem} (h1 : M 4 1 = nI m) (h2 : ∀ j, j < m → M 5 j = nI (F j)) (hm : m ≤ 16) (hp : 1 ≤ m) : ∀ (f i : Nat), i ≤ m → m < i + f → s1_hundredthsUpTo_4 n 4 x f (nI (cfA F x i)) (nI i) M = some ((nI (cfA F x m) * 100) / nI m, M) := by
  intro f
  induction f with
  | zero => intro i a b; omega
  | succ f ih =>
    intro i a b
    rw [s1_hundredthsUpTo_4, h1]
    by_cases q : i = m
    · subst q
      rw [if_pos (nI_le (Nat.le_refl _) (by omega)), if_neg (nI_nle (by omega) (by omega)), if_neg (nI_ne0 (by omega) (by omega))]
    · have e : M (link 4 0) (nI i).toNatClampNeg = nI (F i) := by rw [nI_clamp (by omega)]; exact h2 i (by omega)
      rw [if_neg (nI_ge (by omega) (by omega)), if_pos (show inB (nI i) (alen (link 4 0)) from vp_in_nI (N := 16) (by omega) (by decide)), e]
      have ih := ih (i + 1) (by omega) (by omega)
      by_cases c : x < nI (F i)
      · rw [show cfA F x (i + 1) = cfA F x i from if_pos c] at ih
        rw [if_pos c, ilet_e, nI_1]; exact ih
      · rw [show cfA F x (i + 1) = cfA F x i + 1 from if_neg c] at ih
        rw [if_neg c, ilet_e, ilet_e, nI_1, nI_1]; exact ih
theorem r_up {n m : Nat} {x : Int32} {F : Nat → Nat} {M : Mem} (h1 : M 80 42 = nI m) (h2 : ∀ j, j < m → M 101 j = nI (F j)) (hm : m ≤ 16) (hp : 1 ≤ m) : ∀ (f i : Nat), i ≤ m → m < i + f → s9_next_38 n 80 x f (nI (cfA F x i)) (nI i) M = some ((100 * nI (cfA F x m)) / nI m, mset M 80 42 0) := by
  intro f
  induction f with
  | zero => intro i a b; omega
  | succ f ih =>
    intro i a b
    rw [s9_next_38, h1]
    by_cases q : i = m
    · subst q
      rw [if_pos (nI_le (Nat.le_refl _) (by omega)), if_neg (nI_ne0 (by omega) (by omega)), ilet_e, mlet_e]
    · have e : M (link 80 40) (nI i).toNatClampNeg = nI (F i) := by rw [nI_clamp (by omega)]; exact h2 i (by omega)
      rw [if_neg (nI_ge (by omega) (by omega)), if_pos (show inB (nI i) (alen (link 80 40)) from vp_in_nI (N := 16) (by omega) (by decide)), e]
      have ih := ih (i + 1) (by omega) (by omega)
      by_cases c : x < nI (F i)
      · rw [show cfA F x (i + 1) = cfA F x i from if_pos c] at ih
        rw [if_pos c, ilet_e, ilet_e, nI_1, show nI (cfA F x i) + (0 : Int32) = nI (cfA F x i) from nI_add _ 0]; exact ih
      · rw [show cfA F x (i + 1) = cfA F x i + 1 from if_neg c] at ih
        rw [if_neg c, ilet_e, ilet_e, nI_1, nI_1]; exact ih
theorem c_next {n : Nat} {x : Int32} {M : Mem} (hn : 4000 < n) (hI : IV M) : Ag M IV (s8_next n 0 x) (s9_next n 80 x) := by
  obtain ⟨m, F, c1, c2, c3, c4, c5, c6⟩ := hI.2.2.2.1
  by_cases a : wy x 1 300 = 0
  · by_cases z : m = 0
    · refine nrmF hI (fun P c r hV ht => ⟨-3, P, hV, ht, ?_, fun N rN f => ?_⟩)
      · unfold s8_next s8_next_25
        rw [k_within, a, cb_some, if_pos rfl, show M (link 0 3) 1 = nI m from c3, if_pos (show nI m = 0 by rw [z]; rfl), if_neg (by decide)]
        exact SA_ref (x := 3) c hV.w12 FPg.rf (by decide)
      · unfold s9_next s9_next_23
        rw [k_bound, a, cb_some, if_pos (by decide), show N 80 42 = nI m by rw [f.o 80 (by decide)]; exact c5, if_pos (show nI m = 0 by rw [z]; rfl), if_neg (by decide)]
        exact SB_no rN FRg.rf (by decide)
    · obtain ⟨⟨P, h1, h2, h3, h4⟩, hK, hX, hR, hF⟩ := hI
      have eA : s8_next n 0 x M = some ((nI (cfA F x m) * 100) / nI m, mset M 4 1 0) := by
        unfold s8_next s8_next_25
        rw [k_within, a, cb_some, if_pos rfl, show M (link 0 3) 1 = nI m from c3, if_neg (nI_ne0 (by omega) (by omega)), if_pos rfl]
        have : s1_hundredthsUpTo n (link 0 3) x M = some ((nI (cfA F x m) * 100) / nI m, M) := k_up (n := n) c3 c4 c1 (by omega) n 0 (Nat.zero_le _) (by omega)
        rw [this, cb_some]
        rfl
      have eB : ∀ N, N 80 42 = nI m → (∀ j, j < m → N 101 j = nI (F j)) → s9_next n 80 x N = some ((nI (cfA F x m) * 100) / nI m, mset N 80 42 0) := fun N e1 e2 => by
        unfold s9_next s9_next_23
        rw [k_bound, a, cb_some, if_pos (by decide), e1, if_neg (nI_ne0 (by omega) (by omega)), if_pos (by decide)]
        have := r_up (n := n) (x := x) e1 e2 c1 (by omega) n 0 (Nat.zero_le _) (by omega)
        rw [Int32.mul_comm]
        exact this
      refine ⟨_, _, _, eA, eB _ (by rw [ms_ne (by decide)]; exact c5) (fun j hj => by rw [ms_ne (by decide)]; exact c6 j hj), ⟨P, h1.same (fun q x y => by rw [ms_ne (by omega), ms_ne (by omega)]) h3.w12, h2.oh (fun s x y => by rw [ms_ne2 (by omega), ms_ne (by decide)]) (fun q x y => by rw [ms_ne (by omega), ms_ne (by omega)]), h3, h4⟩, hK.k ?_ ?_ (fun q x y => ?_) (fun j _ => ?_), hX.k ?_ ?_ ?_ ?_, ⟨0, fun _ => 0, by omega, fun j hj => by omega, ?_, fun j hj => by omega, ms_eq, fun j hj => by omega⟩, hF.k ?_ ?_ ?_ ?_⟩
      · rw [ms_ne (by decide), ms_ne (by decide)]
      · rw [ms_ne2 (by decide), ms_ne (by decide)]
      · rw [ms_ne (by omega), ms_ne (by omega)]
      · rw [ms_ne (by decide), ms_ne (by decide)]
      · rw [ms_ne (by decide), ms_ne (by decide)]
      · rw [ms_ne (by decide), ms_ne (by decide)]
      · rw [ms_ne2 (by decide), ms_ne (by decide)]
      · rw [ms_ne (by decide), ms_ne (by decide)]
      · rw [ms_ne (by decide)]; exact ms_eq
      · rw [ms_ne (by decide), ms_ne (by decide)]
      · rw [ms_ne (by decide), ms_ne (by decide)]
      · rw [ms_ne2 (by decide), ms_ne (by decide)]
      · rw [ms_ne (by decide), ms_ne (by decide)]
  · refine nrmF hI (fun P c r hV ht => ⟨-wy x 1 300, P, hV, ht, ?_, fun N rN f => ?_⟩)
    · unfold s8_next s8_next_25
      rw [k_within, cb_some, if_neg a, if_neg a]
      exact SA_ref c hV.w12 FPg.rf (wy_ref a)
    · unfold s9_next s9_next_23
      rw [k_bound, cb_some, if_neg (wy_neg a), if_neg (wy_neg a)]
      exact SB_no rN FRg.rf (wy_no a)
/-! what kinds could be -/
def cdK (g : Int32) (k : Nat) (v : Int32) : Bool := if k = 1 then decide (v - v / 8 * 8 = 0 ∨ v = 300) else if k = 2 then decide (g ≤ v) else if k = 4 then decide (v = g) else true
def alB (p : Nat → Bool) : Nat → Bool
  | 0 => true
  | j + 1 => alB p j && p j
def b01 (b : Bool) : Int32 := if b then 1 else 0
theorem k_cdK {k : Nat} {g v : Int32} {M : Mem} (hk : k < 5) (hg : M 15 1 = g) (h3 : v = 300 → g ≤ v) : s3_couldStop 15 (nI k) v M = some (b01 (cdK g k v), M) := by
  unfold s3_couldStop
  rw [hg]
  have hc : k = 0 ∨ k = 1 ∨ k = 2 ∨ k = 3 ∨ k = 4 := by omega
  rcases hc with rfl | rfl | rfl | rfl | rfl
  · rfl
  · rw [if_neg (by decide), if_pos (show nI 1 = 1 from rfl)]
    have e : cdK g 1 v = decide (v - v / 8 * 8 = 0 ∨ v = 300) := rfl
    rw [e]
    by_cases a : v - v / 8 * 8 = 0
    · rw [if_pos a, decide_eq_true (Or.inl a)]; rfl
    · rw [if_neg a]
      by_cases b : v = 300
      · rw [if_pos b, decide_eq_true (Or.inr b)]; rfl
      · rw [if_neg b, decide_eq_false (fun t => t.elim a b)]; rfl
  · rw [if_neg (by decide), if_neg (by decide), if_pos (show nI 2 = 2 from rfl)]
    have e : cdK g 2 v = decide (g ≤ v) := rfl
    rw [e]
    by_cases a : g ≤ v
    · rw [if_pos a, decide_eq_true a]; rfl
    · rw [if_neg a, if_neg (fun b => a (h3 b)), decide_eq_false a]; rfl
  · rfl
  · rw [if_neg (by decide), if_neg (by decide), if_neg (by decide), if_neg (by decide)]
    have e : cdK g 4 v = decide (v = g) := rfl
    rw [e]
    by_cases a : v = g
    · rw [if_pos a, decide_eq_true a]; rfl
    · rw [if_neg a, decide_eq_false a]; rfl
theorem b01_0 {b : Bool} : b01 b = 0 ↔ b = false := by cases b <;> decide
theorem bz_b01 (b : Bool) : bz (b01 b) := by cases b <;> decide
theorem k_allBy {n m k : Nat} {g : Int32} {F : Nat → Nat} {M : Mem} (hk : k < 5) (hg : M 15 1 = g) (h1 : M 4 1 = nI m) (h2 : ∀ j, j < m → M 5 j = nI (F j)) (hm : m ≤ 16) (h3 : g ≤ 300) : ∀ (f i : Nat), i ≤ m → m < i + f → s8_couldAllBeBy_4 n 0 (nI k) f (b01 (alB (fun j => cdK g k (nI (F j))) i)) (nI i) M = some (b01 (alB (fun j => cdK g k (nI (F j))) m), M) := by
  intro f
  induction f with
  | zero => intro i a b; omega
  | succ f ih =>
    intro i a b
    rw [s8_couldAllBeBy_4, show M (link 0 3) 1 = nI m from h1]
    by_cases q : i = m
    · subst q
      rw [if_pos (nI_le (Nat.le_refl _) (by omega)), if_pos (bz_b01 _)]
    · have ih := ih (i + 1) (by omega) (by omega)
      rw [if_neg (nI_ge (by omega) (by omega))]
      have es : alB (fun j => cdK g k (nI (F j))) (i + 1) = (alB (fun j => cdK g k (nI (F j))) i && cdK g k (nI (F i))) := rfl
      rw [es] at ih
      by_cases c : alB (fun j => cdK g k (nI (F j))) i = false
      · rw [c] at ih ⊢
        rw [if_pos (show b01 false = 0 from rfl), ilet_e, nI_1]
        exact ih
      · have c' : alB (fun j => cdK g k (nI (F j))) i = true := by revert c; cases alB (fun j => cdK g k (nI (F j))) i <;> decide
        rw [c'] at ih ⊢
        have ea : s1_at (link 0 3) (nI i) M = some (nI (F i), M) := by
          unfold s1_at
          rw [if_neg (nI_pos (by omega)), show M (link 0 3) 1 = nI m from h1, if_neg (nI_ge (by omega) (by omega)), if_pos (show inB (nI i) (alen (link (link 0 3) 0)) from vp_in_nI (N := 16) (by omega) (by decide)), nI_clamp (by omega), show M (link (link 0 3) 0) i = nI (F i) from h2 i (by omega)]
        rw [if_neg (show ¬ b01 true = 0 by decide), ea, cb_some, show link (link 0 1) 1 = 15 from rfl, k_cdK hk hg (fun e => by rw [e]; exact h3), cb_some]
        by_cases d : cdK g k (nI (F i)) = false
        · rw [d] at ih ⊢
          rw [if_pos (show b01 false = 0 from rfl), ilet_e, nI_1]
          exact ih
        · have d' : cdK g k (nI (F i)) = true := by revert d; cases cdK g k (nI (F i)) <;> decide
          rw [d'] at ih ⊢
          rw [if_neg (show ¬ b01 true = 0 by decide), ilet_e, nI_1]
          exact ih
def mkB (a b c : Bool) : Int32 := 9 + (if a then 2 else 0) + (if b then 4 else 0) + (if c then 16 else 0)
theorem k_could {n m : Nat} {g : Int32} {F : Nat → Nat} {M : Mem} (hn : 4000 < n) (hg : M 15 1 = g) (h1 : M 4 1 = nI m) (h2 : ∀ j, j < m → M 5 j = nI (F j)) (hm : m ≤ 16) (h3 : g ≤ 300) : s8_could n 0 M = some (mkB (alB (fun j => cdK g 1 (nI (F j))) m) (alB (fun j => cdK g 2 (nI (F j))) m) (alB (fun j => cdK g 4 (nI (F j))) m), M) := by
  have step : ∀ (f k : Nat) (x : Int32), k < 5 → s8_could_4 n 0 (f + 1) x (nI k) M = s8_could_4 n 0 f (if alB (fun j => cdK g k (nI (F j))) m = false then x else x ||| ((1 : Int32) <<< (nI k &&& 31))) (nI (k + 1)) M := fun f k x hk => by
    rw [s8_could_4, if_neg (show ¬ (5 : Int32) ≤ nI k from nI_ge (b := 5) hk (by decide))]
    have e : s8_couldAllBeBy n 0 (nI k) M = some (b01 (alB (fun j => cdK g k (nI (F j))) m), M) := by
      unfold s8_couldAllBeBy
      exact k_allBy hk hg h1 h2 hm h3 n 0 (Nat.zero_le _) (by omega)
    rw [e, cb_some]
    by_cases c : alB (fun j => cdK g k (nI (F j))) m = false
    · rw [if_pos (b01_0.mpr c), if_pos c, ilet_e, nI_1]
    · rw [if_neg (fun t => c (b01_0.mp t)), if_neg c, ilet_e, ilet_e, nI_1]
  have tt : ∀ k, (k = 0 ∨ k = 3) → ∀ i, alB (fun j => cdK g k (nI (F j))) i = true := fun k hk i => by
    induction i with
    | zero => rfl
    | succ i ih =>
      show (alB (fun j => cdK g k (nI (F j))) i && cdK g k (nI (F i))) = true
      rw [ih]
      rcases hk with rfl | rfl <;> rfl
  obtain ⟨f, rfl⟩ : ∃ f, n = f + 6 := ⟨n - 6, by omega⟩
  unfold s8_could
  have s0 := step (f + 5) 0 0 (by decide)
  have s1 := step (f + 4) 1
  have s2 := step (f + 3) 2
  have s3 := step (f + 2) 3
  have s4 := step (f + 1) 4
  rw [show (0 : Int32) = nI 0 from rfl] at s0 ⊢
  rw [s0, s1 _ (by decide), s2 _ (by decide), s3 _ (by decide), s4 _ (by decide), s8_could_4, if_pos (show (5 : Int32) ≤ nI (4 + 1) from nI_le (a := 5) (by decide) (by decide)), tt 0 (Or.inl rfl), tt 3 (Or.inr rfl)]
  generalize alB (fun j => cdK g 1 (nI (F j))) m = a
  generalize alB (fun j => cdK g 2 (nI (F j))) m = b
  generalize alB (fun j => cdK g 4 (nI (F j))) m = c
  cases a <;> cases b <;> cases c <;> rfl
theorem mk3 (a b c : Bool) : mkB a b c &&& (-3) = mkB false b c ∧ mkB a b c &&& (-5) = mkB a false c ∧ mkB a b c &&& (-17) = mkB a b false := by
  cases a <;> cases b <;> cases c <;> decide
theorem r_could {n m : Nat} {g : Int32} {F : Nat → Nat} {M : Mem} (hg : M 80 14 = g) (h1 : M 80 42 = nI m) (h2 : ∀ j, j < m → M 101 j = nI (F j)) (hm : m ≤ 16) : ∀ (f i : Nat), i ≤ m → m < i + f → s9_could_5 n 80 f (mkB (alB (fun j => cdK g 1 (nI (F j))) i) (alB (fun j => cdK g 2 (nI (F j))) i) (alB (fun j => cdK g 4 (nI (F j))) i)) (nI i) M = some (mkB (alB (fun j => cdK g 1 (nI (F j))) m) (alB (fun j => cdK g 2 (nI (F j))) m) (alB (fun j => cdK g 4 (nI (F j))) m), M) := by
  intro f
  induction f with
  | zero => intro i a b; omega
  | succ f ih =>
    intro i a b
    rw [s9_could_5, h1]
    by_cases q : i = m
    · subst q
      rw [if_pos (nI_le (Nat.le_refl _) (by omega))]
    · have ih := ih (i + 1) (by omega) (by omega)
      have es : ∀ k, alB (fun j => cdK g k (nI (F j))) (i + 1) = (alB (fun j => cdK g k (nI (F j))) i && cdK g k (nI (F i))) := fun k => rfl
      rw [es 1, es 2, es 4] at ih
      generalize alB (fun j => cdK g 1 (nI (F j))) i = A at ih ⊢
      generalize alB (fun j => cdK g 2 (nI (F j))) i = B at ih ⊢
      generalize alB (fun j => cdK g 4 (nI (F j))) i = C at ih ⊢
      have ii : inB (nI i) (alen (link 80 40)) := vp_in_nI (N := 16) (by omega) (by decide)
      have e : M (link 80 40) (nI i).toNatClampNeg = nI (F i) := by rw [nI_clamp (by omega)]; exact h2 i (by omega)
      have e60 : ∀ A' B', s9_could_60 n (s9_could_5 n 80 f) 80 (mkB A' B' C) (nI i) M = s9_could_5 n 80 f (mkB A' B' (C && cdK g 4 (nI (F i)))) (nI (i + 1)) M := fun A' B' => by
        unfold s9_could_60
        rw [if_pos ii, e, hg]
        have ec : cdK g 4 (nI (F i)) = decide (nI (F i) = g) := rfl
        rw [ec]
        by_cases c : nI (F i) = g
        · rw [if_pos c, ilet_e, nI_1, decide_eq_true c, Bool.and_true]
        · rw [if_neg c, ilet_e, ilet_e, nI_1, decide_eq_false c, Bool.and_false, (mk3 A' B' C).2.2]
      have e42 : ∀ A', s9_could_42 n (s9_could_5 n 80 f) 80 (mkB A' B C) (nI i) M = s9_could_5 n 80 f (mkB A' (B && cdK g 2 (nI (F i))) (C && cdK g 4 (nI (F i)))) (nI (i + 1)) M := fun A' => by
        unfold s9_could_42
        rw [if_pos ii, e, hg]
        have ec : cdK g 2 (nI (F i)) = decide (g ≤ nI (F i)) := rfl
        rw [ec]
        by_cases c : g ≤ nI (F i)
        · rw [if_pos c, e60, decide_eq_true c, Bool.and_true]
        · rw [if_neg c, ilet_e, (mk3 A' B C).2.1, e60, decide_eq_false c, Bool.and_false]
      rw [if_neg (nI_ge (by omega) (by omega)), if_pos ii, e]
      have ec : cdK g 1 (nI (F i)) = decide (nI (F i) - nI (F i) / 8 * 8 = 0 ∨ nI (F i) = 300) := rfl
      by_cases c : nI (F i) - nI (F i) / 8 * 8 = 0
      · rw [ec, decide_eq_true (Or.inl c), Bool.and_true] at ih
        rw [if_pos c, e42]
        exact ih
      · rw [if_neg c, if_pos ii]
        by_cases d : nI (F i) = 300
        · rw [ec, decide_eq_true (Or.inr d), Bool.and_true] at ih
          rw [if_pos d, e42]
          exact ih
        · rw [ec, decide_eq_false (fun t => t.elim c d), Bool.and_false] at ih
          rw [if_neg d, ilet_e, (mk3 A B C).1, e42]
          exact ih
theorem c_could {n : Nat} {M : Mem} (hn : 4000 < n) (hI : IV M) : Ag M IV (s8_could n 0) (s9_could n 80) := by
  obtain ⟨m, F, c1, c2, c3, c4, c5, c6⟩ := hI.2.2.2.1
  refine nrmF hI (fun P c r hV ht => ?_)
  have s1 := hV.s
  unfold VSa at s1
  refine ⟨_, P, hV, ht, ⟨_, M, k_could hn (g := nI (P 10 3)) c.2.1.2.1 c3 c4 c1 (nI_le (b := 300) (by omega) (by decide)), rfl, c, FPg.rf⟩, fun N rN f => ?_⟩
  have := r_could (n := n) (M := N) (g := nI (P 10 3)) (rN.one 3 (by decide)) (by rw [f.o 80 (by decide)]; exact c5) (fun j hj => by rw [f.o 101 (by decide)]; exact c6 j hj) c1 n 0 (Nat.zero_le _) (by omega)
  exact ⟨_, N, this, rfl, rN, FRg.rf⟩
