/-! ===== p1: one call on a fresh object ===== -/
theorem cb_some (r : Int32) (M : Mem) (F : Int32 → Mem → Option Res) : cb (some (r, M)) F = F r M := rfl
theorem mlet_e (X : Mem) (F : Mem → Option Res) : mlet X F = F X := rfl
theorem ilet_e (x : Int32) (F : Int32 → Option Res) : ilet x F = F x := rfl
def Ok (E : Option Res) : Prop := ∃ M, E = some (1, M)
theorem Ok.ite {c : Prop} [Decidable c] {A B : Option Res} (h1 : c → Ok A) (h2 : ¬ c → Ok B) : Ok (if c then A else B) := by
  by_cases h : c
  · rw [if_pos h]; exact h1 h
  · rw [if_neg h]; exact h2 h
theorem Ok.pos {c : Prop} [Decidable c] {A B : Option Res} (h : c) (h1 : Ok A) : Ok (if c then A else B) := by rw [if_pos h]; exact h1
theorem Ok.neg {c : Prop} [Decidable c] {A B : Option Res} (h : ¬ c) (h1 : Ok B) : Ok (if c then A else B) := by rw [if_neg h]; exact h1
theorem Ok.cb {E : Option Res} {F : Int32 → Mem → Option Res} {r : Int32} {M : Mem} (h : E = some (r, M)) (k : Ok (F r M)) : Ok (cb E F) := by rw [h]; exact k
theorem Ok.ilet {x : Int32} {F : Int32 → Option Res} (k : Ok (F x)) : Ok (ilet x F) := k
theorem Ok.ret {M : Mem} : Ok (some (1, M)) := ⟨M, rfl⟩
theorem inB_o {L j d : Nat} (hj : 5 * j + 5 ≤ L) (hL : L < 2 ^ 30) (hd : d < 5) : inB (nI (5 * j) + nI d) L := by
  rw [nI_add]
  exact vp_in_nI (by omega) (by omega)
theorem inB_0 {L j : Nat} (hj : 5 * j + 5 ≤ L) (hL : L < 2 ^ 30) : inB (nI (5 * j)) L := vp_in_nI (by omega) (by omega)
/-- two runs with one answer -/
def Ag (M : Mem) (P : Mem → Prop) (A B : Mem → Option Res) : Prop := ∃ r M1 M2, A M = some (r, M1) ∧ B M1 = some (r, M2) ∧ P M2
theorem Ag_of {M : Mem} {A B : Mem → Option Res} (h : (cb (A M) (fun r M1 => cb (B M1) (fun r' M2 => if r = r' then some (1, M2) else none))).isSome = true) : Ag M (fun _ => True) A B := by
  cases hA : A M with
  | none => rw [hA] at h; cases h
  | some q =>
    obtain ⟨r, M1⟩ := q
    rw [hA, cb_some] at h
    cases hB : B M1 with
    | none => rw [hB] at h; cases h
    | some q2 =>
      obtain ⟨r', M2⟩ := q2
      rw [hB, cb_some] at h
      by_cases e : r = r'
      · subst e
        exact ⟨r, M1, M2, hA, hB, trivial⟩
      · rw [if_neg e] at h; cases h
theorem Ag_mk {M : Mem} {A B : Mem → Option Res} {r : Int32} {M1 M2 : Mem} (h1 : A M = some (r, M1)) (h2 : B M1 = some (r, M2)) : Ag M (fun _ => True) A B := ⟨r, M1, M2, h1, h2, trivial⟩
/-- refusals, counted -/
def mr (k : Nat) (M : Mem) : Mem := mset M 1 k (M 1 k + 1)
def nr (k : Nat) (M : Mem) : Mem := mset M 81 k (M 81 k + 1)
theorem rf1 (M : Mem) : s8_refuse 0 1 M = some (-1, mr 1 M) := rfl
theorem rf2 (M : Mem) : s8_refuse 0 2 M = some (-2, mr 2 M) := rfl
theorem rf3 (M : Mem) : s8_refuse 0 3 M = some (-3, mr 3 M) := rfl
theorem rf4 (M : Mem) : s8_refuse 0 4 M = some (-4, mr 4 M) := rfl
theorem rf6 (M : Mem) : s8_refuse 0 6 M = some (-6, mr 6 M) := rfl
theorem no1 (M : Mem) : s9_no 80 (-1) M = some (-1, nr 1 M) := rfl
theorem no2 (M : Mem) : s9_no 80 (-2) M = some (-2, nr 2 M) := rfl
theorem no3 (M : Mem) : s9_no 80 (-3) M = some (-3, nr 3 M) := rfl
theorem no4 (M : Mem) : s9_no 80 (-4) M = some (-4, nr 4 M) := rfl
theorem no6 (M : Mem) : s9_no 80 (-6) M = some (-6, nr 6 M) := rfl
theorem Ile {a b : Int32} (h : ¬ a < b) : b ≤ a := Int32.not_lt.mp h
theorem Ilt {a b : Int32} (h : ¬ a ≤ b) : b < a := Int32.not_le.mp h
theorem Inl {a b : Int32} (h : a ≤ b) : ¬ b < a := Int32.not_lt.mpr h
theorem Inle {a b : Int32} (h : a < b) : ¬ b ≤ a := Int32.not_le.mpr h
/-- nobody is there -/
theorem k_knows (x : Int32) (M : Mem) (h : M 11 5 = 0) : s2_knows (link 0 1) x M = some (0, M) := by
  unfold s2_knows
  by_cases hx : x < 0
  · rw [if_pos hx]
  · rw [if_neg hx, if_pos (by show M 11 5 ≤ x; rw [h]; exact Ile hx)]
theorem k_knowsIn (x : Int32) (M : Mem) (h : M 11 5 = 0) : s2_knowsIn (link 0 1) x M = some (0, M) := by
  unfold s2_knowsIn
  by_cases hx : x < 0
  · rw [if_pos hx]
  · rw [if_neg hx, if_pos (by show M 11 5 ≤ x; rw [h]; exact Ile hx)]
theorem k_isWalker (x : Int32) (M : Mem) (h : M 80 12 = 0) : s9_isWalker 80 x M = some (0, M) := by
  unfold s9_isWalker
  by_cases hx : x < 0
  · rw [if_pos hx]
  · rw [if_neg hx, if_pos (by rw [h]; exact Ile hx)]
theorem k_isThere (x : Int32) (M : Mem) (h : M 80 12 = 0) : s9_isThere 80 x M = some (0, M) := by
  unfold s9_isThere
  rw [k_isWalker x M h]
  rfl
theorem k_place (x : Int32) (M : Mem) (h : M 12 0 = 24) : s4_isPlace (link (link 0 1) 0) x M = some (if 0 ≤ x ∧ x < 24 then 1 else 0, M) := by
  unfold s4_isPlace
  by_cases hx : x < 0
  · rw [if_pos hx, if_neg (fun q => Inl q.1 hx)]
  · rw [if_neg hx]
    by_cases h2 : M (link (link 0 1) 0) 0 ≤ x
    · rw [if_pos h2, if_neg (fun q => Inle q.2 (by rw [← h]; exact h2))]
    · rw [if_neg h2, if_pos ⟨Ile hx, by rw [← h]; exact Ilt h2⟩]
theorem k_place9 (x : Int32) (M : Mem) (h : M 80 11 = 24) : s9_isPlace 80 x M = some (if 0 ≤ x ∧ x < 24 then 1 else 0, M) := by
  unfold s9_isPlace
  by_cases hx : x < 0
  · rw [if_pos hx, if_neg (fun q => Inl q.1 hx)]
  · rw [if_neg hx]
    by_cases h2 : M 80 11 ≤ x
    · rw [if_pos h2, if_neg (fun q => Inle q.2 (by rw [← h]; exact h2))]
    · rw [if_neg h2, if_pos ⟨Ile hx, by rw [← h]; exact Ilt h2⟩]
def wy (x a b : Int32) : Int32 := if x < a then 4 else if b < x then 6 else 0
theorem k_within (x a b : Int32) (M : Mem) : s8_whyNotWithin x a b M = some (wy x a b, M) := by
  unfold s8_whyNotWithin wy
  by_cases h1 : a ≤ x
  · rw [if_pos h1, if_neg (Inl h1)]
    by_cases h2 : x ≤ b
    · rw [if_pos h2, if_neg (Inl h2)]
    · rw [if_neg h2, if_pos (Ilt h2)]
  · rw [if_neg h1, if_pos (Ilt h1)]
theorem k_bound (x a b : Int32) (M : Mem) : s9_bound x a b M = some (-wy x a b, M) := by
  unfold s9_bound wy
  by_cases h1 : a ≤ x
  · rw [if_pos h1, if_neg (Inl h1)]
    by_cases h2 : x ≤ b
    · rw [if_pos h2, if_neg (Inl h2)]; rfl
    · rw [if_neg h2, if_pos (Ilt h2)]
  · rw [if_neg h1, if_pos (Ilt h1)]
theorem k_isIn (x a b : Int32) (M : Mem) : s9_isIn x a b M = some (if a ≤ x ∧ x ≤ b then 1 else 0, M) := by
  unfold s9_isIn
  by_cases h1 : x < a
  · rw [if_pos h1, if_neg (fun q => Inl q.1 h1)]
  · rw [if_neg h1]
    by_cases h2 : b < x
    · rw [if_pos h2, if_neg (fun q => Inl q.2 h2)]
    · rw [if_neg h2, if_pos ⟨Ile h1, Ile h2⟩]
theorem wy_cases (x a b : Int32) : (wy x a b = 4 ∧ x < a) ∨ (wy x a b = 6 ∧ ¬ x < a ∧ b < x) ∨ (wy x a b = 0 ∧ a ≤ x ∧ x ≤ b) := by
  unfold wy
  by_cases h1 : x < a
  · exact Or.inl ⟨if_pos h1, h1⟩
  · by_cases h2 : b < x
    · exact Or.inr (Or.inl ⟨by rw [if_neg h1, if_pos h2], h1, h2⟩)
    · exact Or.inr (Or.inr ⟨by rw [if_neg h1, if_neg h2], Ile h1, Ile h2⟩)
/-- a number of few is one of them -/
theorem few {x : Int32} (n : Nat) (hn : n < 2 ^ 31) (h0 : 0 ≤ x) (h : x < nI n) : ∃ j : Nat, j < n ∧ x = nI j := by
  rcases pk_ix x hn with q | q | q
  · exact absurd q (Inl h0)
  · exact absurd h (Inl q)
  · exact q
theorem B_party : Ag M0 (fun _ => True) (s8_party 300 0) (s9_party 300 80) := Ag_of (by decide +kernel)
theorem B_stop : Ag M0 (fun _ => True) (s8_stop 300 0) (s9_stop 300 80) := Ag_of (by decide +kernel)
theorem B_shortest : Ag M0 (fun _ => True) (s8_shortest 300 0) (s9_shortest 300 80) := Ag_of (by decide +kernel)
theorem B_could : Ag M0 (fun _ => True) (s8_could 300 0) (s9_could 300 80) := Ag_of (by decide +kernel)
theorem B_image : Ag M0 (fun _ => True) (s8_image 300 0) (s9_image 300 80) := Ag_of (by decide +kernel)
theorem B_restore : Ag M0 (fun _ => True) (s8_restore 300 0) (s9_restore 300 80) := Ag_of (by decide +kernel)
theorem B_seed (x : Int32) : Ag M0 (fun _ => True) (s8_seed 0 x) (s9_seed 80 x) := Ag_of rfl
theorem B_go (x : Int32) : Ag M0 (fun _ => True) (s8_go 300 0 x) (s9_go 300 80 x) := Ag_of rfl
theorem B_set (x y z : Int32) : Ag M0 (fun _ => True) (s8_set 0 x y z) (s9_set 300 80 x y z) :=
  Ag_mk (by unfold s8_set; rw [k_knows x M0 rfl]; rfl) (by unfold s9_set; rw [k_isWalker x _ rfl]; rfl)
theorem B_of (x y : Int32) : Ag M0 (fun _ => True) (s8_of 0 x y) (s9_of 80 x y) :=
  Ag_mk (by unfold s8_of; rw [k_knows x M0 rfl]; rfl) (by unfold s9_of; rw [k_isWalker x _ rfl]; rfl)
theorem B_haste (x y : Int32) : Ag M0 (fun _ => True) (s8_haste 300 0 x y) (s9_haste 300 80 x y) :=
  Ag_mk (by unfold s8_haste; rw [k_knows x M0 rfl]; rfl) (by unfold s9_haste; rw [k_isWalker x _ rfl]; rfl)
theorem B_sits (x : Int32) : Ag M0 (fun _ => True) (s8_sits 300 0 x) (s9_sits 300 80 x) :=
  Ag_mk (by unfold s8_sits; rw [k_knowsIn x M0 rfl]; rfl) (by unfold s9_sits; rw [k_isThere x _ rfl]; rfl)
theorem B_judge (x : Int32) : Ag M0 (fun _ => True) (s8_judge 300 0 x) (s9_judge 300 80 x) :=
  Ag_mk (by unfold s8_judge; rw [k_knowsIn x M0 rfl]; rfl) (by unfold s9_judge; rw [k_isThere x _ rfl]; rfl)
theorem k_notOdds (x y : Int32) (M : Mem) (h : M 80 12 = 0) : s9_notOdds 80 x y M = some (-1, M) := by
  unfold s9_notOdds
  rw [k_isThere x M h]
  rfl
theorem B_odds (x y : Int32) : Ag M0 (fun _ => True) (s8_odds 300 0 x y) (s9_odds 300 80 x y) :=
  Ag_mk (by unfold s8_odds; rw [k_knowsIn x M0 rfl]; rfl) (by unfold s9_odds; rw [k_notOdds x y _ rfl]; rfl)
theorem B_bestSlow (x y : Int32) : Ag M0 (fun _ => True) (s8_bestSlow 300 0 x y) (s9_bestSlow 300 80 x y) :=
  Ag_mk (by unfold s8_bestSlow; rw [k_knows x M0 rfl]; rfl) (by unfold s9_bestSlow; rw [k_notOdds x y _ rfl]; rfl)
theorem B_cheat (x y : Int32) : Ag M0 (fun _ => True) (s8_cheat 300 0 x y) (s9_cheat 300 80 x y) :=
  Ag_mk (by unfold s8_cheat; rw [k_knows x M0 rfl]; rfl) (by unfold s9_cheat; rw [k_notOdds x y _ rfl]; rfl)
theorem B_wins (x y z : Int32) : Ag M0 (fun _ => True) (s8_wins 300 0 x y z) (s9_wins 300 80 x y z) :=
  Ag_mk (by unfold s8_wins; rw [k_knows x M0 rfl]; rfl) (by unfold s9_wins; rw [k_isWalker x _ rfl]; rfl)
theorem B_team (a b n k : Int32) : Ag M0 (fun _ => True) (s8_team 300 0 a b n k) (s9_team 300 80 a b n k) := by
  refine Ag_mk (r := -1) (M1 := mr 1 M0) ?_ (by unfold s9_team; rw [k_isThere a _ rfl]; rfl)
  unfold s8_team
  by_cases h : a = b
  · rw [if_pos h]; rfl
  · rw [if_neg h, k_knowsIn a M0 rfl]; rfl
theorem B_has (x : Int32) : Ag M0 (fun _ => True) (s8_has 0 x) (s9_has 80 x) := by
  by_cases h : 0 ≤ x ∧ x < 24
  · obtain ⟨j, hj, rfl⟩ := few 24 (by decide) h.1 h.2
    match j, hj with
    | 0, _ => exact Ag_of (by decide +kernel)
    | 1, _ => exact Ag_of (by decide +kernel)
    | 2, _ => exact Ag_of (by decide +kernel)
    | 3, _ => exact Ag_of (by decide +kernel)
    | 4, _ => exact Ag_of (by decide +kernel)
    | 5, _ => exact Ag_of (by decide +kernel)
    | 6, _ => exact Ag_of (by decide +kernel)
    | 7, _ => exact Ag_of (by decide +kernel)
    | 8, _ => exact Ag_of (by decide +kernel)
    | 9, _ => exact Ag_of (by decide +kernel)
    | 10, _ => exact Ag_of (by decide +kernel)
    | 11, _ => exact Ag_of (by decide +kernel)
    | 12, _ => exact Ag_of (by decide +kernel)
    | 13, _ => exact Ag_of (by decide +kernel)
    | 14, _ => exact Ag_of (by decide +kernel)
    | 15, _ => exact Ag_of (by decide +kernel)
    | 16, _ => exact Ag_of (by decide +kernel)
    | 17, _ => exact Ag_of (by decide +kernel)
    | 18, _ => exact Ag_of (by decide +kernel)
    | 19, _ => exact Ag_of (by decide +kernel)
    | 20, _ => exact Ag_of (by decide +kernel)
    | 21, _ => exact Ag_of (by decide +kernel)
    | 22, _ => exact Ag_of (by decide +kernel)
    | 23, _ => exact Ag_of (by decide +kernel)
    | n + 24, h => exact absurd h (by omega)
  · exact Ag_mk (by unfold s8_has; rw [k_place x M0 rfl, if_neg h]; rfl) (by unfold s9_has; rw [k_place9 x _ rfl, if_neg h]; rfl)
theorem B_film (x : Int32) : Ag M0 (fun _ => True) (s8_film 0 x) (s9_film 80 x) := by
  by_cases h : 0 ≤ x ∧ x < 24
  · exact Ag_mk (by unfold s8_film; rw [k_place x M0 rfl, if_pos h]; rfl) (by unfold s9_film; rw [k_place9 x _ rfl, if_pos h]; rfl)
  · exact Ag_mk (by unfold s8_film; rw [k_place x M0 rfl, if_neg h]; rfl) (by unfold s9_film; rw [k_place9 x _ rfl, if_neg h]; rfl)
theorem whyNoChair_no (x : Int32) (h : ¬ (0 ≤ x ∧ x < 24)) : s2_whyNoChair (link 0 1) x M0 = some (1, M0) := by
  unfold s2_whyNoChair
  rw [k_place x M0 rfl, if_neg h]
  rfl
theorem B_chair (x : Int32) : Ag M0 (fun _ => True) (s8_chair 300 0 x) (s9_chair 300 80 x) := by
  by_cases h : 0 ≤ x ∧ x < 24
  · obtain ⟨j, hj, rfl⟩ := few 24 (by decide) h.1 h.2
    match j, hj with
    | 0, _ => exact Ag_of (by decide +kernel)
    | 1, _ => exact Ag_of (by decide +kernel)
    | 2, _ => exact Ag_of (by decide +kernel)
    | 3, _ => exact Ag_of (by decide +kernel)
    | 4, _ => exact Ag_of (by decide +kernel)
    | 5, _ => exact Ag_of (by decide +kernel)
    | 6, _ => exact Ag_of (by decide +kernel)
    | 7, _ => exact Ag_of (by decide +kernel)
    | 8, _ => exact Ag_of (by decide +kernel)
    | 9, _ => exact Ag_of (by decide +kernel)
    | 10, _ => exact Ag_of (by decide +kernel)
    | 11, _ => exact Ag_of (by decide +kernel)
    | 12, _ => exact Ag_of (by decide +kernel)
    | 13, _ => exact Ag_of (by decide +kernel)
    | 14, _ => exact Ag_of (by decide +kernel)
    | 15, _ => exact Ag_of (by decide +kernel)
    | 16, _ => exact Ag_of (by decide +kernel)
    | 17, _ => exact Ag_of (by decide +kernel)
    | 18, _ => exact Ag_of (by decide +kernel)
    | 19, _ => exact Ag_of (by decide +kernel)
    | 20, _ => exact Ag_of (by decide +kernel)
    | 21, _ => exact Ag_of (by decide +kernel)
    | 22, _ => exact Ag_of (by decide +kernel)
    | 23, _ => exact Ag_of (by decide +kernel)
    | n + 24, h => exact absurd h (by omega)
  · exact Ag_mk (by unfold s8_chair; rw [whyNoChair_no x h]; rfl) (by unfold s9_chair; rw [k_place9 x _ rfl, if_neg h]; rfl)
theorem B_feed (x : Int32) (y : Int64) : Ag M0 (fun _ => True) (s8_feed 300 0 x y) (s9_feed 300 80 x y) := by
  rcases wy_cases x 1 8 with ⟨h, h1⟩ | ⟨h, h1, h2⟩ | ⟨h, h1, h2⟩
  · exact Ag_mk (by unfold s8_feed; rw [if_neg (Inle h1)]; rfl) (by unfold s9_feed; rw [k_bound, h]; rfl)
  · exact Ag_mk (by unfold s8_feed; rw [if_pos (Ile h1), if_pos h2]; rfl) (by unfold s9_feed; rw [k_bound, h]; rfl)
  · obtain ⟨j, hj, rfl⟩ := few 9 (by decide) (Int32.le_trans (by decide) h1) (Int32.lt_of_le_of_lt h2 (by decide))
    match j, hj with
    | 0, _ => exact absurd h1 (by decide)
    | 1, _ => exact Ag_of rfl
    | 2, _ => exact Ag_of rfl
    | 3, _ => exact Ag_of rfl
    | 4, _ => exact Ag_of rfl
    | 5, _ => exact Ag_of rfl
    | 6, _ => exact Ag_of rfl
    | 7, _ => exact Ag_of rfl
    | 8, _ => exact Ag_of rfl
    | n + 9, h => exact absurd h (by omega)
theorem B_form (x : Int32) : Ag M0 (fun _ => True) (s8_form 0 x) (s9_form 80 x) := by
  rcases wy_cases x 0 2 with ⟨h, h1⟩ | ⟨h, h1, h2⟩ | ⟨h, h1, h2⟩
  · exact Ag_mk (by unfold s8_form; rw [k_within, h]; rfl) (by unfold s9_form; rw [k_bound, h]; rfl)
  · exact Ag_mk (by unfold s8_form; rw [k_within, h]; rfl) (by unfold s9_form; rw [k_bound, h]; rfl)
  · exact Ag_mk (by unfold s8_form; rw [k_within, h]; rfl) (by unfold s9_form; rw [k_bound, h]; rfl)
theorem k_whyPlayer (x y : Int32) (M : Mem) : s3_whyNot (link (link 0 1) 1) x y M = some (if 0 ≤ x ∧ x ≤ 4 then wy y 1 99 else 1, M) := by
  unfold s3_whyNot
  by_cases h1 : x < 0
  · rw [if_pos h1, if_neg (fun q => Inl q.1 h1)]
  · rw [if_neg h1]
    by_cases h2 : x < (5 : Int32)
    · rw [if_pos h2, k_within, cb_some, if_pos ⟨Ile h1, by
        obtain ⟨j, hj, rfl⟩ := few 5 (by decide) (Ile h1) h2
        exact nI_le (a := j) (b := 4) (by omega) (by decide)⟩]
    · rw [if_neg h2, if_neg (fun q => h2 (Int32.lt_of_le_of_lt q.2 (by decide)))]
theorem B_player (x y : Int32) : Ag M0 (fun _ => True) (s8_player 0 x y) (s9_player 80 x y) := by
  by_cases hx : 0 ≤ x ∧ x ≤ 4
  · rcases wy_cases y 1 99 with ⟨h, h1⟩ | ⟨h, h1, h2⟩ | ⟨h, h1, h2⟩
    · exact Ag_mk (by unfold s8_player; rw [k_whyPlayer, if_pos hx, h]; rfl) (by unfold s9_player; rw [k_isIn, if_pos hx, cb_some, if_neg (by decide), k_bound, h]; rfl)
    · exact Ag_mk (by unfold s8_player; rw [k_whyPlayer, if_pos hx, h]; rfl) (by unfold s9_player; rw [k_isIn, if_pos hx, cb_some, if_neg (by decide), k_bound, h]; rfl)
    · exact Ag_mk (by unfold s8_player; rw [k_whyPlayer, if_pos hx, h]; rfl) (by unfold s9_player; rw [k_isIn, if_pos hx, cb_some, if_neg (by decide), k_bound, h]; rfl)
  · exact Ag_mk (by unfold s8_player; rw [k_whyPlayer, if_neg hx]; rfl) (by unfold s9_player; rw [k_isIn, if_neg hx]; rfl)
theorem B_row (x : Int32) : Ag M0 (fun _ => True) (s8_row 300 0 x) (s9_row 300 80 x) := by
  rcases wy_cases x 1 300 with ⟨h, h1⟩ | ⟨h, h1, h2⟩ | ⟨h, h1, h2⟩
  · exact Ag_mk (by unfold s8_row; rw [k_within, h]; rfl) (by unfold s9_row; rw [k_bound, h]; rfl)
  · exact Ag_mk (by unfold s8_row; rw [k_within, h]; rfl) (by unfold s9_row; rw [k_bound, h]; rfl)
  · exact Ag_mk (by unfold s8_row; rw [k_within, h]; rfl) (by unfold s9_row; rw [k_bound, h]; rfl)
theorem B_next (x : Int32) : Ag M0 (fun _ => True) (s8_next 300 0 x) (s9_next 300 80 x) := by
  rcases wy_cases x 1 300 with ⟨h, h1⟩ | ⟨h, h1, h2⟩ | ⟨h, h1, h2⟩
  · exact Ag_mk (by unfold s8_next; rw [k_within, h]; rfl) (by unfold s9_next; rw [k_bound, h]; rfl)
  · exact Ag_mk (by unfold s8_next; rw [k_within, h]; rfl) (by unfold s9_next; rw [k_bound, h]; rfl)
  · exact Ag_mk (by unfold s8_next; rw [k_within, h]; rfl) (by unfold s9_next; rw [k_bound, h]; rfl)
theorem B_fairest (x y : Int32) : Ag M0 (fun _ => True) (s8_fairest 300 0 x y) (s9_fairest 300 80 x y) := by
  rcases wy_cases x 1 20 with ⟨h, h1⟩ | ⟨h, h1, h2⟩ | ⟨h, h1, h2⟩
  · exact Ag_mk (by unfold s8_fairest s8_whyNotSeeds; rw [k_within, h]; rfl) (by unfold s9_fairest; rw [k_bound, h]; rfl)
  · exact Ag_mk (by unfold s8_fairest s8_whyNotSeeds; rw [k_within, h]; rfl) (by unfold s9_fairest; rw [k_bound, h]; rfl)
  · exact Ag_mk (by unfold s8_fairest s8_whyNotSeeds; rw [k_within, h]; rfl) (by unfold s9_fairest; rw [k_bound, h]; rfl)
theorem B_lasts (x : Int32) : Ag M0 (fun _ => True) (s8_lasts 300 0 x) (s9_lasts 300 80 x) := by
  by_cases h0 : x < 0
  · exact Ag_mk (by unfold s8_lasts; rw [if_pos h0]; rfl) (by unfold s9_lasts; rw [k_isIn, if_neg (fun q => Inl q.1 h0)]; rfl)
  · by_cases h1 : x ≤ 2
    · exact Ag_mk (by unfold s8_lasts; rw [if_neg h0, if_pos h1]; rfl) (by unfold s9_lasts; rw [k_isIn, if_pos ⟨Ile h0, h1⟩]; rfl)
    · exact Ag_mk (by unfold s8_lasts; rw [if_neg h0, if_neg h1]; rfl) (by unfold s9_lasts; rw [k_isIn, if_neg (fun q => h1 q.2)]; rfl)
theorem B_would (x : Int32) : Ag M0 (fun _ => True) (s8_would 300 0 x) (s9_would 300 80 x) := by
  by_cases h0 : x < 0
  · exact Ag_mk (by unfold s8_would; rw [if_pos h0]; rfl) (by unfold s9_would; rw [k_isIn, if_neg (fun q => Inl q.1 h0)]; rfl)
  · by_cases h1 : x ≤ 1
    · obtain ⟨j, hj, rfl⟩ := few 2 (by decide) (Ile h0) (Int32.lt_of_le_of_lt h1 (by decide))
      match j, hj with
      | 0, _ => exact Ag_of (by decide +kernel)
      | 1, _ => exact Ag_of (by decide +kernel)
      | n + 2, h => exact absurd h (by omega)
    · exact Ag_mk (by unfold s8_would; rw [if_neg h0, if_neg h1]; rfl) (by unfold s9_would; rw [k_isIn, if_neg (fun q => h1 q.2)]; rfl)
theorem B_count (x : Int32) : Ag M0 (fun _ => True) (s8_count 300 0 x) (s9_count 300 80 x) := by
  by_cases h : 0 ≤ x ∧ x < 17
  · obtain ⟨j, hj, rfl⟩ := few 17 (by decide) h.1 h.2
    match j, hj with
    | 0, _ => exact Ag_of (by decide +kernel)
    | 1, _ => exact Ag_of (by decide +kernel)
    | 2, _ => exact Ag_of (by decide +kernel)
    | 3, _ => exact Ag_of (by decide +kernel)
    | 4, _ => exact Ag_of (by decide +kernel)
    | 5, _ => exact Ag_of (by decide +kernel)
    | 6, _ => exact Ag_of (by decide +kernel)
    | 7, _ => exact Ag_of (by decide +kernel)
    | 8, _ => exact Ag_of (by decide +kernel)
    | 9, _ => exact Ag_of (by decide +kernel)
    | 10, _ => exact Ag_of (by decide +kernel)
    | 11, _ => exact Ag_of (by decide +kernel)
    | 12, _ => exact Ag_of (by decide +kernel)
    | 13, _ => exact Ag_of (by decide +kernel)
    | 14, _ => exact Ag_of (by decide +kernel)
    | 15, _ => exact Ag_of (by decide +kernel)
    | 16, _ => exact Ag_of (by decide +kernel)
    | n + 17, h => exact absurd h (by omega)
  · have ne : ∀ k : Nat, k < 17 → ¬ x = nI k := fun k hk e => h ⟨by rw [e]; exact nI_pos' (by omega), by rw [e]; exact nI_lt hk (by decide)⟩
    have n0 : ¬ x = 0 := ne 0 (by omega)
    have n1 : ¬ x = 1 := ne 1 (by omega)
    have n2 : ¬ x = 2 := ne 2 (by omega)
    have n3 : ¬ x = 3 := ne 3 (by omega)
    have n4 : ¬ x = 4 := ne 4 (by omega)
    have n5 : ¬ x = 5 := ne 5 (by omega)
    have n6 : ¬ x = 6 := ne 6 (by omega)
    have n7 : ¬ x = 7 := ne 7 (by omega)
    have n8 : ¬ x = 8 := ne 8 (by omega)
    have e22 : ∀ M, s8_count_22 300 0 x M = some (-9, M) := by
      intro M
      unfold s8_count_22
      rw [if_neg n0, if_neg n1, if_neg n2, if_neg n3, if_neg n4, if_neg n5, if_neg n6, if_neg n7, if_neg n8]
    have hin : ¬ ((11 : Int32) ≤ x ∧ x ≤ 16) := fun q => h ⟨Int32.le_trans (by decide) q.1, Int32.lt_of_le_of_lt q.2 (by decide)⟩
    refine Ag_mk (r := -9) (M1 := M0) (M2 := M0) ?_ ?_
    · unfold s8_count
      by_cases h1 : x < 11
      · rw [if_pos h1, e22]
      · rw [if_neg h1]
        by_cases h2 : (16 : Int32) < x
        · rw [if_pos h2, e22]
        · exact absurd ⟨Ile h1, Ile h2⟩ hin
    · unfold s9_count
      rw [k_isIn, if_neg hin, cb_some, if_pos rfl, if_neg n0, if_neg n1, if_neg n2, if_neg n3, if_neg n4, if_neg n5, if_neg n6, if_neg n7, if_neg n8]
