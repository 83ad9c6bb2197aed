/-! ===== small rules of the programs over the memory ===== -/
theorem cb_some (r : Int32) (M : Mem) (F : Int32 → Mem → Option Res) : cb (some (r, M)) F = F r M := rfl
theorem mlet_e (X : Mem) (F : Mem → Option Res) : mlet X F = F X := rfl
theorem ilet_e (x : Int32) (F : Int32 → Option Res) : ilet x F = F x := rfl
def Ok (E : Option Res) : Prop := ∃ M, E = some (1, M)
theorem Ok.ite {c : Prop} [Decidable c] {A B : Option Res} (h1 : c → Ok A) (h2 : ¬ c → Ok B) : Ok (if c then A else B) := by
  by_cases h : c
  · rw [if_pos h]; exact h1 h
  · rw [if_neg h]; exact h2 h
theorem Ok.pos {c : Prop} [Decidable c] {A B : Option Res} (h : c) (h1 : Ok A) : Ok (if c then A else B) := by rw [if_pos h]; exact h1
theorem Ok.neg {c : Prop} [Decidable c] {A B : Option Res} (h : ¬ c) (h1 : Ok B) : Ok (if c then A else B) := by rw [if_neg h]; exact h1
theorem Ok.cb {E : Option Res} {F : Int32 → Mem → Option Res} {r : Int32} {M : Mem} (h : E = some (r, M)) (k : Ok (F r M)) : Ok (cb E F) := by rw [h]; exact k
theorem Ok.ilet {x : Int32} {F : Int32 → Option Res} (k : Ok (F x)) : Ok (ilet x F) := k
theorem Ok.ret {M : Mem} : Ok (some (1, M)) := ⟨M, rfl⟩
theorem inB_o {L j d : Nat} (hj : 5 * j + 5 ≤ L) (hL : L < 2 ^ 30) (hd : d < 5) : inB (nI (5 * j) + nI d) L := by
  rw [nI_add]
  exact vp_in_nI (by omega) (by omega)
theorem inB_0 {L j : Nat} (hj : 5 * j + 5 ≤ L) (hL : L < 2 ^ 30) : inB (nI (5 * j)) L := vp_in_nI (by omega) (by omega)
/-- two runs with one answer -/
def Ag (M : Mem) (P : Mem → Prop) (A B : Mem → Option Res) : Prop := ∃ r M1 M2, A M = some (r, M1) ∧ B M1 = some (r, M2) ∧ P M2
theorem Ag_of {M : Mem} {A B : Mem → Option Res} (h : (cb (A M) (fun r M1 => cb (B M1) (fun r' M2 => if r = r' then some (1, M2) else none))).isSome = true) : Ag M (fun _ => True) A B := by
  cases hA : A M with
  | none => rw [hA] at h; cases h
  | some q =>
    obtain ⟨r, M1⟩ := q
    rw [hA, cb_some] at h
    cases hB : B M1 with
    | none => rw [hB] at h; cases h
    | some q2 =>
      obtain ⟨r', M2⟩ := q2
      rw [hB, cb_some] at h
      by_cases e : r = r'
      · subst e
        exact ⟨r, M1, M2, hA, hB, trivial⟩
      · rw [if_neg e] at h; cases h
theorem Ag_mk {M : Mem} {A B : Mem → Option Res} {r : Int32} {M1 M2 : Mem} (h1 : A M = some (r, M1)) (h2 : B M1 = some (r, M2)) : Ag M (fun _ => True) A B := ⟨r, M1, M2, h1, h2, trivial⟩
theorem Ile {a b : Int32} (h : ¬ a < b) : b ≤ a := Int32.not_lt.mp h
theorem Ilt {a b : Int32} (h : ¬ a ≤ b) : b < a := Int32.not_le.mp h
theorem Inl {a b : Int32} (h : a ≤ b) : ¬ b < a := Int32.not_lt.mpr h
theorem Inle {a b : Int32} (h : a < b) : ¬ b ≤ a := Int32.not_le.mpr h
def wy (x a b : Int32) : Int32 := if x < a then 4 else if b < x then 6 else 0
theorem k_within (x a b : Int32) (M : Mem) : s8_whyNotWithin x a b M = some (wy x a b, M) := by
  unfold s8_whyNotWithin wy
  by_cases h1 : a ≤ x
  · rw [if_pos h1, if_neg (Inl h1)]
    by_cases h2 : x ≤ b
    · rw [if_pos h2, if_neg (Inl h2)]
    · rw [if_neg h2, if_pos (Ilt h2)]
  · rw [if_neg h1, if_pos (Ilt h1)]
theorem k_bound (x a b : Int32) (M : Mem) : s9_bound x a b M = some (-wy x a b, M) := by
  unfold s9_bound wy
  by_cases h1 : a ≤ x
  · rw [if_pos h1, if_neg (Inl h1)]
    by_cases h2 : x ≤ b
    · rw [if_pos h2, if_neg (Inl h2)]; rfl
    · rw [if_neg h2, if_pos (Ilt h2)]
  · rw [if_neg h1, if_pos (Ilt h1)]
theorem k_isIn (x a b : Int32) (M : Mem) : s9_isIn x a b M = some (if a ≤ x ∧ x ≤ b then 1 else 0, M) := by
  unfold s9_isIn
  by_cases h1 : x < a
  · rw [if_pos h1, if_neg (fun q => Inl q.1 h1)]
  · rw [if_neg h1]
    by_cases h2 : b < x
    · rw [if_pos h2, if_neg (fun q => Inl q.2 h2)]
    · rw [if_neg h2, if_pos ⟨Ile h1, Ile h2⟩]
theorem wy_cases (x a b : Int32) : (wy x a b = 4 ∧ x < a) ∨ (wy x a b = 6 ∧ ¬ x < a ∧ b < x) ∨ (wy x a b = 0 ∧ a ≤ x ∧ x ≤ b) := by
  unfold wy
  by_cases h1 : x < a
  · exact Or.inl ⟨if_pos h1, h1⟩
  · by_cases h2 : b < x
    · exact Or.inr (Or.inl ⟨by rw [if_neg h1, if_pos h2], h1, h2⟩)
    · exact Or.inr (Or.inr ⟨by rw [if_neg h1, if_neg h2], Ile h1, Ile h2⟩)
/-- a number of few is one of them -/
theorem few {x : Int32} (n : Nat) (hn : n < 2 ^ 31) (h0 : 0 ≤ x) (h : x < nI n) : ∃ j : Nat, j < n ∧ x = nI j := by
  rcases pk_ix x hn with q | q | q
  · exact absurd q (Inl h0)
  · exact absurd h (Inl q)
  · exact q
