/-! ===== programs over the memory: what they come to ===== -/
def Sp (E : Option Res) (P : Int32 → Mem → Prop) : Prop := ∃ r M, E = some (r, M) ∧ P r M
theorem Sp.ret {r : Int32} {M : Mem} {P : Int32 → Mem → Prop} (h : P r M) : Sp (some (r, M)) P := ⟨r, M, rfl, h⟩
theorem Sp.pos {c : Prop} [Decidable c] {A B : Option Res} {P : Int32 → Mem → Prop} (h : c) (h1 : Sp A P) : Sp (if c then A else B) P := by rw [if_pos h]; exact h1
theorem Sp.neg {c : Prop} [Decidable c] {A B : Option Res} {P : Int32 → Mem → Prop} (h : ¬ c) (h1 : Sp B P) : Sp (if c then A else B) P := by rw [if_neg h]; exact h1
theorem Sp.ite {c : Prop} [Decidable c] {A B : Option Res} {P : Int32 → Mem → Prop} (h1 : c → Sp A P) (h2 : ¬ c → Sp B P) : Sp (if c then A else B) P := by
  by_cases h : c
  · exact Sp.pos h (h1 h)
  · exact Sp.neg h (h2 h)
theorem Sp.cb {E : Option Res} {F : Int32 → Mem → Option Res} {P Q : Int32 → Mem → Prop} (h : Sp E P) (k : ∀ r M, P r M → Sp (F r M) Q) : Sp (cb E F) Q := by
  obtain ⟨r, M, rfl, h2⟩ := h
  exact k r M h2
theorem Sp_cbe {E : Option Res} {F : Int32 → Mem → Option Res} {Q : Int32 → Mem → Prop} {r : Int32} {M : Mem} (h : E = some (r, M)) (k : Sp (F r M) Q) : Sp (cb E F) Q := by
  rw [h]; exact k
theorem Sp.mlet {X : Mem} {F : Mem → Option Res} {P : Int32 → Mem → Prop} (k : Sp (F X) P) : Sp (mlet X F) P := k
theorem Sp.ilet {x : Int32} {F : Int32 → Option Res} {P : Int32 → Mem → Prop} (k : Sp (F x) P) : Sp (ilet x F) P := k
theorem Sp.mono {E : Option Res} {P Q : Int32 → Mem → Prop} (h : Sp E P) (k : ∀ r M, P r M → Q r M) : Sp E Q := by
  obtain ⟨r, M, h1, h2⟩ := h
  exact ⟨r, M, h1, k r M h2⟩
theorem Ag_sp {M : Mem} {A B : Mem → Option Res} {P : Int32 → Mem → Prop} {Q : Mem → Prop} (h1 : Sp (A M) P) (h2 : ∀ r M1, P r M1 → Sp (B M1) (fun r' M2 => r = r' ∧ Q M2)) : Ag M Q A B := by
  obtain ⟨r, M1, e1, p1⟩ := h1
  obtain ⟨r', M2, e2, rfl, q2⟩ := h2 r M1 p1
  exact ⟨r, M1, M2, e1, e2, q2⟩
theorem ms_ne {M : Mem} {o k q : Nat} {v : Int32} (h : q ≠ o) : mset M o k v q = M q := if_neg h
theorem ms_eq {M : Mem} {o k : Nat} {v : Int32} : mset M o k v o k = v := by
  show (if o = o then upd (M o) k v else M o) k = v
  rw [if_pos rfl]
  exact if_pos rfl
theorem ms_ne2 {M : Mem} {o k j : Nat} {v : Int32} (h : j ≠ k) : mset M o k v o j = M o j := by
  show (if o = o then upd (M o) k v else M o) j = M o j
  rw [if_pos rfl]
  exact if_neg h
/-- a row of the reference kept -/
theorem passes_keep {n a len c : Nat} (ha : alen a = len) (h80 : a ≠ 80) (h98 : a ≠ 98) (hl : len ≤ 60) (hc : c + len ≤ 400) : ∀ (f i : Nat) (M : Mem), i ≤ len → len < i + f → M 80 31 = 1 → M 80 32 = nI (c + i) → Sp (s9_passes_2 n 80 a f (nI i) M) (fun _ M' => M' 80 32 = nI (c + len) ∧ (∀ k, k ≠ 32 → M' 80 k = M 80 k) ∧ (∀ q, q ≠ 80 → q ≠ 98 → M' q = M q) ∧ (∀ j, j < c + i ∨ c + len ≤ j → M' 98 j = M 98 j) ∧ ∀ j, i ≤ j → j < len → M' 98 (c + j) = M a j) := by
  intro f
  induction f with
  | zero => intro i M h1 h2; omega
  | succ f ih =>
    intro i M h1 h2 h31 h32
    rw [s9_passes_2]
    refine Sp.ite (fun h => Sp.ret ?_) (fun h => ?_)
    · have hi : len ≤ i := by
        rw [ha] at h
        exact Nat.not_lt.mp (fun q => absurd h (nI_ge q (by omega)))
      have e : i = len := by omega
      subst e
      exact ⟨h32, fun _ _ => rfl, fun _ _ _ => rfl, fun _ _ => rfl, fun j h3 h4 => by omega⟩
    · have hi : i < len := by
        rw [ha] at h
        exact Nat.not_le.mp (fun q => h (nI_le q (by omega)))
      refine Sp.neg (by rw [h31]; decide) ?_
      refine Sp.pos (by rw [ha]; exact vp_in_nI hi (by omega)) ?_
      refine Sp.pos (by rw [h32]; exact vp_in_nI (by show c + i < 400; omega) (by decide)) ?_
      refine Sp.mlet ?_
      rw [s9_passes_42]
      refine Sp.mlet (Sp.ilet ?_)
      have e1 : nI i + 1 = nI (i + 1) := nI_1 i
      rw [e1]
      have el : link 80 29 = 98 := rfl
      rw [h32, el, nI_clamp (by omega), nI_clamp (by omega)]
      refine (ih (i + 1) _ (by omega) (by omega) ?_ ?_).mono ?_
      · rw [ms_ne2 (by decide), ms_ne (by decide)]; exact h31
      · rw [ms_eq, ms_ne (by decide), h32, nI_1]; rfl
      · intro r M' ⟨q1, q2, q3, q4, q5⟩
        refine ⟨q1, fun k hk => ?_, fun q hq1 hq2 => ?_, fun j hj => ?_, fun j hj1 hj2 => ?_⟩
        · rw [q2 k hk, ms_ne2 hk, ms_ne (by decide)]
        · rw [q3 q hq1 hq2, ms_ne hq1, ms_ne hq2]
        · rw [q4 j (by omega), ms_ne (by decide), ms_ne2 (by omega)]
        · by_cases e : j = i
          · subst e
            rw [q4 _ (Or.inl (by omega)), ms_ne (by decide), ms_eq]
          · rw [q5 j (by omega) hj2, ms_ne h80, ms_ne h98]
/-- a row of the reference put back -/
theorem passes_back {n a len c : Nat} (ha : alen a = len) (h80 : a ≠ 80) (h98 : a ≠ 98) (hl : len ≤ 60) (hc : c + len ≤ 400) : ∀ (f i : Nat) (M : Mem), i ≤ len → len < i + f → M 80 31 = 0 → M 80 32 = nI (c + i) → Sp (s9_passes_2 n 80 a f (nI i) M) (fun _ M' => M' 80 32 = nI (c + len) ∧ (∀ k, k ≠ 32 → M' 80 k = M 80 k) ∧ (∀ q, q ≠ 80 → q ≠ a → M' q = M q) ∧ (∀ j, j < i ∨ len ≤ j → M' a j = M a j) ∧ ∀ j, i ≤ j → j < len → M' a j = M 98 (c + j)) := by
  intro f
  induction f with
  | zero => intro i M h1 h2; omega
  | succ f ih =>
    intro i M h1 h2 h31 h32
    rw [s9_passes_2]
    refine Sp.ite (fun h => Sp.ret ?_) (fun h => ?_)
    · have hi : len ≤ i := by
        rw [ha] at h
        exact Nat.not_lt.mp (fun q => absurd h (nI_ge q (by omega)))
      have e : i = len := by omega
      subst e
      exact ⟨h32, fun _ _ => rfl, fun _ _ _ => rfl, fun _ _ => rfl, fun j h3 h4 => by omega⟩
    · have hi : i < len := by
        rw [ha] at h
        exact Nat.not_le.mp (fun q => h (nI_le q (by omega)))
      refine Sp.pos h31 ?_
      refine Sp.pos (by rw [h32]; exact vp_in_nI (by show c + i < 400; omega) (by decide)) ?_
      refine Sp.pos (by rw [ha]; exact vp_in_nI hi (by omega)) ?_
      refine Sp.mlet ?_
      rw [s9_passes_42]
      refine Sp.mlet (Sp.ilet ?_)
      have e1 : nI i + 1 = nI (i + 1) := nI_1 i
      rw [e1]
      have el : link 80 29 = 98 := rfl
      rw [h32, el, nI_clamp (by omega), nI_clamp (by omega)]
      refine (ih (i + 1) _ (by omega) (by omega) ?_ ?_).mono ?_
      · rw [ms_ne2 (by decide), ms_ne (Ne.symm h80)]; exact h31
      · rw [ms_eq, ms_ne (Ne.symm h80), h32, nI_1]; rfl
      · intro r M' ⟨q1, q2, q3, q4, q5⟩
        refine ⟨q1, fun k hk => ?_, fun q hq1 hq2 => ?_, fun j hj => ?_, fun j hj1 hj2 => ?_⟩
        · rw [q2 k hk, ms_ne2 hk, ms_ne (Ne.symm h80)]
        · rw [q3 q hq1 hq2, ms_ne hq1, ms_ne hq2]
        · rw [q4 j (by omega), ms_ne h80, ms_ne2 (by omega)]
        · by_cases e : j = i
          · subst e
            rw [q4 _ (Or.inl (by omega)), ms_ne h80, ms_eq]
          · rw [q5 j (by omega) hj2, ms_ne (by decide), ms_ne (Ne.symm h98)]
