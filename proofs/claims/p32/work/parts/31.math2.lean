/-! ===== who goes, which chair goes, walking, a tenth, a party ===== -/
def nrn (P : PAy) (w : Nat) : Nat → Nat
  | 0 => 60
  | p + 1 => if P 0 p = 1 ∧ frA (P 10 0) (P 1 w) p < nrn P w p then frA (P 10 0) (P 1 w) p else nrn P w p
def nr (P : PAy) (w : Nat) : Nat := nrn P w (P 10 0)
theorem nrn_spec {P : PAy} {w : Nat} : ∀ (n : Nat), nrn P w n ≤ 60 ∧ (∀ p, p < n → P 0 p = 1 → nrn P w n ≤ frA (P 10 0) (P 1 w) p) ∧ (nrn P w n = 60 ∨ ∃ p, p < n ∧ P 0 p = 1 ∧ nrn P w n = frA (P 10 0) (P 1 w) p) := by
  intro n
  induction n with
  | zero => exact ⟨Nat.le_refl _, fun p h => by omega, Or.inl rfl⟩
  | succ n ih =>
    obtain ⟨i1, i2, i3⟩ := ih
    have e : nrn P w (n + 1) = if P 0 n = 1 ∧ frA (P 10 0) (P 1 w) n < nrn P w n then frA (P 10 0) (P 1 w) n else nrn P w n := rfl
    by_cases q : P 0 n = 1 ∧ frA (P 10 0) (P 1 w) n < nrn P w n
    · rw [e, if_pos q]
      refine ⟨by omega, fun p h1 h2 => ?_, Or.inr ⟨n, by omega, q.1, rfl⟩⟩
      by_cases e2 : p = n
      · rw [e2]; exact Nat.le_refl _
      · have := i2 p (by omega) h2
        omega
    · rw [e, if_neg q]
      refine ⟨i1, fun p h1 h2 => ?_, ?_⟩
      · by_cases e2 : p = n
        · subst e2
          exact Nat.not_lt.mp (fun z => q ⟨h2, z⟩)
        · exact i2 p (by omega) h2
      · rcases i3 with i3 | ⟨p, h1, h2, h3⟩
        · exact Or.inl i3
        · exact Or.inr ⟨p, by omega, h2, h3⟩
theorem nr_uniq {P : PAy} {w x : Nat} (hV : VA P) (h2 : ∀ p, P 0 p = 1 → x ≤ frA (P 10 0) (P 1 w) p) (h1 : x ≤ 60) (h3 : x = 60 ∨ ∃ p, P 0 p = 1 ∧ x = frA (P 10 0) (P 1 w) p) : x = nr P w := by
  obtain ⟨i1, i2, i3⟩ := nrn_spec (P := P) (w := w) (P 10 0)
  have a1 : x ≤ nr P w := by
    rcases i3 with i3 | ⟨p, j1, j2, j3⟩
    · unfold nr; omega
    · unfold nr; rw [j3]; exact h2 p j2
  have a2 : nr P w ≤ x := by
    rcases h3 with h3 | ⟨p, j2, j3⟩
    · unfold nr; omega
    · rw [j3]; exact i2 p (hV.cN j2) j2
  omega
/-- who goes of the first n (0 none, else its number and 1) -/
def gon (P : PAy) (S : Nat → Nat) : Nat → Nat
  | 0 => 0
  | w + 1 => if P 3 w = 1 ∧ S w = 0 ∧ (gon P S w = 0 ∨ nr P (gon P S w - 1) ≤ nr P w) then w + 1 else gon P S w
theorem gon_spec {P : PAy} {S : Nat → Nat} : ∀ (n : Nat), gon P S n ≤ n ∧ (gon P S n ≠ 0 → P 3 (gon P S n - 1) = 1) := by
  intro n
  induction n with
  | zero => exact ⟨Nat.le_refl _, fun h => absurd rfl h⟩
  | succ n ih =>
    have e : gon P S (n + 1) = if P 3 n = 1 ∧ S n = 0 ∧ (gon P S n = 0 ∨ nr P (gon P S n - 1) ≤ nr P n) then n + 1 else gon P S n := rfl
    by_cases q : P 3 n = 1 ∧ S n = 0 ∧ (gon P S n = 0 ∨ nr P (gon P S n - 1) ≤ nr P n)
    · rw [e, if_pos q]
      exact ⟨Nat.le_refl _, fun _ => by show P 3 (n + 1 - 1) = 1; exact q.1⟩
    · rw [e, if_neg q]
      exact ⟨by omega, ih.2⟩
noncomputable def goer (P : PAy) : Nat := gon P (sit P) (P 10 1)
def IsOn (P : PAy) (p k : Nat) : Prop := FstA (fun j => 1 ≤ j ∧ P 0 ((p + j) % P 10 0) = 1) k
def IsBk (P : PAy) (p k : Nat) : Prop := FstA (fun j => 1 ≤ j ∧ P 0 ((p + (P 10 0 - j)) % P 10 0) = 1) k
noncomputable def wsA (P : PAy) (p : Nat) : Nat := Classical.epsilon (fun k => IsOn P p k) + Classical.epsilon (fun k => IsBk P p k)
theorem wsA_eq {P : PAy} {p a b : Nat} (ha : IsOn P p a) (hb : IsBk P p b) : wsA P p = a + b := by
  have h1 : Classical.epsilon (fun k => IsOn P p k) = a := Fst_eps ha
  have h2 : Classical.epsilon (fun k => IsBk P p k) = b := Fst_eps hb
  unfold wsA; rw [h1, h2]
noncomputable def lvn (P : PAy) : Nat → Nat
  | 0 => 0
  | p + 1 => cif (P 0 p = 1 ∧ (lvn P p = 0 ∨ P 10 4 = 1 ∨ (P 10 4 = 2 ∧ wsA P p < wsA P (lvn P p - 1)))) (p + 1) (lvn P p)
noncomputable def lv (P : PAy) : Nat := lvn P (P 10 0)
theorem lvn_spec {P : PAy} : ∀ (n : Nat), lvn P n ≤ n ∧ (lvn P n = 0 → ∀ p, p < n → P 0 p ≠ 1) ∧ (lvn P n ≠ 0 → P 0 (lvn P n - 1) = 1) := by
  intro n
  induction n with
  | zero => exact ⟨Nat.le_refl _, fun _ p h => by omega, fun h => absurd rfl h⟩
  | succ n ih =>
    obtain ⟨i1, i2, i3⟩ := ih
    have e : lvn P (n + 1) = cif (P 0 n = 1 ∧ (lvn P n = 0 ∨ P 10 4 = 1 ∨ (P 10 4 = 2 ∧ wsA P n < wsA P (lvn P n - 1)))) (n + 1) (lvn P n) := rfl
    by_cases q : P 0 n = 1 ∧ (lvn P n = 0 ∨ P 10 4 = 1 ∨ (P 10 4 = 2 ∧ wsA P n < wsA P (lvn P n - 1)))
    · rw [e, cif_pos q]
      exact ⟨Nat.le_refl _, fun h => by omega, fun _ => by show P 0 (n + 1 - 1) = 1; exact q.1⟩
    · rw [e, cif_neg q]
      refine ⟨by omega, fun h p h1 h2 => ?_, i3⟩
      by_cases e2 : p = n
      · subst e2; exact q ⟨h2, Or.inl h⟩
      · exact i2 h p (by omega) h2
/-- the party behind a stop -/
noncomputable def erA (P : PAy) : PAy := if goer P = 0 then P else if rk P 60 ≤ 1 then pset P 3 (goer P - 1) 0 else pset (pset P 3 (goer P - 1) 0) 0 (lv P - 1) 0
noncomputable def erB (P : PAy) : PAy := pset (pset (erA P) 10 7 (P 10 7 + 1)) 10 6 0
noncomputable def er (P : PAy) : PAy := if goer P = 0 ∨ insc (erA P) (P 10 1) = 1 then pset (erB P) 10 8 1 else erB P
/-- who is at a place -/
def tkn (P : PAy) (p : Nat) : Nat → Nat
  | 0 => 0
  | v + 1 => if P 3 v = 1 ∧ P 1 v = p then 1 else tkn P p v
def tk (P : PAy) (p : Nat) : Nat := tkn P p (P 10 1)
theorem tkn_le {P : PAy} {p : Nat} : ∀ n, tkn P p n ≤ 1 := by
  intro n
  induction n with
  | zero => exact Nat.zero_le _
  | succ n ih =>
    show (if P 3 n = 1 ∧ P 1 n = p then 1 else tkn P p n) ≤ 1
    split
    · exact Nat.le_refl _
    · exact ih
theorem tkn_1 {P : PAy} {p : Nat} : ∀ n, tkn P p n = 1 ↔ ∃ v, v < n ∧ P 3 v = 1 ∧ P 1 v = p := by
  intro n
  induction n with
  | zero => exact ⟨fun h => absurd h (by show ¬ (0 : Nat) = 1; omega), fun ⟨v, h, _⟩ => by omega⟩
  | succ n ih =>
    have e : tkn P p (n + 1) = if P 3 n = 1 ∧ P 1 n = p then 1 else tkn P p n := rfl
    by_cases q : P 3 n = 1 ∧ P 1 n = p
    · rw [e, if_pos q]
      exact ⟨fun _ => ⟨n, by omega, q.1, q.2⟩, fun _ => rfl⟩
    · rw [e, if_neg q, ih]
      constructor
      · intro ⟨v, h1, h2, h3⟩
        exact ⟨v, by omega, h2, h3⟩
      · intro ⟨v, h1, h2, h3⟩
        by_cases e2 : v = n
        · subst e2; exact absurd ⟨h2, h3⟩ q
        · exact ⟨v, by omega, h2, h3⟩
theorem tkn_0 {P : PAy} {p n : Nat} : tkn P p n = 0 ↔ ∀ v, v < n → P 3 v = 1 → P 1 v ≠ p := by
  have h1 := tkn_le (P := P) (p := p) n
  have h2 := tkn_1 (P := P) (p := p) n
  constructor
  · intro h v q1 q2 q3
    have := h2.mpr ⟨v, q1, q2, q3⟩
    omega
  · intro h
    by_cases q : tkn P p n = 1
    · obtain ⟨v, q1, q2, q3⟩ := h2.mp q
      exact absurd q3 (h v q1 q2)
    · omega
def nxtA (P : PAy) (w : Nat) : Nat := if P 1 w + 1 < P 10 0 then P 1 w + 1 else 0
def pts (P : PAy) (w : Nat) : Nat := P 2 w + (if P 0 (P 1 w) = 1 then P 6 w else P 5 w)
/-- one walks on -/
def wst (P : PAy) (w : Nat) : PAy :=
  if P 3 w = 0 then P
  else if pts P w < 100 then pset P 2 w (pts P w)
  else if tk P (nxtA P w) = 1 then pset P 2 w 99
  else pset (pset P 1 w (nxtA P w)) 2 w (pts P w - 100)
def wkn (P : PAy) : Nat → PAy
  | 0 => P
  | w + 1 => wst (wkn P w) w
def wkA (P : PAy) : PAy := wkn P (P 10 1)
/-- what stays as one walks -/
theorem wst_keep {P : PAy} {w a b : Nat} (h : (a ≠ 1 ∧ a ≠ 2) ∨ b ≠ w) : wst P w a b = P a b := by
  have key : ∀ (Q : PAy) (i v : Nat), (i = 1 ∨ i = 2) → pset Q i w v a b = Q a b := by
    intro Q i v hi
    rcases h with h | h
    · exact ps_i (by omega)
    · exact ps_j h
  unfold wst
  split
  · rfl
  · split
    · exact key _ _ _ (Or.inr rfl)
    · split
      · exact key _ _ _ (Or.inr rfl)
      · rw [key _ _ _ (Or.inr rfl), key _ _ _ (Or.inl rfl)]
theorem wkn_keep {P : PAy} {a b : Nat} : ∀ n, ((a ≠ 1 ∧ a ≠ 2) ∨ n ≤ b) → wkn P n a b = P a b := by
  intro n
  induction n with
  | zero => intro _; rfl
  | succ n ih =>
    intro h
    show wst (wkn P n) n a b = P a b
    rw [wst_keep (by omega), ih (by omega)]
theorem nxt_lt {P : PAy} {w : Nat} (h4 : 4 ≤ P 10 0) : nxtA P w < P 10 0 := by
  unfold nxtA; split <;> omega
theorem nxt_ne {P : PAy} {w : Nat} (h4 : 4 ≤ P 10 0) : nxtA P w ≠ P 1 w := by
  unfold nxtA; split <;> omega
theorem V_wst {P : PAy} {w : Nat} (h : VA P) (hw : w < P 10 1) : VA (wst P w) := by
  have k10 : ∀ k, wst P w 10 k = P 10 k := fun k => wst_keep (Or.inl ⟨by decide, by decide⟩)
  have k0 : ∀ k, wst P w 0 k = P 0 k := fun k => wst_keep (Or.inl ⟨by decide, by decide⟩)
  have k3 : ∀ k, wst P w 3 k = P 3 k := fun k => wst_keep (Or.inl ⟨by decide, by decide⟩)
  have hW := h.w hw
  obtain ⟨a1, a2, a3, a4, a5, a6, a7, a8, a9⟩ := hW
  refine ⟨?_, ?_, ⟨?_, ?_, ?_⟩, ?_, ?_, ?_⟩
  · rw [k10]; exact h.1
  · rw [k10]; exact h.2.1
  · intro p; rw [k0]; exact h.c1 p
  · intro p; rw [k0, k10]; exact fun q => h.c0 q
  · rw [rk_ext (fun p _ => k0 p)]; exact h.c11
  · intro v hv
    rw [k10] at hv
    by_cases e : v = w
    · subst e
      unfold VWa
      rw [k10, k3, wst_keep (a := 4) (Or.inl ⟨by decide, by decide⟩), wst_keep (a := 5) (Or.inl ⟨by decide, by decide⟩), wst_keep (a := 6) (Or.inl ⟨by decide, by decide⟩), wst_keep (a := 7) (Or.inl ⟨by decide, by decide⟩), wst_keep (a := 8) (Or.inl ⟨by decide, by decide⟩), wst_keep (a := 9) (Or.inl ⟨by decide, by decide⟩)]
      have hpl : wst P v 1 v < P 10 0 ∧ wst P v 2 v ≤ 99 := by
        unfold wst
        split
        · exact ⟨a1, a2⟩
        · split
          · exact ⟨by rw [ps_i (by decide)]; exact a1, by rw [ps_eq]; omega⟩
          · split
            · exact ⟨by rw [ps_i (by decide)]; exact a1, by rw [ps_eq]; omega⟩
            · refine ⟨by rw [ps_i (by decide), ps_eq]; exact nxt_lt h.n4, ?_⟩
              rw [ps_eq]
              have : pts P v ≤ 198 := by unfold pts; split <;> omega
              omega
      exact ⟨hpl.1, hpl.2, a3, a4, a5, a6, a7, a8, a9⟩
    · have kk : ∀ a, wst P w a v = P a v := fun a => wst_keep (Or.inr e)
      unfold VWa
      rw [k10, kk, kk, kk, kk, kk, kk, kk, kk, kk]
      exact h.w hv
  · intro u v hu hv
    rw [k10] at hu hv
    rw [k3, k3]
    intro i1 i2
    -- places
    have pl : ∀ x, x < P 10 1 → wst P w 1 x = P 1 x ∨ (x = w ∧ P 3 w = 1 ∧ wst P w 1 x = nxtA P w ∧ tk P (nxtA P w) ≠ 1) := by
      intro x hx
      by_cases e : x = w
      · subst e
        unfold wst
        split
        · exact Or.inl rfl
        · split
          · exact Or.inl (ps_i (by decide))
          · split
            · exact Or.inl (ps_i (by decide))
            · rename_i q1 q2 q3
              exact Or.inr ⟨rfl, by omega, by rw [ps_i (by decide), ps_eq], q3⟩
      · exact Or.inl (wst_keep (Or.inr e))
    intro hp
    rcases pl u hu with e1 | ⟨e1, e2, e3, e4⟩
    · rcases pl v hv with f1 | ⟨f1, f2, f3, f4⟩
      · rw [e1, f1] at hp
        exact h.i u v hu hv i1 i2 hp
      · rw [e1, f3] at hp
        exact absurd ((tkn_1 _).mpr ⟨u, hu, i1, hp⟩) f4
    · rcases pl v hv with f1 | ⟨f1, f2, f3, f4⟩
      · rw [e3, f1] at hp
        exact absurd ((tkn_1 _).mpr ⟨v, hv, i2, hp.symm⟩) e4
      · rw [e1, f1]
  · unfold VSa
    rw [k10, k10, k10, k10, k10]
    exact h.s
theorem V_wkn {P : PAy} (h : VA P) : ∀ n, n ≤ P 10 1 → VA (wkn P n) := by
  intro n
  induction n with
  | zero => intro _; exact h
  | succ n ih =>
    intro hn
    exact V_wst (ih (by omega)) (by rw [wkn_keep n (Or.inl ⟨by decide, by decide⟩)]; omega)
theorem V_wk {P : PAy} (h : VA P) : VA (wkA P) := V_wkn h _ (Nat.le_refl _)
theorem wk_keep {P : PAy} {a b : Nat} (h : (a ≠ 1 ∧ a ≠ 2) ∨ P 10 1 ≤ b) : wkA P a b = P a b := wkn_keep _ h
/-- a scalar that is put: the party can still be -/
theorem V_sc {P : PAy} {k v : Nat} (h : VA P) (hk : 2 ≤ k) (hs : VSa (pset P 10 k v)) : VA (pset P 10 k v) := by
  have k10 : ∀ j, j < 2 → pset P 10 k v 10 j = P 10 j := fun j hj => ps_j (by omega)
  have kr : ∀ a b, a ≠ 10 → pset P 10 k v a b = P a b := fun a b ha => ps_i ha
  refine ⟨?_, ?_, ⟨?_, ?_, ?_⟩, ?_, ?_, hs⟩
  · rw [k10 0 (by decide)]; exact h.1
  · rw [k10 1 (by decide)]; exact h.2.1
  · intro p; rw [kr _ _ (by decide)]; exact h.c1 p
  · intro p; rw [kr 0 _ (by decide), k10 0 (by decide)]; exact fun q => h.c0 q
  · rw [rk_ext (fun p _ => kr 0 p (by decide))]; exact h.c11
  · intro w hw
    rw [k10 1 (by decide)] at hw
    unfold VWa
    rw [k10 0 (by decide), kr _ _ (by decide), kr _ _ (by decide), kr _ _ (by decide), kr _ _ (by decide), kr _ _ (by decide), kr _ _ (by decide), kr _ _ (by decide), kr _ _ (by decide), kr _ _ (by decide)]
    exact h.w hw
  · intro u w
    rw [k10 1 (by decide), kr _ _ (by decide), kr _ _ (by decide), kr _ _ (by decide), kr _ _ (by decide)]
    exact h.i u w
def tck (P : PAy) : PAy := pset (pset (wkA P) 10 6 (P 10 6 + 1)) 10 5 (P 10 5 * 1103515245 + 12345)
theorem V_tck {P : PAy} (h : VA P) (ht : P 10 6 ≤ 299) : VA (tck P) := by
  have h1 := V_wk h
  have hs := h1.s
  have h2 : VA (pset (wkA P) 10 6 (P 10 6 + 1)) := by
    refine V_sc h1 (by decide) ?_
    unfold VSa at hs ⊢
    rw [ps_eq, ps_j (b := 2) (by decide), ps_j (b := 3) (by decide), ps_j (b := 4) (by decide), ps_j (b := 8) (by decide)]
    exact ⟨hs.1, hs.2.1, hs.2.2.1, by omega, hs.2.2.2.2⟩
  refine V_sc h2 (by decide) ?_
  have hs := h2.s
  unfold VSa at hs ⊢
  rw [ps_j (b := 6) (by decide), ps_j (b := 2) (by decide), ps_j (b := 3) (by decide), ps_j (b := 4) (by decide), ps_j (b := 8) (by decide)]
  exact hs
/-- the draw, out of the number kept -/
def dwI (z : Int32) : Int32 := ((z &&& (2147483647 : Int32)) / (65536 : Int32)) - ((z &&& (2147483647 : Int32)) / (65536 : Int32)) / (100 : Int32) * (100 : Int32)
def lks (P : PAy) : Prop := P 3 (P 10 3 % P 10 1) = 1 ∧ P 0 (P 1 (P 10 3 % P 10 1)) = 1
/-- whether it stops -/
def stb (P : PAy) : Prop := 300 ≤ P 10 6 ∨ (if P 10 2 = 1 then dwI (nI (P 10 5)) < nI (P 10 3) ∧ P 10 6 % 8 = 0 else if P 10 2 = 2 then dwI (nI (P 10 5)) < nI (P 10 3) ∧ P 10 3 ≤ P 10 6 else if P 10 2 = 3 then lks P else if P 10 2 = 4 then P 10 6 = P 10 3 else dwI (nI (P 10 5)) < nI (P 10 3))
noncomputable def go1 (P : PAy) : PAy := cif (stb (tck P)) (er (tck P)) (tck P)
def ovr (P : PAy) : Prop := P 10 8 = 1 ∨ insc P (P 10 1) < 2 ∨ rk P 60 = 0
def lnn (P : PAy) : Nat → Nat
  | 0 => 0
  | w + 1 => if P 3 w = 1 then w + 1 else lnn P w
def winA (P : PAy) : Nat := if insc P (P 10 1) = 1 then lnn P (P 10 1) else 0
noncomputable def gN (P : PAy) : Nat → PAy
  | 0 => P
  | k + 1 => go1 (gN P k)
noncomputable def gR (P : PAy) : Nat → Nat
  | 0 => 0
  | k + 1 => gR P k + cif (stb (tck (gN P k))) 1 0
noncomputable def pK (P : PAy) : Nat := Classical.epsilon (fun k => FstA (fun j => ovr (gN P j)) k)
theorem insc_set {P : PAy} {w : Nat} : ∀ (n : Nat), insc (pset P 3 w 0) n + (if w < n then P 3 w else 0) = insc P n := by
  intro n
  induction n with
  | zero => rfl
  | succ n ih =>
    show insc (pset P 3 w 0) n + pset P 3 w 0 3 n + _ = insc P n + P 3 n
    by_cases e : n = w
    · subst e
      rw [ps_eq, if_pos (by omega)]
      rw [if_neg (by omega)] at ih
      omega
    · rw [ps_j e]
      by_cases q : w < n
      · rw [if_pos (by omega)]
        rw [if_pos q] at ih
        omega
      · rw [if_neg (by omega)]
        rw [if_neg q] at ih
        omega
theorem insc_ext {P Q : PAy} : ∀ {n : Nat}, (∀ w, w < n → P 3 w = Q 3 w) → insc P n = insc Q n := by
  intro n
  induction n with
  | zero => intro _; rfl
  | succ n ih =>
    intro h
    show insc P n + P 3 n = insc Q n + Q 3 n
    rw [ih (fun p hp => h p (by omega)), h n (by omega)]
theorem insc_le {P : PAy} (h : VA P) : ∀ {n : Nat}, n ≤ P 10 1 → insc P n ≤ n := by
  intro n
  induction n with
  | zero => intro _; exact Nat.le_refl _
  | succ n ih =>
    intro hn
    have h1 := ih (by omega)
    have h2 := (h.w (w := n) (by omega)).2.2.1
    show insc P n + P 3 n ≤ n + 1
    omega
theorem V_in0 {P : PAy} {w : Nat} (h : VA P) : VA (pset P 3 w 0) := by
  have k : ∀ a b, a ≠ 3 → pset P 3 w 0 a b = P a b := fun a b ha => ps_i ha
  have k3 : ∀ b, pset P 3 w 0 3 b ≤ 1 → True := fun _ _ => trivial
  have kk : ∀ b, pset P 3 w 0 3 b = 0 ∨ pset P 3 w 0 3 b = P 3 b := fun b => by
    by_cases e : b = w
    · subst e; exact Or.inl ps_eq
    · exact Or.inr (ps_j e)
  refine ⟨?_, ?_, ⟨?_, ?_, ?_⟩, ?_, ?_, ?_⟩
  · rw [k _ _ (by decide)]; exact h.1
  · rw [k _ _ (by decide)]; exact h.2.1
  · intro p; rw [k _ _ (by decide)]; exact h.c1 p
  · intro p; rw [k _ _ (by decide), k _ _ (by decide)]; exact fun q => h.c0 q
  · rw [rk_ext (fun p _ => k 0 p (by decide))]; exact h.c11
  · intro u hu
    rw [k _ _ (by decide)] at hu
    have hh := h.w hu
    unfold VWa at hh ⊢
    rw [k 10 _ (by decide), k 1 _ (by decide), k 2 _ (by decide), k 4 _ (by decide), k 5 _ (by decide), k 6 _ (by decide), k 7 _ (by decide), k 8 _ (by decide), k 9 _ (by decide)]
    rcases kk u with e | e
    · rw [e]; exact ⟨hh.1, hh.2.1, by omega, hh.2.2.2⟩
    · rw [e]; exact hh
  · intro u v
    rw [k 10 _ (by decide), k 1 _ (by decide), k 1 _ (by decide)]
    intro hu hv i1 i2
    rcases kk u with e | e
    · omega
    · rcases kk v with f | f
      · omega
      · exact h.i u v hu hv (by omega) (by omega)
  · unfold VSa
    rw [k 10 _ (by decide), k 10 _ (by decide), k 10 _ (by decide), k 10 _ (by decide), k 10 _ (by decide)]
    exact h.s
theorem V_ch0 {P : PAy} {p : Nat} (h : VA P) : VA (pset P 0 p 0) := by
  have k : ∀ a b, a ≠ 0 → pset P 0 p 0 a b = P a b := fun a b ha => ps_i ha
  have kk : ∀ b, pset P 0 p 0 0 b = 0 ∨ pset P 0 p 0 0 b = P 0 b := fun b => by
    by_cases e : b = p
    · subst e; exact Or.inl ps_eq
    · exact Or.inr (ps_j e)
  refine ⟨?_, ?_, ⟨?_, ?_, ?_⟩, ?_, ?_, ?_⟩
  · rw [k _ _ (by decide)]; exact h.1
  · rw [k _ _ (by decide)]; exact h.2.1
  · intro q
    have := h.c1 q
    rcases kk q with e | e <;> omega
  · intro q
    rw [k 10 _ (by decide)]
    intro hq
    have := h.c0 hq
    rcases kk q with e | e <;> omega
  · have := rk_set (P := P) (p := p) (v := 0) (by decide) 60
    have := h.c11
    rw [ite_self] at *
    omega
  · intro u hu
    rw [k _ _ (by decide)] at hu
    unfold VWa
    rw [k 10 _ (by decide), k 1 _ (by decide), k 2 _ (by decide), k 3 _ (by decide), k 4 _ (by decide), k 5 _ (by decide), k 6 _ (by decide), k 7 _ (by decide), k 8 _ (by decide), k 9 _ (by decide)]
    exact h.w hu
  · intro u v
    rw [k 10 _ (by decide), k 1 _ (by decide), k 1 _ (by decide), k 3 _ (by decide), k 3 _ (by decide)]
    exact h.i u v
  · unfold VSa
    rw [k 10 _ (by decide), k 10 _ (by decide), k 10 _ (by decide), k 10 _ (by decide), k 10 _ (by decide)]
    exact h.s
theorem V_erA {P : PAy} (h : VA P) : VA (erA P) := by
  unfold erA
  split
  · exact h
  · split
    · exact V_in0 h
    · exact V_ch0 (V_in0 h)
theorem erA_keep {P : PAy} {a b : Nat} (h0 : a ≠ 0) (h3 : a ≠ 3) : erA P a b = P a b := by
  unfold erA
  split
  · rfl
  · split
    · exact ps_i h3
    · rw [ps_i h0, ps_i h3]
theorem er_keep {P : PAy} {a b : Nat} (h0 : a ≠ 0) (h3 : a ≠ 3) (hb : a ≠ 10 ∨ (b ≠ 6 ∧ b ≠ 7 ∧ b ≠ 8)) : er P a b = P a b := by
  have k : ∀ (Q : PAy) (j v : Nat), (j = 6 ∨ j = 7 ∨ j = 8) → pset Q 10 j v a b = Q a b := by
    intro Q j v hj
    rcases hb with q | q
    · exact ps_i q
    · exact ps_j (by omega)
  have e : erB P a b = P a b := by
    unfold erB
    rw [k _ _ _ (Or.inl rfl), k _ _ _ (Or.inr (Or.inl rfl)), erA_keep h0 h3]
  unfold er
  split
  · rw [k _ _ _ (Or.inr (Or.inr rfl)), e]
  · exact e
theorem er_03 {P : PAy} {a b : Nat} (h : a ≠ 10) : er P a b = erA P a b := by
  have e : erB P a b = erA P a b := by unfold erB; rw [ps_i h, ps_i h]
  unfold er
  split
  · rw [ps_i h, e]
  · exact e
theorem V_erB {P : PAy} (h : VA P) : VA (erB P) := by
  have h1 := V_erA h
  have s1 := h1.s
  unfold VSa at s1
  have h2 : VA (pset (erA P) 10 7 (P 10 7 + 1)) := by
    refine V_sc h1 (by decide) ?_
    unfold VSa
    rw [ps_j (b := 6) (by decide), ps_j (b := 2) (by decide), ps_j (b := 3) (by decide), ps_j (b := 4) (by decide), ps_j (b := 8) (by decide)]
    exact s1
  refine V_sc h2 (by decide) ?_
  unfold VSa
  rw [ps_eq, ps_j (b := 2) (by decide), ps_j (b := 3) (by decide), ps_j (b := 4) (by decide), ps_j (b := 8) (by decide), ps_j (b := 2) (by decide), ps_j (b := 3) (by decide), ps_j (b := 4) (by decide), ps_j (b := 8) (by decide)]
  exact ⟨s1.1, s1.2.1, s1.2.2.1, by omega, s1.2.2.2.2⟩
theorem V_er {P : PAy} (h : VA P) : VA (er P) := by
  have h1 := V_erB h
  have s1 := h1.s
  unfold VSa at s1
  unfold er
  split
  · refine V_sc h1 (by decide) ?_
    unfold VSa
    rw [ps_eq, ps_j (b := 6) (by decide), ps_j (b := 2) (by decide), ps_j (b := 3) (by decide), ps_j (b := 4) (by decide)]
    exact ⟨s1.1, s1.2.1, s1.2.2.1, s1.2.2.2.1, by omega⟩
  · exact h1
theorem er_6 {P : PAy} : er P 10 6 = 0 := by
  have e : erB P 10 6 = 0 := ps_eq
  unfold er
  split
  · rw [ps_j (by decide)]; exact e
  · exact e
theorem goer_le {P : PAy} : goer P ≤ P 10 1 ∧ (goer P ≠ 0 → P 3 (goer P - 1) = 1) := gon_spec _
theorem lv_pos {P : PAy} (h : VA P) (hr : 1 ≤ rk P 60) : lv P ≠ 0 ∧ P 0 (lv P - 1) = 1 := by
  obtain ⟨i1, i2, i3⟩ := lvn_spec (P := P) (P 10 0)
  have hne : lvn P (P 10 0) ≠ 0 := fun q => by
    obtain ⟨p, h1, h2, h3⟩ := rk_surj h.c1 (c := 0) (n := 60) (by omega)
    exact i2 q p (h.cN h2) h2
  exact ⟨hne, i3 hne⟩
theorem erA_rk {P : PAy} (h : VA P) (hr : 1 ≤ rk P 60) : 1 ≤ rk (erA P) 60 := by
  unfold erA
  split
  · exact hr
  · split
    · rw [rk_ext (fun p _ => ps_i (by decide))]; exact hr
    · rename_i q1 q2
      have h1 := rk_set (P := pset P 3 (goer P - 1) 0) (p := lv P - 1) (v := 0) (by decide) 60
      have h2 : rk (pset P 3 (goer P - 1) 0) 60 = rk P 60 := rk_ext (fun p _ => ps_i (by decide))
      rw [h2, ite_self, ps_i (by decide)] at h1
      have h3 := h.c1 (lv P - 1)
      have h4 : (if lv P - 1 < 60 then P 0 (lv P - 1) else 0) ≤ 1 := by split <;> omega
      omega
theorem erA_ins {P : PAy} : insc (erA P) (P 10 1) + (if goer P = 0 then 0 else 1) = insc P (P 10 1) := by
  obtain ⟨g1, g2⟩ := goer_le (P := P)
  unfold erA
  by_cases q : goer P = 0
  · rw [if_pos q, if_pos q]; rfl
  · rw [if_neg q, if_neg q]
    have h1 := insc_set (P := P) (w := goer P - 1) (P 10 1)
    rw [if_pos (by omega), g2 q] at h1
    split
    · exact h1
    · rw [insc_ext (P := pset (pset P 3 (goer P - 1) 0) 0 (lv P - 1) 0) (Q := pset P 3 (goer P - 1) 0) (fun p _ => ps_i (by decide))]
      exact h1
/-- a stop of a party that goes on: it is over, or not, as is told; one fewer -/
theorem er_over {P : PAy} (h : VA P) (h8 : P 10 8 = 0) (h2 : 2 ≤ insc P (P 10 1)) (hr : 1 ≤ rk P 60) :
    (ovr (er P) ↔ er P 10 8 = 1) ∧ (¬ ovr (er P) → insc (er P) (er P 10 1) + 1 = insc P (P 10 1)) ∧ (er P 10 8 = 1 ↔ goer P = 0 ∨ insc (erA P) (P 10 1) = 1) ∧ (insc (erA P) (P 10 1) ≤ 1 ↔ insc (erA P) (P 10 1) = 1) := by
  have e1 : er P 10 1 = P 10 1 := er_keep (by decide) (by decide) (Or.inr ⟨by decide, by decide, by decide⟩)
  have ei : insc (er P) (P 10 1) = insc (erA P) (P 10 1) := insc_ext (fun w _ => er_03 (by decide))
  have ec : rk (er P) 60 = rk (erA P) 60 := rk_ext (fun w _ => er_03 (by decide))
  have hc := erA_rk h hr
  have hi := erA_ins (P := P)
  have e8 : er P 10 8 = 1 ↔ goer P = 0 ∨ insc (erA P) (P 10 1) = 1 := by
    unfold er
    by_cases q : goer P = 0 ∨ insc (erA P) (P 10 1) = 1
    · rw [if_pos q, ps_eq]; exact ⟨fun _ => q, fun _ => rfl⟩
    · rw [if_neg q]
      have : erB P 10 8 = P 10 8 := by
        unfold erB
        rw [ps_j (by decide), ps_j (by decide), erA_keep (by decide) (by decide)]
      rw [this, h8]
      exact ⟨fun z => by omega, fun z => absurd z q⟩
  have hov : ovr (er P) ↔ er P 10 8 = 1 := by
    unfold ovr
    rw [e1, ei, ec]
    constructor
    · intro q
      rcases q with q | q | q
      · exact q
      · rw [e8]
        by_cases g : goer P = 0
        · exact Or.inl g
        · rw [if_neg g] at hi
          exact Or.inr (by omega)
      · omega
    · intro q; exact Or.inl q
  refine ⟨hov, fun hn => ?_, e8, ?_⟩
  · rw [e1, ei]
    have : ¬ (goer P = 0 ∨ insc (erA P) (P 10 1) = 1) := fun q => hn (hov.mpr (e8.mpr q))
    have g : goer P ≠ 0 := fun q => this (Or.inl q)
    rw [if_neg g] at hi
    exact hi
  · constructor
    · intro q
      have : (if goer P = 0 then 0 else 1) ≤ 1 := by split <;> omega
      omega
    · intro q; omega
theorem tck_keep {P : PAy} {a b : Nat} (h : (a ≠ 1 ∧ a ≠ 2) ∨ P 10 1 ≤ b) (h2 : a ≠ 10 ∨ (b ≠ 5 ∧ b ≠ 6)) : tck P a b = P a b := by
  unfold tck
  rcases h2 with q | q
  · rw [ps_i q, ps_i q, wk_keep h]
  · rw [ps_j q.1, ps_j q.2, wk_keep h]
theorem tck_6 {P : PAy} : tck P 10 6 = P 10 6 + 1 := by
  unfold tck
  rw [ps_j (by decide), ps_eq]
def mes (P : PAy) : Nat := (insc P (P 10 1) - 1) * 300 - P 10 6
theorem tck_facts {P : PAy} : tck P 10 8 = P 10 8 ∧ insc (tck P) (tck P 10 1) = insc P (P 10 1) ∧ rk (tck P) 60 = rk P 60 ∧ tck P 10 1 = P 10 1 := by
  have e1 : tck P 10 1 = P 10 1 := tck_keep (Or.inl ⟨by decide, by decide⟩) (Or.inr ⟨by decide, by decide⟩)
  refine ⟨tck_keep (Or.inl ⟨by decide, by decide⟩) (Or.inr ⟨by decide, by decide⟩), ?_, ?_, e1⟩
  · rw [e1]; exact insc_ext (fun w _ => tck_keep (Or.inl ⟨by decide, by decide⟩) (Or.inl (by decide)))
  · exact rk_ext (fun w _ => tck_keep (Or.inl ⟨by decide, by decide⟩) (Or.inl (by decide)))
theorem go1_step {P : PAy} (h : VA P) (ht : P 10 6 ≤ 299) (ho : ¬ ovr P) : VA (go1 P) ∧ go1 P 10 6 ≤ 299 ∧ (ovr (go1 P) ↔ go1 P 10 8 = 1) ∧ (¬ ovr (go1 P) → mes (go1 P) + 1 ≤ mes P) ∧ 1 ≤ mes P := by
  have h8 : P 10 8 = 0 := by
    have := h.s.2.2.2.2
    have : P 10 8 ≠ 1 := fun q => ho (Or.inl q)
    omega
  have h2 : 2 ≤ insc P (P 10 1) := Nat.not_lt.mp (fun q => ho (Or.inr (Or.inl q)))
  have hr : 1 ≤ rk P 60 := Nat.pos_of_ne_zero (fun q => ho (Or.inr (Or.inr q)))
  obtain ⟨t8, ti, tr, t1⟩ := tck_facts (P := P)
  have hT := V_tck h ht
  have t6 := tck_6 (P := P)
  have hm : 1 ≤ mes P := by unfold mes; omega
  unfold go1
  by_cases q : stb (tck P)
  · rw [cif_pos q]
    obtain ⟨o1, o2, o3, o4⟩ := er_over hT (by omega) (by omega) (by omega)
    refine ⟨V_er hT, by rw [er_6]; omega, o1, fun hn => ?_, hm⟩
    have := o2 hn
    unfold mes
    rw [er_6]
    omega
  · rw [cif_neg q]
    have q6 : tck P 10 6 ≤ 299 := Nat.not_lt.mp (fun z => q (Or.inl z))
    have hno : ¬ ovr (tck P) := by
      unfold ovr
      rw [t8, ti, tr]
      exact ho
    refine ⟨hT, q6, ⟨fun z => absurd z hno, fun z => absurd (Or.inl z) hno⟩, fun _ => ?_, hm⟩
    unfold mes
    rw [ti, t6]
    omega
