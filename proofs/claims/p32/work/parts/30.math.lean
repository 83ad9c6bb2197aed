/-! ===== the party as numbers: what a call means ===== -/
abbrev PAy : Type := Nat → Nat → Nat
def pset (P : PAy) (i j v : Nat) : PAy := fun a b => if a = i ∧ b = j then v else P a b
theorem ps_eq {P : PAy} {i j v : Nat} : pset P i j v i j = v := if_pos ⟨rfl, rfl⟩
theorem ps_i {P : PAy} {i j v a b : Nat} (h : a ≠ i) : pset P i j v a b = P a b := if_neg (fun q => h q.1)
theorem ps_j {P : PAy} {i j v a b : Nat} (h : b ≠ j) : pset P i j v a b = P a b := if_neg (fun q => h q.2)
/-- a choice that need not be decided -/
noncomputable def cif {α : Type} (c : Prop) (a b : α) : α := @ite α c (Classical.propDecidable c) a b
theorem cif_pos {α : Type} {c : Prop} {a b : α} (h : c) : cif c a b = a := @if_pos c (Classical.propDecidable c) h α a b
theorem cif_neg {α : Type} {c : Prop} {a b : α} (h : ¬ c) : cif c a b = b := @if_neg c (Classical.propDecidable c) h α a b
def rk (P : PAy) : Nat → Nat
  | 0 => 0
  | p + 1 => rk P p + P 0 p
def insc (P : PAy) : Nat → Nat
  | 0 => 0
  | w + 1 => insc P w + P 3 w
/-- a party that can be -/
def VWa (P : PAy) (w : Nat) : Prop := P 1 w < P 10 0 ∧ P 2 w ≤ 99 ∧ P 3 w ≤ 1 ∧ P 4 w ≤ 6 ∧ (1 ≤ P 5 w ∧ P 5 w ≤ 99) ∧ (1 ≤ P 6 w ∧ P 6 w ≤ 99) ∧ P 7 w ≤ 9 ∧ P 8 w ≤ 9 ∧ P 9 w ≤ 9
def VIa (P : PAy) : Prop := ∀ w v, w < P 10 1 → v < P 10 1 → P 3 w = 1 → P 3 v = 1 → P 1 w = P 1 v → w = v
def VCa (P : PAy) : Prop := (∀ p, P 0 p ≤ 1) ∧ (∀ p, P 10 0 ≤ p → P 0 p = 0) ∧ rk P 60 ≤ 11
def VSa (P : PAy) : Prop := P 10 2 ≤ 4 ∧ (1 ≤ P 10 3 ∧ P 10 3 ≤ 99) ∧ P 10 4 ≤ 2 ∧ P 10 6 ≤ 300 ∧ P 10 8 ≤ 1
def VA (P : PAy) : Prop := (4 ≤ P 10 0 ∧ P 10 0 ≤ 60) ∧ P 10 1 ≤ 12 ∧ VCa P ∧ (∀ w, w < P 10 1 → VWa P w) ∧ VIa P ∧ VSa P
theorem VA.n4 {P : PAy} (h : VA P) : 4 ≤ P 10 0 := h.1.1
theorem VA.n60 {P : PAy} (h : VA P) : P 10 0 ≤ 60 := h.1.2
theorem VA.w12 {P : PAy} (h : VA P) : P 10 1 ≤ 12 := h.2.1
theorem VA.c1 {P : PAy} (h : VA P) (p : Nat) : P 0 p ≤ 1 := h.2.2.1.1 p
theorem VA.c0 {P : PAy} (h : VA P) {p : Nat} (q : P 10 0 ≤ p) : P 0 p = 0 := h.2.2.1.2.1 p q
theorem VA.c11 {P : PAy} (h : VA P) : rk P 60 ≤ 11 := h.2.2.1.2.2
theorem VA.cN {P : PAy} (h : VA P) {p : Nat} (q : P 0 p = 1) : p < P 10 0 := Nat.not_le.mp (fun r => by rw [h.c0 r] at q; omega)
theorem VA.c60 {P : PAy} (h : VA P) {p : Nat} (q : P 0 p = 1) : p < 60 := Nat.lt_of_lt_of_le (h.cN q) h.n60
theorem VA.w {P : PAy} (h : VA P) {w : Nat} (q : w < P 10 1) : VWa P w := h.2.2.2.1 w q
theorem VA.i {P : PAy} (h : VA P) : VIa P := h.2.2.2.2.1
theorem VA.s {P : PAy} (h : VA P) : VSa P := h.2.2.2.2.2
/-! ranks -/
theorem rk_mono {P : PAy} : ∀ {a b : Nat}, a ≤ b → rk P a ≤ rk P b := by
  intro a b h
  induction b with
  | zero =>
    have e : a = 0 := by omega
    rw [e]; exact Nat.le_refl _
  | succ b ih =>
    by_cases e : a = b + 1
    · rw [e]; exact Nat.le_refl _
    · have := ih (by omega)
      show rk P a ≤ rk P b + P 0 b
      omega
theorem rk_lt {P : PAy} {p q : Nat} (h : p < q) (hp : P 0 p = 1) : rk P p < rk P q := by
  have h1 : rk P (p + 1) ≤ rk P q := rk_mono h
  have h2 : rk P (p + 1) = rk P p + P 0 p := rfl
  omega
theorem rk_inj {P : PAy} {p q : Nat} (hp : P 0 p = 1) (hq : P 0 q = 1) (h : rk P p = rk P q) : p = q := by
  rcases Nat.lt_trichotomy p q with e | e | e
  · have := rk_lt e hp; omega
  · exact e
  · have := rk_lt e hq; omega
theorem rk_lt_iff {P : PAy} {p q : Nat} (hp : P 0 p = 1) (hq : P 0 q = 1) : rk P p < rk P q ↔ p < q := by
  constructor
  · intro h
    rcases Nat.lt_trichotomy p q with e | e | e
    · exact e
    · rw [e] at h; omega
    · have := rk_lt e hq; omega
  · intro h; exact rk_lt h hp
theorem rk_surj {P : PAy} (h1 : ∀ p, P 0 p ≤ 1) {c : Nat} : ∀ {n : Nat}, c < rk P n → ∃ p, p < n ∧ P 0 p = 1 ∧ rk P p = c := by
  intro n
  induction n with
  | zero => intro h; exact absurd h (by show ¬ c < 0; omega)
  | succ n ih =>
    intro h
    have e : rk P (n + 1) = rk P n + P 0 n := rfl
    by_cases q : c < rk P n
    · obtain ⟨p, h2, h3, h4⟩ := ih q
      exact ⟨p, by omega, h3, h4⟩
    · have := h1 n
      exact ⟨n, by omega, by omega, by omega⟩
theorem rk_le {P : PAy} (h1 : ∀ p, P 0 p ≤ 1) : ∀ (n : Nat), rk P n ≤ n := by
  intro n
  induction n with
  | zero => exact Nat.le_refl _
  | succ n ih =>
    have := h1 n
    show rk P n + P 0 n ≤ n + 1
    omega
theorem rk_ext {P Q : PAy} : ∀ {n : Nat}, (∀ p, p < n → P 0 p = Q 0 p) → rk P n = rk Q n := by
  intro n
  induction n with
  | zero => intro _; rfl
  | succ n ih =>
    intro h
    show rk P n + P 0 n = rk Q n + Q 0 n
    rw [ih (fun p hp => h p (by omega)), h n (by omega)]
/-- no chair between two places of one rank -/
theorem rk_gap {P : PAy} {a b p : Nat} (h : rk P a = rk P b) (h1 : a ≤ p) (h2 : p < b) : P 0 p ≠ 1 := fun q => by
  have h3 : rk P a ≤ rk P p := rk_mono h1
  have h4 := rk_lt h2 q
  omega
theorem rk_N {P : PAy} (h : VA P) : rk P (P 10 0) = rk P 60 := by
  have key : ∀ k, rk P (P 10 0 + k) = rk P (P 10 0) := by
    intro k
    induction k with
    | zero => rfl
    | succ k ih =>
      show rk P (P 10 0 + k) + P 0 (P 10 0 + k) = _
      rw [ih, h.c0 (Nat.le_add_right _ _)]
      rfl
  have h2 := key (60 - P 10 0)
  rw [Nat.add_sub_cancel' h.n60] at h2
  exact h2.symm
theorem rk_set {P : PAy} {p v : Nat} (hv : v ≤ 1) : ∀ (n : Nat), rk (pset P 0 p v) n + (if p < n then P 0 p else 0) = rk P n + (if p < n then v else 0) := by
  intro n
  induction n with
  | zero => rfl
  | succ n ih =>
    show rk (pset P 0 p v) n + pset P 0 p v 0 n + _ = rk P n + P 0 n + _
    by_cases e : n = p
    · subst e
      rw [ps_eq, if_pos (by omega), if_pos (by omega)]
      rw [if_neg (by omega), if_neg (by omega)] at ih
      omega
    · rw [ps_j e]
      by_cases q : p < n
      · rw [if_pos (by omega), if_pos (by omega)]
        rw [if_pos q, if_pos q] at ih
        omega
      · rw [if_neg (by omega), if_neg (by omega)]
        rw [if_neg q, if_neg q] at ih
        omega
/-! ways and haste -/
def wy2 (a b : Nat) : Nat := if a ≤ b then b - a else a - b
def frA (N a b : Nat) : Nat := if wy2 a b ≤ N - wy2 a b then wy2 a b else N - wy2 a b
theorem fr_comm (N a b : Nat) : frA N a b = frA N b a := by
  have e : wy2 a b = wy2 b a := by
    unfold wy2
    by_cases h : a ≤ b
    · by_cases h2 : b ≤ a
      · rw [if_pos h, if_pos h2]; omega
      · rw [if_pos h, if_neg h2]
    · rw [if_neg h, if_pos (by omega)]
  unfold frA; rw [e]
theorem wy2_lt {N a b : Nat} (ha : a < N) (hb : b < N) : wy2 a b < N := by
  unfold wy2; split <;> omega
theorem fr_lt {N a b : Nat} (ha : a < N) (hb : b < N) (hN : N ≤ 60) : frA N a b ≤ 30 := by
  have := wy2_lt ha hb
  unfold frA; split <;> omega
def hov (k x s m : Nat) : Nat := if k = 1 then x - s else if k = 2 then x + s else if k = 3 then x - s - (9 - m) else if k = 4 then 2 * x else if k = 5 then (x - s) / 2 else if k = 6 then x + s + m else x
def hof (P : PAy) (w f : Nat) : Nat := hov (P 4 w) (f * 100 / P 5 w) (P 8 w) (P 9 w)
def hst (P : PAy) (w p : Nat) : Nat := hof P w (frA (P 10 0) (P 1 w) p)
theorem hov_le {k x s m : Nat} (hx : x ≤ 6000) (hs : s ≤ 9) (hm : m ≤ 9) : hov k x s m ≤ 12000 := by
  unfold hov
  by_cases h1 : k = 1
  · rw [if_pos h1]; omega
  rw [if_neg h1]
  by_cases h2 : k = 2
  · rw [if_pos h2]; omega
  rw [if_neg h2]
  by_cases h3 : k = 3
  · rw [if_pos h3]; omega
  rw [if_neg h3]
  by_cases h4 : k = 4
  · rw [if_pos h4]; omega
  rw [if_neg h4]
  by_cases h5 : k = 5
  · rw [if_pos h5]; omega
  rw [if_neg h5]
  by_cases h6 : k = 6
  · rw [if_pos h6]; omega
  rw [if_neg h6]; omega
theorem hof_le {P : PAy} {w f : Nat} (h : VWa P w) (hf : f ≤ 60) : hof P w f ≤ 12000 := by
  obtain ⟨h1, h2, h3, h4, h5, h6, h7, h8, h9⟩ := h
  refine hov_le ?_ h8 h9
  have : f * 100 / P 5 w ≤ f * 100 := Nat.div_le_self _ _
  omega
/-! sitting -/
def Cnd (P : PAy) (S : Nat → Nat) (w p : Nat) : Prop := w < P 10 1 ∧ P 3 w = 1 ∧ S w = 0 ∧ p < P 10 0 ∧ P 0 p = 1 ∧ (∀ v, v < P 10 1 → S v ≠ p + 1) ∧ frA (P 10 0) (P 1 w) p ≤ P 7 w
def Lx (P : PAy) (w p w' p' : Nat) : Prop := hst P w p < hst P w' p' ∨ (hst P w p = hst P w' p' ∧ (w < w' ∨ (w = w' ∧ p ≤ p')))
def Bst (P : PAy) (S : Nat → Nat) (w p : Nat) : Prop := Cnd P S w p ∧ ∀ w' p', Cnd P S w' p' → Lx P w p w' p'
theorem Bst_uniq {P : PAy} {S : Nat → Nat} {w p w' p' : Nat} (h : Bst P S w p) (h' : Bst P S w' p') : w = w' ∧ p = p' := by
  have h1 := h.2 _ _ h'.1
  have h2 := h'.2 _ _ h.1
  unfold Lx at h1 h2
  omega
noncomputable def sn (P : PAy) (S : Nat → Nat) : Nat → Nat := cif (∃ x, Bst P S (x / 64) (x % 64)) (fun v => if v = Classical.epsilon (fun x => Bst P S (x / 64) (x % 64)) / 64 then Classical.epsilon (fun x => Bst P S (x / 64) (x % 64)) % 64 + 1 else S v) S
theorem sn_best {P : PAy} {S : Nat → Nat} {w p : Nat} (hV : VA P) (h : Bst P S w p) : sn P S = fun v => if v = w then p + 1 else S v := by
  have hp : p < 64 := by have := hV.n60; have := h.1.2.2.2.1; omega
  have e1 : (w * 64 + p) / 64 = w := by omega
  have e2 : (w * 64 + p) % 64 = p := by omega
  have hex : ∃ x, Bst P S (x / 64) (x % 64) := ⟨w * 64 + p, by rw [e1, e2]; exact h⟩
  have hs := Classical.epsilon_spec hex
  obtain ⟨a1, a2⟩ := Bst_uniq h hs
  unfold sn
  rw [cif_pos hex, ← a1, ← a2]
theorem sn_none {P : PAy} {S : Nat → Nat} (h : ∀ w p, ¬ Cnd P S w p) : sn P S = S := by
  unfold sn
  rw [cif_neg]
  intro ⟨x, hx⟩
  exact h _ _ hx.1
noncomputable def sNA (P : PAy) : Nat → Nat → Nat
  | 0 => fun _ => 0
  | k + 1 => sn P (sNA P k)
theorem sN_fix {P : PAy} {k : Nat} (h : ∀ w p, ¬ Cnd P (sNA P k) w p) : ∀ d, sNA P (k + d) = sNA P k := by
  intro d
  induction d with
  | zero => rfl
  | succ d ih =>
    show sn P (sNA P (k + d)) = sNA P k
    rw [ih]
    exact sn_none h
noncomputable def cT (P : PAy) (S : Nat → Nat) : Nat → Nat
  | 0 => 0
  | p + 1 => cT P S p + cif (P 0 p = 1 ∧ ∃ v, v < P 10 1 ∧ S v = p + 1) 1 0
theorem cT_le {P : PAy} {S : Nat → Nat} : ∀ (n : Nat), cT P S n ≤ rk P n := by
  intro n
  induction n with
  | zero => exact Nat.le_refl _
  | succ n ih =>
    show cT P S n + cif (P 0 n = 1 ∧ ∃ v, v < P 10 1 ∧ S v = n + 1) 1 0 ≤ rk P n + P 0 n
    by_cases q : P 0 n = 1 ∧ ∃ v, v < P 10 1 ∧ S v = n + 1
    · rw [cif_pos q]; have := q.1; omega
    · rw [cif_neg q]; omega
theorem cT_lt {P : PAy} {S : Nat → Nat} {p : Nat} (hp : P 0 p = 1) (hn : ∀ v, v < P 10 1 → S v ≠ p + 1) : ∀ (n : Nat), p < n → cT P S n < rk P n := by
  intro n
  induction n with
  | zero => intro h; omega
  | succ n ih =>
    intro h
    show cT P S n + cif (P 0 n = 1 ∧ ∃ v, v < P 10 1 ∧ S v = n + 1) 1 0 < rk P n + P 0 n
    by_cases e : p = n
    · subst e
      rw [cif_neg (fun q => by obtain ⟨-, v, h1, h2⟩ := q; exact hn v h1 h2)]
      have := cT_le (P := P) (S := S) p
      omega
    · have := ih (by omega)
      by_cases q : P 0 n = 1 ∧ ∃ v, v < P 10 1 ∧ S v = n + 1
      · rw [cif_pos q]; have := q.1; omega
      · rw [cif_neg q]; omega
theorem cT_0 {P : PAy} : ∀ (n : Nat), cT P (fun _ => 0) n = 0 := by
  intro n
  induction n with
  | zero => rfl
  | succ n ih =>
    show cT P (fun _ => 0) n + cif (P 0 n = 1 ∧ ∃ v, v < P 10 1 ∧ 0 = n + 1) 1 0 = 0
    rw [ih, cif_neg (fun q => by obtain ⟨-, v, -, h2⟩ := q; omega)]
theorem cT_step {P : PAy} {S : Nat → Nat} {w p : Nat} (h : Cnd P S w p) : ∀ (n : Nat), cT P (fun v => if v = w then p + 1 else S v) n = cT P S n + (if p < n then 1 else 0) := by
  obtain ⟨h1, h2, h3, h4, h5, h6, -⟩ := h
  intro n
  induction n with
  | zero => rfl
  | succ n ih =>
    show cT P (fun v => if v = w then p + 1 else S v) n + cif (P 0 n = 1 ∧ ∃ v, v < P 10 1 ∧ (if v = w then p + 1 else S v) = n + 1) 1 0 = cT P S n + cif (P 0 n = 1 ∧ ∃ v, v < P 10 1 ∧ S v = n + 1) 1 0 + _
    rw [ih]
    by_cases e : p = n
    · subst e
      rw [cif_pos ⟨h5, w, h1, by rw [if_pos rfl]⟩, cif_neg (fun q => by obtain ⟨-, v, q1, q2⟩ := q; exact h6 v q1 q2), if_neg (by omega), if_pos (by omega)]
    · have ee : (P 0 n = 1 ∧ ∃ v, v < P 10 1 ∧ (if v = w then p + 1 else S v) = n + 1) ↔ (P 0 n = 1 ∧ ∃ v, v < P 10 1 ∧ S v = n + 1) := by
        constructor
        · intro ⟨a, v, b, c⟩
          by_cases q : v = w
          · rw [if_pos q] at c; omega
          · rw [if_neg q] at c; exact ⟨a, v, b, c⟩
        · intro ⟨a, v, b, c⟩
          by_cases q : v = w
          · subst q; rw [h3] at c; omega
          · exact ⟨a, v, b, by rw [if_neg q]; exact c⟩
      by_cases q : P 0 n = 1 ∧ ∃ v, v < P 10 1 ∧ S v = n + 1
      · rw [cif_pos q, cif_pos (ee.mpr q)]
        by_cases r : p < n
        · rw [if_pos r, if_pos (by omega)]
        · rw [if_neg r, if_neg (by omega)]
      · rw [cif_neg q, cif_neg (fun z => q (ee.mp z))]
        by_cases r : p < n
        · rw [if_pos r, if_pos (by omega)]
        · rw [if_neg r, if_neg (by omega)]
/-- who sits: only those that are in, at chairs -/
def SV (P : PAy) (S : Nat → Nat) : Prop := ∀ w, S w ≠ 0 → w < P 10 1 ∧ P 3 w = 1 ∧ P 0 (S w - 1) = 1
theorem SV_0 {P : PAy} : SV P (fun _ => 0) := fun _ h => absurd rfl h
theorem SV_step {P : PAy} {S : Nat → Nat} {w p : Nat} (h : SV P S) (hc : Cnd P S w p) : SV P (fun v => if v = w then p + 1 else S v) := by
  intro v hv
  show v < P 10 1 ∧ P 3 v = 1 ∧ P 0 ((if v = w then p + 1 else S v) - 1) = 1
  by_cases e : v = w
  · subst e
    rw [if_pos rfl]
    exact ⟨hc.1, hc.2.1, by show P 0 (p + 1 - 1) = 1; exact hc.2.2.2.2.1⟩
  · have hv2 : (if v = w then p + 1 else S v) ≠ 0 := hv
    rw [if_neg e] at hv2 ⊢
    exact h v hv2
def Gv (P : PAy) (S : Nat → Nat) (w v : Nat) : Prop := v < P 10 1 ∧ P 3 v = 1 ∧ S v = 0 ∧ frA (P 10 0) (P 1 v) (S w - 1) ≤ P 7 v ∧ hst P v (S w - 1) ≤ hst P w (S w - 1)
def FstA (Q : Nat → Prop) (v : Nat) : Prop := Q v ∧ ∀ u, u < v → ¬ Q u
theorem Fst_uniq {Q : Nat → Prop} {a b : Nat} (h : FstA Q a) (h' : FstA Q b) : a = b := by
  rcases Nat.lt_trichotomy a b with e | e | e
  · exact absurd h.1 (h'.2 a e)
  · exact e
  · exact absurd h'.1 (h.2 b e)
theorem Fst_eps {Q : Nat → Prop} {a : Nat} (h : FstA Q a) : Classical.epsilon (fun x => FstA Q x) = a :=
  Fst_uniq (Classical.epsilon_spec (p := fun x => FstA Q x) ⟨a, h⟩) h
noncomputable def jd (P : PAy) (S : Nat → Nat) (w : Nat) : Nat → Nat := cif (∃ v, FstA (Gv P S w) v) (fun u => if u = w then 0 else if u = Classical.epsilon (fun x => FstA (Gv P S w) x) then S w else S u) S
theorem jd_some {P : PAy} {S : Nat → Nat} {w v : Nat} (h : FstA (Gv P S w) v) : jd P S w = fun u => if u = w then 0 else if u = v then S w else S u := by
  unfold jd
  rw [cif_pos ⟨v, h⟩, Fst_eps h]
theorem jd_none {P : PAy} {S : Nat → Nat} {w : Nat} (h : ∀ v, ¬ Gv P S w v) : jd P S w = S := by
  unfold jd
  rw [cif_neg]
  intro ⟨v, hv⟩
  exact h v hv.1
theorem SV_jd {P : PAy} {S : Nat → Nat} {w : Nat} (h : SV P S) (hw : S w ≠ 0) : SV P (jd P S w) := by
  by_cases q : ∃ v, FstA (Gv P S w) v
  · obtain ⟨v, hv⟩ := q
    rw [jd_some hv]
    intro u hu
    show u < P 10 1 ∧ P 3 u = 1 ∧ P 0 ((if u = w then 0 else if u = v then S w else S u) - 1) = 1
    have hu2 : (if u = w then 0 else if u = v then S w else S u) ≠ 0 := hu
    by_cases e : u = w
    · rw [if_pos e] at hu2; exact absurd rfl hu2
    · rw [if_neg e] at hu2 ⊢
      by_cases e2 : u = v
      · rw [if_pos e2]
        subst e2
        exact ⟨hv.1.1, hv.1.2.1, (h w hw).2.2⟩
      · rw [if_neg e2] at hu2 ⊢
        exact h u hu2
  · have : jd P S w = S := by
      unfold jd
      rw [cif_neg q]
    rw [this]; exact h
noncomputable def ja (P : PAy) (S : Nat → Nat) : Nat → Nat → Nat
  | 0 => S
  | k + 1 => if P 3 k = 1 ∧ P 4 k = 6 ∧ ja P S k k ≠ 0 then jd P (ja P S k) k else ja P S k
theorem SV_ja {P : PAy} {S : Nat → Nat} (h : SV P S) : ∀ k, SV P (ja P S k) := by
  intro k
  induction k with
  | zero => exact h
  | succ k ih =>
    show SV P (if P 3 k = 1 ∧ P 4 k = 6 ∧ ja P S k k ≠ 0 then jd P (ja P S k) k else ja P S k)
    by_cases q : P 3 k = 1 ∧ P 4 k = 6 ∧ ja P S k k ≠ 0
    · rw [if_pos q]; exact SV_jd ih q.2.2
    · rw [if_neg q]; exact ih
theorem SV_sN {P : PAy} (hV : VA P) : ∀ k, SV P (sNA P k) := by
  intro k
  induction k with
  | zero => exact SV_0
  | succ k ih =>
    show SV P (sn P (sNA P k))
    by_cases q : ∃ x, Bst P (sNA P k) (x / 64) (x % 64)
    · obtain ⟨x, hx⟩ := q
      rw [sn_best hV hx]
      exact SV_step ih hx.1
    · unfold sn
      rw [cif_neg q]; exact ih
noncomputable def sit (P : PAy) : Nat → Nat := ja P (sNA P 12) (P 10 1)
theorem SV_sit {P : PAy} (hV : VA P) : SV P (sit P) := SV_ja (SV_sN hV 12) _
