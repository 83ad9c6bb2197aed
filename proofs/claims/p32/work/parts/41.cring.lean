/-! ===== the program's ring: which chair goes, a chair that goes or comes ===== -/
def wof (N x y : Nat) : Nat := if x < y then y - x else y + N - x
theorem k_way {o x y : Nat} {P : PAy} {M : Mem} (c : CP o P M) (hV : VA P) (hx : x < P 10 0) (hy : y < P 10 0) : s4_wayOn (o + 1) (nI x) (nI y) M = some (nI (wof (P 10 0) x y), M) := by
  have h60 := hV.n60
  unfold s4_wayOn wof
  rw [c.n]
  by_cases q : x < y
  · rw [ite_nge q (by omega), sub_e (by omega), if_pos q]
  · have e : (nI y - nI x) + nI (P 10 0) = nI (y + P 10 0 - x) := by
      rw [back_e (p := y) (x := x) (N := P 10 0) (by omega)]
      congr 1; omega
    rw [ite_ge (by omega) (by omega), if_neg q, e]
theorem IsOn_of {P : PAy} {q b : Nat} (hV : VA P) (hq : P 0 q = 1) (hb : P 0 b = 1) (hr : rk P b = if rk P q + 1 < rk P 60 then rk P q + 1 else 0) : IsOn P q (wof (P 10 0) q b) := by
  have hqN := hV.cN hq
  have hbN := hV.cN hb
  have hq60 := rk_lt (hV.c60 hq) hq
  unfold wof
  by_cases z : q < b
  · have h1 := rk_lt z hq
    have hr' : rk P b = rk P q + 1 := by
      by_cases y : rk P q + 1 < rk P 60
      · rw [if_pos y] at hr; exact hr
      · rw [if_neg y] at hr; omega
    rw [if_pos z]
    refine ⟨⟨by omega, ?_⟩, fun j hj hc => ?_⟩
    · rw [show q + (b - q) = b by omega, Nat.mod_eq_of_lt hbN]; exact hb
    · obtain ⟨j1, j2⟩ := hc
      rw [Nat.mod_eq_of_lt (by omega)] at j2
      have a1 := rk_lt (p := q) (q := q + j) (by omega) hq
      have a2 := rk_lt (p := q + j) (q := b) (by omega) j2
      omega
  · rw [if_neg z]
    refine ⟨⟨by omega, ?_⟩, fun j hj hc => ?_⟩
    · rw [show q + (b + P 10 0 - q) = b + P 10 0 by omega, Nat.add_mod_right, Nat.mod_eq_of_lt hbN]; exact hb
    · obtain ⟨j1, j2⟩ := hc
      have hbq : rk P b ≤ rk P q := rk_mono (by omega)
      have hr0 : rk P b = 0 ∧ rk P q + 1 = rk P 60 := by
        by_cases y : rk P q + 1 < rk P 60
        · rw [if_pos y] at hr; omega
        · rw [if_neg y] at hr; omega
      by_cases y : q + j < P 10 0
      · rw [Nat.mod_eq_of_lt y] at j2
        have a1 := rk_lt (p := q) (q := q + j) (by omega) hq
        have a2 := rk_lt (hV.c60 j2) j2
        omega
      · rw [show q + j = (q + j - P 10 0) + P 10 0 by omega, Nat.add_mod_right, Nat.mod_eq_of_lt (by omega)] at j2
        have a1 := rk_lt (p := q + j - P 10 0) (q := b) (by omega) j2
        omega
theorem IsBk_of {P : PAy} {q b : Nat} (hV : VA P) (hq : P 0 q = 1) (hb : P 0 b = 1) (hr : rk P b = if 0 < rk P q then rk P q - 1 else rk P 60 - 1) : IsBk P q (wof (P 10 0) b q) := by
  have hqN := hV.cN hq
  have hbN := hV.cN hb
  have hq60 := rk_lt (hV.c60 hq) hq
  have hb60 := rk_lt (hV.c60 hb) hb
  unfold wof
  by_cases z : b < q
  · have h1 := rk_lt z hb
    have hr' : rk P b = rk P q - 1 := by
      rw [if_pos (by omega)] at hr; exact hr
    rw [if_pos z]
    refine ⟨⟨by omega, ?_⟩, fun j hj hc => ?_⟩
    · rw [show q + (P 10 0 - (q - b)) = b + P 10 0 by omega, Nat.add_mod_right, Nat.mod_eq_of_lt hbN]; exact hb
    · obtain ⟨j1, j2⟩ := hc
      rw [show q + (P 10 0 - j) = (q - j) + P 10 0 by omega, Nat.add_mod_right, Nat.mod_eq_of_lt (by omega)] at j2
      have a1 := rk_lt (p := q - j) (q := q) (by omega) j2
      have a2 := rk_lt (p := b) (q := q - j) (by omega) hb
      omega
  · rw [if_neg z]
    refine ⟨⟨by omega, ?_⟩, fun j hj hc => ?_⟩
    · rw [show q + (P 10 0 - (q + P 10 0 - b)) = b by omega, Nat.mod_eq_of_lt hbN]; exact hb
    · obtain ⟨j1, j2⟩ := hc
      have hqb : rk P q ≤ rk P b := rk_mono (by omega)
      have hr0 : rk P q = 0 ∧ rk P b = rk P 60 - 1 := by
        by_cases y : 0 < rk P q
        · rw [if_pos y] at hr; omega
        · rw [if_neg y] at hr; omega
      by_cases y : j ≤ q
      · rw [show q + (P 10 0 - j) = (q - j) + P 10 0 by omega, Nat.add_mod_right, Nat.mod_eq_of_lt (by omega)] at j2
        have a1 := rk_lt (p := q - j) (q := q) (by omega) j2
        omega
      · rw [Nat.mod_eq_of_lt (by omega)] at j2
        have a1 := rk_lt (p := b) (q := q + (P 10 0 - j)) (by omega) hb
        have a2 := rk_lt (hV.c60 j2) j2
        omega
/-- the chair of the nearest neighbours, the least of several -/
def Crw (P : PAy) (i p : Nat) : Prop := P 0 p = 1 ∧ rk P p < i ∧ ∀ q, P 0 q = 1 → rk P q < i → wsA P p < wsA P q ∨ (wsA P p = wsA P q ∧ p ≤ q)
theorem k_crowd {o n : Nat} {P : PAy} {M : Mem} (h : PO o) (c : CP o P M) (hV : VA P) : ∀ (f i : Nat) (x1 x2 : Int32), i ≤ rk P 60 → rk P 60 < i + f → 1 ≤ rk P 60 → ((i = 0 ∧ x2 = 2147483647) ∨ ∃ p, x1 = nI (rk P p) ∧ x2 = nI (wsA P p) ∧ Crw P i p) → ∃ p, s4_mostCrowdedChair_7 n (o + 1) f x1 x2 (nI i) M = some (nI (rk P p), M) ∧ Crw P (rk P 60) p := by
  have h11 := hV.c11
  have h60 := hV.n60
  intro f
  induction f with
  | zero => intro i x1 x2 h1 h2; omega
  | succ f ih =>
    intro i x1 x2 h1 h2 hr hinv
    rw [s4_mostCrowdedChair_7, c.cs]
    by_cases q : i < rk P 60
    · obtain ⟨p, p1, p2, p3⟩ := rk_surj hV.c1 q
      have hpN := hV.cN p2
      -- the neighbours
      obtain ⟨a, a1, a2, a3⟩ := rk_surj (P := P) hV.c1 (c := if 0 < i then i - 1 else rk P 60 - 1) (n := 60) (by split <;> omega)
      obtain ⟨b, b1, b2, b3⟩ := rk_surj (P := P) hV.c1 (c := if i + 1 < rk P 60 then i + 1 else 0) (n := 60) (by split <;> omega)
      have haN := hV.cN a2
      have hbN := hV.cN b2
      have hon := IsOn_of hV p2 b2 (by rw [p3]; exact b3)
      have hbk := IsBk_of hV p2 a2 (by rw [p3]; exact a3)
      have hws := wsA_eq hon hbk
      have hw120 := wsA_120 (M := M) hV p2
      -- the two places read
      have core : ∀ x, x = nI (rk P a) → s4_mostCrowdedChair_32 n (s4_mostCrowdedChair_7 n (o + 1) f) (o + 1) x1 x2 (nI i) x (o + 1) M = (if x2 ≤ nI (wsA P p) then s4_mostCrowdedChair_7 n (o + 1) f x1 x2 (nI (i + 1)) M else s4_mostCrowdedChair_7 n (o + 1) f (nI i) (nI (wsA P p)) (nI (i + 1)) M) := fun x hx => by
        have fin : ∀ y, y = nI (rk P b) → s4_mostCrowdedChair_55 n (s4_mostCrowdedChair_7 n (o + 1) f) (o + 1) x1 x2 (nI i) (nI a) y (o + 1) M = (if x2 ≤ nI (wsA P p) then s4_mostCrowdedChair_7 n (o + 1) f x1 x2 (nI (i + 1)) M else s4_mostCrowdedChair_7 n (o + 1) f (nI i) (nI (wsA P p)) (nI (i + 1)) M) := fun y hy => by
          unfold s4_mostCrowdedChair_55
          rw [hy, k_place h c hV b2, cb_some, ← p3, k_place h c hV p2, cb_some, k_way c hV haN hpN, cb_some, k_place h c hV p2, cb_some, k_way c hV hpN hbN, cb_some, nI_add, ilet_e, ilet_e, ilet_e, nI_1, hws, Nat.add_comm]
        unfold s4_mostCrowdedChair_32
        rw [hx, k_place h c hV a2, cb_some, c.cs]
        by_cases z : i + 1 < rk P 60
        · have e : nI (rk P 60) - (1 : Int32) = nI (rk P 60 - 1) := sub_e (b := 1) (by omega)
          rw [e, ite_nge (by omega) (by omega)]
          refine fin _ ?_
          rw [b3, if_pos z, nI_1]
        · have e : nI (rk P 60) - (1 : Int32) = nI (rk P 60 - 1) := sub_e (b := 1) (by omega)
          rw [e, ite_ge (by omega) (by omega)]
          refine fin _ ?_
          rw [b3, if_neg z]; rfl
      have step : ∃ p, (if x2 ≤ nI (wsA P p) then s4_mostCrowdedChair_7 n (o + 1) f x1 x2 (nI (i + 1)) M else s4_mostCrowdedChair_7 n (o + 1) f (nI i) (nI (wsA P p)) (nI (i + 1)) M) = (if x2 ≤ nI (wsA P p) then s4_mostCrowdedChair_7 n (o + 1) f x1 x2 (nI (i + 1)) M else s4_mostCrowdedChair_7 n (o + 1) f (nI i) (nI (wsA P p)) (nI (i + 1)) M) := ⟨p, rfl⟩
      have go : ∃ r, (if x2 ≤ nI (wsA P p) then s4_mostCrowdedChair_7 n (o + 1) f x1 x2 (nI (i + 1)) M else s4_mostCrowdedChair_7 n (o + 1) f (nI i) (nI (wsA P p)) (nI (i + 1)) M) = some (nI (rk P r), M) ∧ Crw P (rk P 60) r := by
        rcases hinv with ⟨i0, hx2⟩ | ⟨r, r1, r2, r3⟩
        · have hgt : ¬ x2 ≤ nI (wsA P p) := by
            rw [hx2]; exact nI_ge (b := 2147483647) (by omega) (by decide)
          rw [if_neg hgt]
          refine ih (i + 1) _ _ (by omega) (by omega) hr (Or.inr ⟨p, by rw [p3], rfl, p2, by omega, fun q q1 q2 => ?_⟩)
          have : q = p := rk_inj q1 p2 (by omega)
          exact Or.inr ⟨by rw [this], by omega⟩
        · have hwr := wsA_120 (M := M) hV r3.1
          rw [r2]
          by_cases z : wsA P r ≤ wsA P p
          · rw [ite_ge z (by omega)]
            refine ih (i + 1) _ _ (by omega) (by omega) hr (Or.inr ⟨r, r1, rfl, r3.1, by have := r3.2.1; omega, fun q q1 q2 => ?_⟩)
            by_cases e : rk P q = i
            · have e2 : q = p := rk_inj q1 p2 (by omega)
              rw [e2]
              have h3 := (rk_lt_iff r3.1 p2).mp (by have := r3.2.1; omega)
              omega
            · exact r3.2.2 q q1 (by omega)
          · rw [ite_nge (by omega) (by omega)]
            refine ih (i + 1) _ _ (by omega) (by omega) hr (Or.inr ⟨p, by rw [p3], rfl, p2, by omega, fun q q1 q2 => ?_⟩)
            by_cases e : rk P q = i
            · have e2 : q = p := rk_inj q1 p2 (by omega)
              exact Or.inr ⟨by rw [e2], by omega⟩
            · have := r3.2.2 q q1 (by omega)
              exact Or.inl (by omega)
      rw [ite_nge q (by omega)]
      by_cases z : 0 < i
      · have e : nI i - (1 : Int32) = nI (i - 1) := sub_e (b := 1) (by omega)
        rw [if_neg (nI_nle z (by omega)), core _ (by rw [a3, if_pos z, e])]
        exact go
      · have e : nI (rk P 60) - (1 : Int32) = nI (rk P 60 - 1) := sub_e (b := 1) (by omega)
        have i0 : i = 0 := by omega
        rw [if_pos (show nI i ≤ 0 by rw [i0]; decide), core _ (by rw [a3, if_neg z, e])]
        exact go
    · have e : i = rk P 60 := by omega
      rcases hinv with ⟨i0, _⟩ | ⟨r, r1, r2, r3⟩
      · omega
      · refine ⟨r, ?_, by rw [← e]; exact r3⟩
        rw [e, ite_ge (Nat.le_refl _) (by omega), r1]
/-- the chair that goes, by what it is -/
theorem lv_0 {P : PAy} (hV : VA P) (hf : P 10 4 = 0) {p : Nat} (hp : P 0 p = 1) (hr : rk P p = 0) : lv P = p + 1 := by
  have key : ∀ n, lvn P n = if p < n then p + 1 else 0 := by
    intro n
    induction n with
    | zero => rfl
    | succ n ih =>
      show cif (P 0 n = 1 ∧ (lvn P n = 0 ∨ P 10 4 = 1 ∨ (P 10 4 = 2 ∧ wsA P n < wsA P (lvn P n - 1)))) (n + 1) (lvn P n) = _
      by_cases q : p < n
      · rw [if_pos q] at ih
        rw [ih, cif_neg (fun z => by omega), if_pos (by omega)]
      · rw [if_neg q] at ih
        by_cases e : n = p
        · subst e
          rw [cif_pos ⟨hp, Or.inl ih⟩, if_pos (by omega)]
        · rw [cif_neg, ih, if_neg (by omega)]
          intro z
          have := rk_lt (p := n) (q := p) (by omega) z.1
          omega
  unfold lv
  rw [key, if_pos (hV.cN hp)]
theorem lv_1 {P : PAy} (hV : VA P) (hf : P 10 4 = 1) {p : Nat} (hp : P 0 p = 1) (hr : rk P p + 1 = rk P 60) : lv P = p + 1 := by
  have key : ∀ n, p < n → lvn P n = p + 1 := by
    intro n
    induction n with
    | zero => intro h; omega
    | succ n ih =>
      intro h
      show cif (P 0 n = 1 ∧ (lvn P n = 0 ∨ P 10 4 = 1 ∨ (P 10 4 = 2 ∧ wsA P n < wsA P (lvn P n - 1)))) (n + 1) (lvn P n) = _
      by_cases e : n = p
      · subst e
        rw [cif_pos ⟨hp, Or.inr (Or.inl hf)⟩]
      · rw [cif_neg, ih (by omega)]
        intro z
        have h1 := rk_lt (p := p) (q := n) (by omega) hp
        have h2 := rk_lt (hV.c60 z.1) z.1
        omega
  exact key _ (hV.cN hp)
theorem lv_2 {P : PAy} (hV : VA P) (hf : P 10 4 = 2) {p : Nat} (hp : Crw P (rk P 60) p) : lv P = p + 1 := by
  have key : ∀ n, (lvn P n = 0 ∧ ∀ q, q < n → P 0 q ≠ 1) ∨ (∃ r, lvn P n = r + 1 ∧ P 0 r = 1 ∧ r < n ∧ ∀ q, q < n → P 0 q = 1 → wsA P r < wsA P q ∨ (wsA P r = wsA P q ∧ r ≤ q)) := by
    intro n
    induction n with
    | zero => exact Or.inl ⟨rfl, fun q h => by omega⟩
    | succ n ih =>
      have en : lvn P (n + 1) = cif (P 0 n = 1 ∧ (lvn P n = 0 ∨ P 10 4 = 1 ∨ (P 10 4 = 2 ∧ wsA P n < wsA P (lvn P n - 1)))) (n + 1) (lvn P n) := rfl
      rcases ih with ⟨i1, i2⟩ | ⟨r, i1, i2, i3, i4⟩
      · by_cases q : P 0 n = 1
        · refine Or.inr ⟨n, by rw [en, cif_pos ⟨q, Or.inl i1⟩], q, by omega, fun s s1 s2 => ?_⟩
          by_cases e : s = n
          · subst e; exact Or.inr ⟨rfl, Nat.le_refl _⟩
          · exact absurd s2 (i2 s (by omega))
        · refine Or.inl ⟨by rw [en, cif_neg (fun z => q z.1)]; exact i1, fun s s1 => ?_⟩
          by_cases e : s = n
          · subst e; exact q
          · exact i2 s (by omega)
      · have er : lvn P n - 1 = r := by omega
        by_cases q : P 0 n = 1 ∧ wsA P n < wsA P r
        · refine Or.inr ⟨n, by rw [en, cif_pos ⟨q.1, Or.inr (Or.inr ⟨hf, by rw [er]; exact q.2⟩)⟩], q.1, by omega, fun s s1 s2 => ?_⟩
          by_cases e : s = n
          · subst e; exact Or.inr ⟨rfl, Nat.le_refl _⟩
          · have := i4 s (by omega) s2
            exact Or.inl (by omega)
        · refine Or.inr ⟨r, ?_, i2, by omega, fun s s1 s2 => ?_⟩
          · rw [en, cif_neg, i1]
            intro z
            rcases z.2 with y | y | y
            · omega
            · omega
            · exact q ⟨z.1, by rw [← er]; exact y.2⟩
          · by_cases e : s = n
            · subst e
              have : ¬ wsA P s < wsA P r := fun y => q ⟨s2, y⟩
              omega
            · exact i4 s (by omega) s2
  rcases key (P 10 0) with ⟨i1, i2⟩ | ⟨r, i1, i2, i3, i4⟩
  · exact absurd hp.1 (i2 p (hV.cN hp.1))
  · have h1 := i4 p (hV.cN hp.1) hp.1
    have h2 := hp.2.2 r i2 (rk_lt (hV.c60 i2) i2)
    have : r = p := by omega
    unfold lv
    rw [i1, this]
theorem k_leaving {o n : Nat} {P : PAy} {M : Mem} (h : PO o) (c : CP o P M) (hV : VA P) (hr : 1 ≤ rk P 60) (hn : 60 < n) : s4_leavingPlace n (o + 1) (nI (P 10 4)) M = some (nI (lv P - 1), M) := by
  have h11 := hV.c11
  have hf := hV.s.2.2.1
  unfold s4_leavingPlace
  by_cases f0 : P 10 4 = 0
  · obtain ⟨p, p1, p2, p3⟩ := rk_surj (P := P) hV.c1 (c := 0) (n := 60) (by omega)
    have e := k_place h c hV p2
    rw [p3] at e
    rw [if_pos (show nI (P 10 4) = 0 by rw [f0]; rfl), show (0 : Int32) = nI 0 from rfl, e, cb_some, lv_0 hV f0 p2 p3]; rfl
  · rw [if_neg (fun z => f0 ((nI_is0 (by omega)).mp z))]
    by_cases f1 : P 10 4 = 1
    · obtain ⟨p, p1, p2, p3⟩ := rk_surj (P := P) hV.c1 (c := rk P 60 - 1) (n := 60) (by omega)
      have e := k_place h c hV p2
      have e1 : nI (rk P 60) - (1 : Int32) = nI (rk P p) := by rw [p3]; exact sub_e (b := 1) hr
      rw [if_pos (show nI (P 10 4) = 1 by rw [f1]; rfl), c.cs, e1, e, cb_some, lv_1 hV f1 p2 (by omega)]; rfl
    · rw [if_neg (fun z => f1 ((nI_is1 (by omega)).mp z))]
      obtain ⟨p, e, hp⟩ := k_crowd (n := n) h c hV n 0 0 2147483647 (Nat.zero_le _) (by omega) hr (Or.inl ⟨rfl, rfl⟩)
      unfold s4_mostCrowdedChair
      rw [show (0 : Int32) = nI 0 from rfl] at e ⊢
      rw [e, cb_some, k_place h c hV hp.1, cb_some, lv_2 hV (by omega) hp]; rfl
/-- a chair goes -/
theorem k_take13 {o n p : Nat} {P : PAy} {N : Mem} (h : PO o) (hV : VA P) (hp : P 0 p = 1) : ∀ (f i l : Nat) (M : Mem), i ≤ rk P 60 → rk P 60 < i + f → (l = if rk P p < i then i - 1 else i) → M (o + 1) 1 = nI (rk P 60) → (∀ q, P 0 q = 1 → q ≠ p → rk P q < i → M (o + 2) (rk (pset P 0 p 0) q) = nI q) → (∀ q, P 0 q = 1 → i ≤ rk P q → M (o + 2) (rk P q) = nI q) → (∀ q, q ≠ o + 2 → M q = N q) → Sp (s4_takeChair_13 n (o + 1) (nI p) f (nI l) (nI i) M) (fun _ M' => M' (o + 1) 1 = nI (rk (pset P 0 p 0) 60) ∧ (∀ q, P 0 q = 1 → q ≠ p → M' (o + 2) (rk (pset P 0 p 0) q) = nI q) ∧ (∀ k, k ≠ 1 → M' (o + 1) k = N (o + 1) k) ∧ M' (o + 3) p = 0 ∧ (∀ k, k ≠ p → M' (o + 3) k = N (o + 3) k) ∧ ∀ q, q ≠ o + 1 → q ≠ o + 2 → q ≠ o + 3 → M' q = N q) := by
  have h11 := hV.c11
  have hp60 := hV.c60 hp
  have hpr := rk_lt hp60 hp
  have hrk : ∀ q, rk (pset P 0 p 0) q + (if p < q then 1 else 0) = rk P q := fun q => by
    have := rk_set (P := P) (p := p) (v := 0) (by decide) q
    rw [hp, ite_self] at this
    omega
  intro f
  induction f with
  | zero => intro i l M h1 h2; omega
  | succ f ih =>
    intro i l M h1 h2 hl hc hlo hhi hfr
    rw [s4_takeChair_13, hc]
    by_cases q : i < rk P 60
    · obtain ⟨r, r1, r2, r3⟩ := rk_surj hV.c1 q
      have ii : inB (nI i) (alen (o + 2)) := by rw [al2 h]; exact vp_in_nI (by omega) (by decide)
      have e : M (o + 2) (nI i).toNatClampNeg = nI r := by rw [nI_clamp (by omega), ← r3]; exact hhi r r2 (by omega)
      refine Sp.neg (nI_ge q (by omega)) (Sp.neg (show ¬ (11 : Int32) ≤ nI i from nI_ge (b := 11) (by omega) (by decide)) ?_)
      rw [lr2 h]
      refine Sp.pos ii ?_
      rw [e]
      by_cases z : r = p
      · refine Sp.pos (by rw [z]) (Sp.ilet ?_)
        rw [nI_1]
        refine ih (i + 1) l M (by omega) (by omega) ?_ hc (fun s s1 s2 s3 => ?_) (fun s s1 s2 => hhi s s1 (by omega)) hfr
        · subst z
          rw [if_pos (by omega)]
          rw [if_neg (by omega)] at hl
          omega
        · refine hlo s s1 s2 ?_
          have : rk P s ≠ i := fun y => s2 (by rw [← z]; exact rk_inj s1 r2 (by omega))
          omega
      · have il : inB (nI l) (alen (o + 2)) := by rw [al2 h]; exact vp_in_nI (by rw [hl]; split <;> omega) (by decide)
        have hrl : rk (pset P 0 p 0) r = l := by
          have h3 := hrk r
          have h4 : p < r ↔ rk P p < i := by rw [← r3]; exact (rk_lt_iff hp r2).symm
          rw [hl]
          by_cases y : p < r
          · rw [if_pos y] at h3
            rw [if_pos (h4.mp y)]
            omega
          · rw [if_neg y] at h3
            rw [if_neg (fun w => y (h4.mpr w))]
            omega
        have hli : l ≤ i := by rw [hl]; split <;> omega
        refine Sp.neg (fun y => z ((nI_eq (by omega) (by omega)).mp y)) (Sp.pos ii (Sp.pos il (Sp.mlet (Sp.ilet (Sp.ilet ?_)))))
        rw [nI_1, nI_1, nI_clamp (by omega)]
        refine ih (i + 1) (l + 1) _ (by omega) (by omega) ?_ ?_ (fun s s1 s2 s3 => ?_) (fun s s1 s2 => ?_) (fun s hs => ?_)
        · rw [hl]
          have : rk P p ≠ i := fun y => z (rk_inj r2 hp (by omega))
          by_cases y : rk P p < i
          · rw [if_pos y, if_pos (by omega)]; omega
          · rw [if_neg y, if_neg (by omega)]
        · rw [ms_ne (by omega)]; exact hc
        · by_cases y : s = r
          · subst y; rw [hrl]; exact ms_eq
          · have hsne : rk P s ≠ i := fun w => y (rk_inj s1 r2 (by omega))
            have hsl : rk (pset P 0 p 0) s ≠ l := fun w => by
              rw [← hrl] at w
              exact y (rk_inj (P := pset P 0 p 0) (by rw [ps_j s2]; exact s1) (by rw [ps_j z]; exact r2) w)
            rw [ms_ne2 hsl]; exact hlo s s1 s2 (by omega)
        · rw [ms_ne2 (by omega)]; exact hhi s s1 (by omega)
        · rw [ms_ne hs]; exact hfr s hs
    · have e : i = rk P 60 := by omega
      have hl2 : l = rk (pset P 0 p 0) 60 := by
        have := hrk 60
        rw [if_pos hp60] at this
        rw [hl, if_pos (by omega)]; omega
      have ip : inB (nI p) (alen (o + 3)) := by rw [al3 h]; exact vp_in_nI (by omega) (by decide)
      refine Sp.pos (nI_le (by omega) (by omega)) ?_
      unfold s4_takeChair_58
      rw [lr3 h]
      refine Sp.mlet (Sp.pos ip (Sp.mlet (Sp.ret ⟨?_, fun s s1 s2 => ?_, fun k hk => ?_, ?_, fun k hk => ?_, fun s s1 s2 s3 => ?_⟩)))
      · rw [ms_ne (by omega), ms_eq, hl2]
      · rw [ms_ne (by omega), ms_ne (by omega)]
        exact hlo s s1 s2 (by rw [e]; exact rk_lt (hV.c60 s1) s1)
      · rw [ms_ne (by omega), ms_ne2 hk, hfr _ (by omega)]
      · rw [nI_clamp (by omega), ms_eq]; rfl
      · rw [nI_clamp (by omega), ms_ne2 hk, ms_ne (by omega), hfr _ (by omega)]
      · rw [ms_ne s3, ms_ne s1, hfr s s2]
theorem CP.take {o p : Nat} {P : PAy} {N M' : Mem} (c : CP o P N) (hV : VA P) (hp : P 0 p = 1) (h1 : M' (o + 1) 1 = nI (rk (pset P 0 p 0) 60)) (h2 : ∀ q, P 0 q = 1 → q ≠ p → M' (o + 2) (rk (pset P 0 p 0) q) = nI q) (h3 : ∀ k, k ≠ 1 → M' (o + 1) k = N (o + 1) k) (h4 : M' (o + 3) p = 0) (h5 : ∀ k, k ≠ p → M' (o + 3) k = N (o + 3) k) (h6 : ∀ q, q ≠ o + 1 → q ≠ o + 2 → q ≠ o + 3 → M' q = N q) : CP o (pset P 0 p 0) M' := by
  obtain ⟨⟨a1, a2, a3, a4⟩, ⟨b1, b2, b3⟩, c1, ⟨d1, d2, d3, d4, d5⟩, e1⟩ := c
  have k : ∀ a b, a ≠ 0 → pset P 0 p 0 a b = P a b := fun a b ha => ps_i ha
  have h12 := hV.w12
  refine ⟨⟨?_, h1, fun q hq => ?_, fun q hq => ?_⟩, ⟨?_, ?_, ?_⟩, fun w hw j hj => ?_, ⟨?_, ?_, ?_, ?_, ?_⟩, fun q hq => ?_⟩
  · rw [h3 0 (by decide), k _ _ (by decide)]; exact a1
  · by_cases e : q = p
    · subst e; rw [ps_eq] at hq; omega
    · rw [ps_j e] at hq; exact h2 q hq e
  · by_cases e : q = p
    · subst e; rw [h4, ps_eq]; rfl
    · rw [h5 q e, ps_j e]; exact a4 q hq
  · rw [h6 _ (by omega) (by omega) (by omega), k _ _ (by decide)]; exact b1
  · rw [h6 _ (by omega) (by omega) (by omega), k _ _ (by decide)]; exact b2
  · rw [h6 _ (by omega) (by omega) (by omega), k _ _ (by decide)]; exact b3
  · rw [k _ _ (by decide)] at hw
    rw [h6 _ (by omega) (by omega) (by omega), k _ _ (by omega)]; exact c1 w hw j hj
  · rw [h6 _ (by omega) (by omega) (by omega), k _ _ (by decide)]; exact d1
  · rw [h6 _ (by omega) (by omega) (by omega), k _ _ (by decide)]; exact d2
  · rw [h6 _ (by omega) (by omega) (by omega), k _ _ (by decide)]; exact d3
  · rw [h6 _ (by omega) (by omega) (by omega), k _ _ (by decide)]; exact d4
  · rw [h6 _ (by omega) (by omega) (by omega), k _ _ (by decide)]; exact d5
  · have : tk (pset P 0 p 0) q = tk P q := by
      unfold tk
      rw [k _ _ (by decide)]
      exact tkn_ext (fun v => k _ _ (by decide)) (fun v => k _ _ (by decide)) _
    rw [h6 _ (by omega) (by omega) (by omega), this]; exact e1 q hq
theorem k_take {o n p : Nat} {P : PAy} {M : Mem} (h : PO o) (c : CP o P M) (hV : VA P) (hp : P 0 p = 1) (hn : 60 < n) : Sp (s4_takeChair n (o + 1) (nI p) M) (fun _ M' => CP o (pset P 0 p 0) M' ∧ KFo o M M') := by
  have h11 := hV.c11
  have hp60 := hV.c60 hp
  unfold s4_takeChair
  refine Sp_cbe (k_hasChair h c hV hp60) (Sp.neg (by rw [hp]; decide) ?_)
  refine (k_take13 (n := n) (N := M) h hV hp n 0 0 M (Nat.zero_le _) (by omega) (by rw [if_neg (by omega)]) c.cs (fun q _ _ hq => by omega) (fun q hq _ => c.1.2.2.1 q hq) (fun _ _ => rfl)).mono (fun r M' z => ?_)
  obtain ⟨z1, z2, z3, z4, z5, z6⟩ := z
  exact ⟨c.take hV hp z1 z2 z3 z4 z5 z6, fun q hq => z6 q (by omega) (by omega) (by omega)⟩
