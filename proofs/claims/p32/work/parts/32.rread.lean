/-! ===== the reference's rows and the party as numbers ===== -/
def pcA (P : PAy) (j : Nat) : Nat := if j < 60 then P 0 j else if j < 168 then P (1 + (j - 60) / 12) ((j - 60) % 12) else P 10 (j - 168)
def RP (P : PAy) (M : Mem) : Prop := ∀ j, j < 177 → kc M j = nI (pcA P j)
theorem RP.ch {P : PAy} {M : Mem} (h : RP P M) {j : Nat} (hj : j < 60) : M 82 j = nI (P 0 j) := by
  have e := h j (by omega)
  rw [kc_chair hj] at e
  rw [e]; unfold pcA; rw [if_pos hj]
theorem RP.row {P : PAy} {M : Mem} (h : RP P M) (i : Nat) {j : Nat} (hi : i < 9) (hj : j < 12) : M (83 + i) j = nI (P (1 + i) j) := by
  have e := h (60 + 12 * i + j) (by omega)
  rw [kc_row hi hj] at e
  rw [e]; unfold pcA
  rw [if_neg (by omega), if_pos (by omega)]
  have e1 : (60 + 12 * i + j - 60) / 12 = i := by omega
  have e2 : (60 + 12 * i + j - 60) % 12 = j := by omega
  rw [e1, e2]
theorem RP.one {P : PAy} {M : Mem} (h : RP P M) (s : Nat) (hs : s < 9) : M 80 (11 + s) = nI (P 10 s) := by
  have e := h (168 + s) (by omega)
  rw [kc_one] at e
  rw [e]; unfold pcA
  rw [if_neg (by omega), if_neg (by omega)]
  have e1 : 168 + s - 168 = s := by omega
  rw [e1]
theorem RP.chc {P : PAy} {M : Mem} (h : RP P M) {j : Nat} (hj : j < 60) : M 82 (nI j).toNatClampNeg = nI (P 0 j) := by
  rw [nI_clamp (by omega)]; exact h.ch hj
theorem RP.rowc {P : PAy} {M : Mem} (h : RP P M) (i : Nat) {j : Nat} (hi : i < 9) (hj : j < 12) : M (83 + i) (nI j).toNatClampNeg = nI (P (1 + i) j) := by
  rw [nI_clamp (by omega)]; exact h.row i hi hj
theorem RP.mk {P : PAy} {M : Mem} (h1 : ∀ j, j < 60 → M 82 j = nI (P 0 j)) (h2 : ∀ i j, i < 9 → j < 12 → M (83 + i) j = nI (P (1 + i) j)) (h3 : ∀ s, s < 9 → M 80 (11 + s) = nI (P 10 s)) : RP P M := by
  intro j hj
  unfold pcA
  by_cases a : j < 60
  · rw [kc_chair a, if_pos a]; exact h1 j a
  · rw [if_neg a]
    by_cases b : j < 168
    · rw [if_pos b]
      have e : j = 60 + 12 * ((j - 60) / 12) + (j - 60) % 12 := by omega
      have hi : (j - 60) / 12 < 9 := by omega
      have hm : (j - 60) % 12 < 12 := by omega
      have e2 : kc M j = M (83 + (j - 60) / 12) ((j - 60) % 12) := by
        have := kc_row (M := M) hi hm
        rw [← e] at this
        exact this
      rw [e2]; exact h2 _ _ hi hm
    · rw [if_neg b]
      have e : j = 168 + (j - 168) := by omega
      have e2 : kc M j = M 80 (11 + (j - 168)) := by
        have := kc_one (M := M) (s := j - 168)
        rw [← e] at this
        exact this
      rw [e2]; exact h3 _ (by omega)
theorem RP.frA {P : PAy} {M M' : Mem} (h : RP P M) (h1 : ∀ s, s < 9 → M' 80 (11 + s) = M 80 (11 + s)) (h2 : ∀ q, 82 ≤ q → q < 92 → M' q = M q) : RP P M' :=
  RP.mk (fun j hj => by rw [h2 82 (by decide) (by decide)]; exact h.ch hj) (fun i j hi hj => by rw [h2 (83 + i) (by omega) (by omega)]; exact h.row i hi hj) (fun s hs => by rw [h1 s hs]; exact h.one s hs)
theorem RP.oth {P : PAy} {M : Mem} {q k : Nat} {v : Int32} (h : RP P M) (h8 : q ≠ 80) (hq : q < 82 ∨ 92 ≤ q) : RP P (mset M q k v) :=
  h.frA (fun s _ => by rw [ms_ne (Ne.symm h8)]) (fun r h1 h2 => ms_ne (by omega))
theorem RP.scl {P : PAy} {M : Mem} {k : Nat} {v : Int32} (h : RP P M) (hk : k < 11 ∨ 20 ≤ k) : RP P (mset M 80 k v) :=
  h.frA (fun s _ => ms_ne2 (by omega)) (fun r h1 h2 => ms_ne (by omega))
theorem RP.sch {P : PAy} {M : Mem} {p v : Nat} (h : RP P M) : RP (pset P 0 p v) (mset M 82 p (nI v)) := by
  refine RP.mk (fun j hj => ?_) (fun i j hi hj => ?_) (fun s hs => ?_)
  · by_cases e : j = p
    · subst e; rw [ms_eq, ps_eq]
    · rw [ms_ne2 e, ps_j e]; exact h.ch hj
  · rw [ms_ne (by omega), ps_i (by omega)]; exact h.row i hi hj
  · rw [ms_ne (by omega), ps_i (by omega)]; exact h.one s hs
theorem RP.srow {P : PAy} {M : Mem} (i : Nat) {w v : Nat} (h : RP P M) (hi : i < 9) : RP (pset P (1 + i) w v) (mset M (83 + i) w (nI v)) := by
  refine RP.mk (fun j hj => ?_) (fun a j ha hj => ?_) (fun s hs => ?_)
  · rw [ms_ne (by omega), ps_i (by omega)]; exact h.ch hj
  · by_cases e : a = i
    · subst e
      by_cases f : j = w
      · subst f; rw [ms_eq, ps_eq]
      · rw [ms_ne2 f, ps_j f]; exact h.row a ha hj
    · rw [ms_ne (by omega), ps_i (by omega)]; exact h.row a ha hj
  · rw [ms_ne (by omega), ps_i (by omega)]; exact h.one s hs
theorem RP.sone {P : PAy} {M : Mem} (s : Nat) {v : Nat} (h : RP P M) : RP (pset P 10 s v) (mset M 80 (11 + s) (nI v)) := by
  refine RP.mk (fun j hj => ?_) (fun a j ha hj => ?_) (fun t ht => ?_)
  · rw [ms_ne (by decide), ps_i (by decide)]; exact h.ch hj
  · rw [ms_ne (by omega), ps_i (by omega)]; exact h.row a ha hj
  · by_cases f : t = s
    · subst f; rw [ms_eq, ps_eq]
    · rw [ms_ne2 (by omega), ps_j f]; exact h.one t ht
/-! reading -/
theorem ite_ge {α : Type} {a b : Nat} {x y : α} (h : b ≤ a) (ha : a < 2 ^ 31) : (if nI b ≤ nI a then x else y) = x := if_pos (nI_le h ha)
theorem ite_nge {α : Type} {a b : Nat} {x y : α} (h : a < b) (hb : b < 2 ^ 31) : (if nI b ≤ nI a then x else y) = y := if_neg (nI_ge h hb)
theorem nI_is1 {a : Nat} (ha : a < 2 ^ 31) : nI a = 1 ↔ a = 1 := nI_eq ha (by decide)
theorem nI_is0 {a : Nat} (ha : a < 2 ^ 31) : nI a = 0 ↔ a = 0 := nI_eq ha (by decide)
theorem nI_is2 {a : Nat} (ha : a < 2 ^ 31) : nI a = 2 ↔ a = 2 := nI_eq ha (by decide)
theorem nI_is3 {a : Nat} (ha : a < 2 ^ 31) : nI a = 3 ↔ a = 3 := nI_eq ha (by decide)
theorem nI_is4 {a : Nat} (ha : a < 2 ^ 31) : nI a = 4 ↔ a = 4 := nI_eq ha (by decide)
theorem nI_is5 {a : Nat} (ha : a < 2 ^ 31) : nI a = 5 ↔ a = 5 := nI_eq ha (by decide)
theorem nI_is6 {a : Nat} (ha : a < 2 ^ 31) : nI a = 6 ↔ a = 6 := nI_eq ha (by decide)
theorem nI_is7 {a : Nat} (ha : a < 2 ^ 31) : nI a = 7 ↔ a = 7 := nI_eq ha (by decide)
theorem i_in {c N : Nat} (h : c < N) (hN : N < 2 ^ 31) : inB (nI c) N := vp_in_nI h hN
theorem sub_e {a b : Nat} (h : b ≤ a) : nI a - nI b = nI (a - b) := pk_sub h
theorem far_14 {N t : Nat} (h : t ≤ N) (hN : N ≤ 60) (M : Mem) : (if nI t ≤ nI N - nI t then some (nI t, M) else some (nI N - nI t, M)) = some (nI (if t ≤ N - t then t else N - t), M) := by
  rw [sub_e h]
  by_cases q : t ≤ N - t
  · rw [if_pos q, ite_ge q (by omega)]
  · rw [if_neg q, ite_nge (by omega) (by omega)]
theorem r_far {P : PAy} {M : Mem} {n a b : Nat} (h : RP P M) (hV : VA P) (ha : a < P 10 0) (hb : b < P 10 0) : s9_far n 80 (nI a) (nI b) M = some (nI (frA (P 10 0) a b), M) := by
  have hN : M 80 11 = nI (P 10 0) := h.one 0 (by decide)
  have h60 := hV.n60
  have hw := wy2_lt ha hb
  unfold s9_far s9_far_14 frA
  rw [hN]
  by_cases q : a ≤ b
  · have e : wy2 a b = b - a := if_pos q
    rw [ite_ge q (by omega), sub_e q, far_14 (by omega) h60, e]
  · have e : wy2 a b = a - b := if_neg q
    rw [ite_nge (by omega) (by omega), sub_e (by omega), far_14 (by omega) h60, e]
theorem r_isPlace {P : PAy} {M : Mem} {x : Int32} (h : RP P M) : s9_isPlace 80 x M = some (if x < 0 then 0 else if nI (P 10 0) ≤ x then 0 else 1, M) := by
  have hN : M 80 11 = nI (P 10 0) := h.one 0 (by decide)
  unfold s9_isPlace
  rw [hN]
  by_cases q : x < 0
  · rw [if_pos q, if_pos q]
  · rw [if_neg q, if_neg q]
    by_cases q2 : nI (P 10 0) ≤ x
    · rw [if_pos q2, if_pos q2]
    · rw [if_neg q2, if_neg q2]
theorem r_isWalker {P : PAy} {M : Mem} {x : Int32} (h : RP P M) : s9_isWalker 80 x M = some (if x < 0 then 0 else if nI (P 10 1) ≤ x then 0 else 1, M) := by
  have hN : M 80 12 = nI (P 10 1) := h.one 1 (by decide)
  unfold s9_isWalker
  rw [hN]
  by_cases q : x < 0
  · rw [if_pos q, if_pos q]
  · rw [if_neg q, if_neg q]
    by_cases q2 : nI (P 10 1) ≤ x
    · rw [if_pos q2, if_pos q2]
    · rw [if_neg q2, if_neg q2]
theorem r_chairs4 {P : PAy} {M : Mem} {n : Nat} (h : RP P M) (hV : VA P) : ∀ (f i : Nat), i ≤ P 10 0 → P 10 0 < i + f → s9_chairs_4 n 80 f (nI (rk P i)) (nI i) M = some (nI (rk P (P 10 0)), M) := by
  have hN : M 80 11 = nI (P 10 0) := h.one 0 (by decide)
  have h60 := hV.n60
  intro f
  induction f with
  | zero => intro i h1 h2; omega
  | succ f ih =>
    intro i h1 h2
    rw [s9_chairs_4, hN]
    by_cases q : i < P 10 0
    · have hin : inB (nI i) (alen (link 80 1)) := vp_in_nI (N := 60) (by omega) (by decide)
      rw [ite_nge q (by omega), if_pos hin, ilet_e, ilet_e, nI_clamp (by omega)]
      have e : M (link 80 1) i = nI (P 0 i) := h.ch (by omega)
      rw [e, nI_add, nI_1]
      exact ih (i + 1) (by omega) (by omega)
    · have e : i = P 10 0 := by omega
      rw [e, ite_ge (Nat.le_refl _) (by omega)]
theorem r_chairs {P : PAy} {M : Mem} {n : Nat} (h : RP P M) (hV : VA P) (hn : 60 < n) : s9_chairs n 80 M = some (nI (rk P 60), M) := by
  rw [← rk_N hV]
  exact r_chairs4 h hV n 0 (Nat.zero_le _) (by have := hV.n60; omega)
theorem r_ins4 {P : PAy} {M : Mem} {n : Nat} (h : RP P M) (hV : VA P) : ∀ (f i : Nat), i ≤ P 10 1 → P 10 1 < i + f → s9_ins_4 n 80 f (nI (insc P i)) (nI i) M = some (nI (insc P (P 10 1)), M) := by
  have hN : M 80 12 = nI (P 10 1) := h.one 1 (by decide)
  have h60 := hV.w12
  intro f
  induction f with
  | zero => intro i h1 h2; omega
  | succ f ih =>
    intro i h1 h2
    rw [s9_ins_4, hN]
    by_cases q : i < P 10 1
    · have hin : inB (nI i) (alen (link 80 4)) := vp_in_nI (N := 12) (by omega) (by decide)
      rw [ite_nge q (by omega), if_pos hin, ilet_e, ilet_e, nI_clamp (by omega)]
      have e : M (link 80 4) i = nI (P 3 i) := h.row 2 (by decide) (by omega)
      rw [e, nI_add, nI_1]
      exact ih (i + 1) (by omega) (by omega)
    · have e : i = P 10 1 := by omega
      rw [e, ite_ge (Nat.le_refl _) (by omega)]
theorem r_ins {P : PAy} {M : Mem} {n : Nat} (h : RP P M) (hV : VA P) (hn : 60 < n) : s9_ins n 80 M = some (nI (insc P (P 10 1)), M) :=
  r_ins4 h hV n 0 (Nat.zero_le _) (by have := hV.w12; omega)
theorem r_isTaken2 {P : PAy} {M : Mem} {n p : Nat} (h : RP P M) (h12 : P 10 1 ≤ 12) (hB : ∀ v, v < P 10 1 → P 1 v < 60 ∧ P 3 v ≤ 1) (hp : p < 60) : ∀ (f i : Nat), i ≤ P 10 1 → P 10 1 < i + f → (∀ v, v < i → P 3 v = 1 → P 1 v ≠ p) → s9_isTaken_2 n 80 (nI p) f (nI i) M = some (nI (tk P p), M) := by
  have hN : M 80 12 = nI (P 10 1) := h.one 1 (by decide)
  intro f
  induction f with
  | zero => intro i h1 h2; omega
  | succ f ih =>
    intro i h1 h2 h3
    rw [s9_isTaken_2, hN]
    by_cases q : i < P 10 1
    · have hin : inB (nI i) (alen (link 80 4)) := vp_in_nI (N := 12) (by omega) (by decide)
      have hin2 : inB (nI i) (alen (link 80 2)) := vp_in_nI (N := 12) (by omega) (by decide)
      have e : M (link 80 4) (nI i).toNatClampNeg = nI (P 3 i) := h.rowc 2 (by decide) (by omega)
      have e2 : M (link 80 2) (nI i).toNatClampNeg = nI (P 1 i) := h.rowc 0 (by decide) (by omega)
      obtain ⟨b1, b3⟩ := hB i q
      rw [ite_nge q (by omega), if_pos hin, e]
      by_cases q3 : P 3 i = 1
      · rw [if_pos (by rw [q3]; rfl), if_pos hin2, e2]
        by_cases q4 : P 1 i = p
        · rw [if_pos (by rw [q4])]
          have : tk P p = 1 := (tkn_1 _).mpr ⟨i, q, q3, q4⟩
          rw [this]; rfl
        · rw [if_neg (fun z => q4 ((nI_eq (by omega) (by omega)).mp z)), ilet_e, nI_1]
          exact ih (i + 1) (by omega) (by omega) (fun v hv hv3 => by
            by_cases e : v = i
            · subst e; exact q4
            · exact h3 v (by omega) hv3)
      · rw [if_neg (fun z => q3 ((nI_is1 (by omega)).mp z)), ilet_e, nI_1]
        exact ih (i + 1) (by omega) (by omega) (fun v hv hv3 => by
            by_cases e : v = i
            · subst e; exact absurd hv3 q3
            · exact h3 v (by omega) hv3)
    · have e : i = P 10 1 := by omega
      have : tk P p = 0 := tkn_0.mpr (fun v hv => h3 v (by omega))
      rw [ite_ge (by omega) (by omega), this]; rfl
theorem VA.b13 {P : PAy} (hV : VA P) : ∀ v, v < P 10 1 → P 1 v < 60 ∧ P 3 v ≤ 1 := fun v hv => by
  have h1 := hV.w hv
  have h2 := hV.n60
  exact ⟨by have := h1.1; omega, h1.2.2.1⟩
theorem r_isTaken {P : PAy} {M : Mem} {n p : Nat} (h : RP P M) (h12 : P 10 1 ≤ 12) (hB : ∀ v, v < P 10 1 → P 1 v < 60 ∧ P 3 v ≤ 1) (hn : 60 < n) (hp : p < 60) : s9_isTaken n 80 (nI p) M = some (nI (tk P p), M) :=
  r_isTaken2 h h12 hB hp n 0 (Nat.zero_le _) (by omega) (fun v hv => by omega)
/-- the way from a haste's parts to its number -/
theorem hov_neg {a b : Nat} (ha : a < 2 ^ 30) (hb : b < 2 ^ 30) {α : Type} (F : Int32 → α) : (if 0 ≤ nI a - nI b then F (nI a - nI b) else F 0) = F (nI (a - b)) := by
  by_cases q : b ≤ a
  · rw [sub_e q, if_pos (nI_pos' (by omega))]
  · have e : a - b = 0 := by omega
    rw [if_neg (Int32.not_le.mpr (pk_sneg (by omega) (by omega))), e]; rfl
