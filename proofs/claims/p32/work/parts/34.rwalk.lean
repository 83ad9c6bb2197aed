/-! ===== the reference: which chair, over or not, walking ===== -/
theorem rem_e {a d : Nat} (ha : a < 2 ^ 31) (h0 : 0 < d) (hd : d < 2 ^ 31) : nI a - nI a / nI d * nI d = nI (a % d) := pk_rem ha h0 hd
theorem back_e {p x N : Nat} (h : x ≤ N) : (nI p - nI x) + nI N = nI (p + (N - x)) := by
  rw [← nI_add, ← sub_e h, Int32.sub_eq_add_neg, Int32.sub_eq_add_neg, Int32.add_assoc, Int32.add_comm (-nI x) (nI N)]
theorem r_ways26 {P : PAy} {M : Mem} {n p a : Nat} (h : RP P M) (hV : VA P) (hp : P 0 p = 1) (ha : IsOn P p a) : ∀ (f i : Nat), 1 ≤ i → i ≤ P 10 0 → P 10 0 < i + f → (∀ j, j < i → 1 ≤ j → P 0 ((p + (P 10 0 - j)) % P 10 0) ≠ 1) → s9_ways_26 n 80 (nI p) (nI a) f (nI i) M = some (nI (wsA P p), M) := by
  have hN : M 80 11 = nI (P 10 0) := h.one 0 (by decide)
  have h60 := hV.n60
  have h4 := hV.n4
  have hpN := hV.cN hp
  intro f
  induction f with
  | zero => intro i h1 h2 h3; omega
  | succ f ih =>
    intro i h1 h2 h3 h5
    rw [s9_ways_26, hN, if_neg (nI_ne0 (by omega) (by omega)), back_e h2, rem_e (by omega) (by omega) (by omega)]
    have hm : (p + (P 10 0 - i)) % P 10 0 < P 10 0 := Nat.mod_lt _ (by omega)
    have hin : inB (nI ((p + (P 10 0 - i)) % P 10 0)) (alen (link 80 1)) := vp_in_nI (N := 60) (by omega) (by decide)
    have e : M (link 80 1) (nI ((p + (P 10 0 - i)) % P 10 0)).toNatClampNeg = nI (P 0 ((p + (P 10 0 - i)) % P 10 0)) := h.chc (by omega)
    have hc := hV.c1 ((p + (P 10 0 - i)) % P 10 0)
    rw [if_pos hin, e]
    by_cases q : P 0 ((p + (P 10 0 - i)) % P 10 0) = 0
    · rw [if_pos (by rw [q]; rfl), ilet_e, nI_1]
      have hlt : i ≠ P 10 0 := fun z => by
        rw [z, Nat.sub_self, Nat.add_zero, Nat.mod_eq_of_lt hpN] at q
        omega
      exact ih (i + 1) (by omega) (by omega) (by omega) (fun j hj hj1 => by
        by_cases e : j = i
        · subst e; omega
        · exact h5 j (by omega) hj1)
    · rw [if_neg (fun z => q ((nI_is0 (by omega)).mp z)), nI_add]
      have hb : IsBk P p i := ⟨⟨h1, by omega⟩, fun j hj z => h5 j hj z.1 z.2⟩
      rw [wsA_eq ha hb]
theorem r_ways2 {P : PAy} {M : Mem} {n p : Nat} (h : RP P M) (hV : VA P) (hp : P 0 p = 1) (hn : 60 < n) : ∀ (f i : Nat), 1 ≤ i → i ≤ P 10 0 → P 10 0 < i + f → (∀ j, j < i → 1 ≤ j → P 0 ((p + j) % P 10 0) ≠ 1) → s9_ways_2 n 80 (nI p) f (nI i) M = some (nI (wsA P p), M) := by
  have hN : M 80 11 = nI (P 10 0) := h.one 0 (by decide)
  have h60 := hV.n60
  have h4 := hV.n4
  have hpN := hV.cN hp
  intro f
  induction f with
  | zero => intro i h1 h2 h3; omega
  | succ f ih =>
    intro i h1 h2 h3 h5
    rw [s9_ways_2, hN, if_neg (nI_ne0 (by omega) (by omega)), nI_add, rem_e (by omega) (by omega) (by omega)]
    have hm : (p + i) % P 10 0 < P 10 0 := Nat.mod_lt _ (by omega)
    have hin : inB (nI ((p + i) % P 10 0)) (alen (link 80 1)) := vp_in_nI (N := 60) (by omega) (by decide)
    have e : M (link 80 1) (nI ((p + i) % P 10 0)).toNatClampNeg = nI (P 0 ((p + i) % P 10 0)) := h.chc (by omega)
    have hc := hV.c1 ((p + i) % P 10 0)
    rw [if_pos hin, e]
    by_cases q : P 0 ((p + i) % P 10 0) = 0
    · rw [if_pos (by rw [q]; rfl), ilet_e, nI_1]
      have hlt : i ≠ P 10 0 := fun z => by
        rw [z, Nat.add_mod_right, Nat.mod_eq_of_lt hpN] at q
        omega
      exact ih (i + 1) (by omega) (by omega) (by omega) (fun j hj hj1 => by
        by_cases e : j = i
        · subst e; omega
        · exact h5 j (by omega) hj1)
    · rw [if_neg (fun z => q ((nI_is0 (by omega)).mp z))]
      have ha : IsOn P p i := ⟨⟨h1, by omega⟩, fun j hj z => h5 j hj z.1 z.2⟩
      exact r_ways26 h hV hp ha n 1 (by decide) (by omega) (by omega) (fun j hj hj1 => by omega)
theorem r_ways {P : PAy} {M : Mem} {n p : Nat} (h : RP P M) (hV : VA P) (hp : P 0 p = 1) (hn : 60 < n) : s9_ways n 80 (nI p) M = some (nI (wsA P p), M) :=
  r_ways2 h hV hp hn n 1 (by decide) (by have := hV.n4; omega) (by have := hV.n60; omega) (fun j hj hj1 => by omega)
/-- ways are few -/
theorem wsA_le {P : PAy} {M : Mem} {p : Nat} (hV : VA P) (hp : P 0 p = 1) : ∃ a b, IsOn P p a ∧ IsBk P p b ∧ a ≤ P 10 0 ∧ b ≤ P 10 0 := by
  have hpN := hV.cN hp
  have h4 := hV.n4
  have least : ∀ (Q : Nat → Prop) (m : Nat), Q m → ∃ k, k ≤ m ∧ FstA Q k := by
    intro Q m
    induction m using Nat.strongRecOn with
    | _ m ih =>
      intro hm
      by_cases q : ∃ u, u < m ∧ Q u
      · obtain ⟨u, h1, h2⟩ := q
        obtain ⟨k, h3, h4⟩ := ih u h1 h2
        exact ⟨k, by omega, h4⟩
      · exact ⟨m, Nat.le_refl _, hm, fun u hu z => q ⟨u, hu, z⟩⟩
  obtain ⟨a, ha, ha2⟩ := least (fun j => 1 ≤ j ∧ P 0 ((p + j) % P 10 0) = 1) (P 10 0) ⟨by omega, by rw [Nat.add_mod_right, Nat.mod_eq_of_lt hpN]; exact hp⟩
  obtain ⟨b, hb, hb2⟩ := least (fun j => 1 ≤ j ∧ P 0 ((p + (P 10 0 - j)) % P 10 0) = 1) (P 10 0) ⟨by omega, by rw [Nat.sub_self, Nat.add_zero, Nat.mod_eq_of_lt hpN]; exact hp⟩
  exact ⟨a, b, ha2, hb2, ha, hb⟩
theorem wsA_120 {P : PAy} {M : Mem} {p : Nat} (hV : VA P) (hp : P 0 p = 1) : wsA P p ≤ 120 := by
  obtain ⟨a, b, h1, h2, h3, h4⟩ := wsA_le (M := M) hV hp
  have := hV.n60
  rw [wsA_eq h1 h2]; omega
theorem r_leaver5 {P : PAy} {M : Mem} {n : Nat} (h : RP P M) (hV : VA P) (hn : 60 < n) : ∀ (f i : Nat), i ≤ P 10 0 → P 10 0 < i + f → s9_leaver_5 n 80 f (gI (lvn P i)) (nI i) M = some (gI (lv P), M) := by
  have hN : M 80 11 = nI (P 10 0) := h.one 0 (by decide)
  have hF : M 80 15 = nI (P 10 4) := h.one 4 (by decide)
  have h60 := hV.n60
  have hfo := hV.s.2.2.1
  intro f
  induction f with
  | zero => intro i h1 h2; omega
  | succ f ih =>
    intro i h1 h2
    rw [s9_leaver_5, hN]
    by_cases q : i < P 10 0
    · have hin : inB (nI i) (alen (link 80 1)) := vp_in_nI (N := 60) (by omega) (by decide)
      have e : M (link 80 1) (nI i).toNatClampNeg = nI (P 0 i) := h.chc (by omega)
      have hc := hV.c1 i
      obtain ⟨l1, l2, l3⟩ := lvn_spec (P := P) i
      have en : lvn P (i + 1) = cif (P 0 i = 1 ∧ (lvn P i = 0 ∨ P 10 4 = 1 ∨ (P 10 4 = 2 ∧ wsA P i < wsA P (lvn P i - 1)))) (i + 1) (lvn P i) := rfl
      have nx := ih (i + 1) (by omega) (by omega)
      rw [ite_nge q (by omega), if_pos hin, e]
      by_cases q3 : P 0 i = 0
      · rw [if_pos (by rw [q3]; rfl), ilet_e, nI_1]
        rw [en, cif_neg (fun z => by omega)] at nx
        exact nx
      · have q3' : P 0 i = 1 := by omega
        rw [if_neg (fun z => q3 ((nI_is0 (by omega)).mp z))]
        by_cases q4 : lvn P i = 0
        · rw [if_pos ((gI_neg (by omega)).mpr q4), ilet_e, nI_1]
          rw [en, cif_pos ⟨q3', Or.inl q4⟩, gI_suc] at nx
          exact nx
        · rw [if_neg (fun z => q4 ((gI_neg (by omega)).mp z)), hF]
          by_cases q5 : P 10 4 = 1
          · rw [if_pos (by rw [q5]; rfl), ilet_e, nI_1]
            rw [en, cif_pos ⟨q3', Or.inr (Or.inl q5)⟩, gI_suc] at nx
            exact nx
          · rw [if_neg (fun z => q5 ((nI_is1 (by omega)).mp z))]
            by_cases q6 : P 10 4 = 2
            · rw [if_pos (by rw [q6]; rfl), r_ways h hV q3' hn, cb_some, gI_pos q4, r_ways h hV (l3 q4) hn, cb_some]
              have w1 := wsA_120 (M := M) hV q3'
              have w2 := wsA_120 (M := M) hV (l3 q4)
              by_cases q7 : wsA P (lvn P i - 1) ≤ wsA P i
              · rw [ite_ge q7 (by omega), ilet_e, nI_1, ← gI_pos q4]
                rw [en, cif_neg (fun z => by omega)] at nx
                exact nx
              · rw [ite_nge (by omega) (by omega), ilet_e, nI_1]
                rw [en, cif_pos ⟨q3', Or.inr (Or.inr ⟨q6, by omega⟩)⟩, gI_suc] at nx
                exact nx
            · rw [if_neg (fun z => q6 ((nI_is2 (by omega)).mp z)), ilet_e, nI_1]
              rw [en, cif_neg (fun z => by omega)] at nx
              exact nx
    · have e : i = P 10 0 := by omega
      rw [e, ite_ge (Nat.le_refl _) (by omega)]; rfl
theorem r_leaver {P : PAy} {M : Mem} {n : Nat} (h : RP P M) (hV : VA P) (hn : 60 < n) : s9_leaver n 80 M = some (gI (lv P), M) :=
  r_leaver5 h hV hn n 0 (Nat.zero_le _) (by have := hV.n60; omega)
/-- a number that is a walker's, or is none's -/
theorem ixc (x : Int32) {n : Nat} (hn : n < 2 ^ 31) : (∃ j, j < n ∧ x = nI j) ∨ (x < 0 ∨ nI n ≤ x) := by
  rcases pk_ix x hn with q | q | ⟨j, h1, h2⟩
  · exact Or.inr (Or.inl q)
  · exact Or.inr (Or.inr q)
  · exact Or.inl ⟨j, h1, h2⟩
theorem ixn {x : Int32} {n j : Nat} (hn : n < 2 ^ 31) (h : x < 0 ∨ nI n ≤ x) (hj : j < n) : x ≠ nI j := fun e => by
  subst e
  rcases h with q | q
  · exact nI_pos (by omega) q
  · exact nI_ge hj hn q
theorem r_isWalkerY {P : PAy} {M : Mem} {j : Nat} (h : RP P M) (hV : VA P) (hj : j < P 10 1) : s9_isWalker 80 (nI j) M = some (1, M) := by
  have := hV.w12
  rw [r_isWalker h, if_neg (nI_pos (by omega)), ite_nge hj (by omega)]
theorem r_isWalkerN {P : PAy} {M : Mem} {x : Int32} (h : RP P M) (hx : x < 0 ∨ nI (P 10 1) ≤ x) : s9_isWalker 80 x M = some (0, M) := by
  rw [r_isWalker h]
  by_cases q : x < 0
  · rw [if_pos q]
  · rw [if_neg q, if_pos (hx.resolve_left q)]
theorem r_isPlaceY {P : PAy} {M : Mem} {j : Nat} (h : RP P M) (hV : VA P) (hj : j < P 10 0) : s9_isPlace 80 (nI j) M = some (1, M) := by
  have := hV.n60
  rw [r_isPlace h, if_neg (nI_pos (by omega)), ite_nge hj (by omega)]
theorem r_isPlaceN {P : PAy} {M : Mem} {x : Int32} (h : RP P M) (hx : x < 0 ∨ nI (P 10 0) ≤ x) : s9_isPlace 80 x M = some (0, M) := by
  rw [r_isPlace h]
  by_cases q : x < 0
  · rw [if_pos q]
  · rw [if_neg q, if_pos (hx.resolve_left q)]
theorem r_isThereY {P : PAy} {M : Mem} {j : Nat} (h : RP P M) (hV : VA P) (hj : j < P 10 1) : s9_isThere 80 (nI j) M = some (nI (P 3 j), M) := by
  have h12 := hV.w12
  have hin : inB (nI j) (alen (link 80 4)) := vp_in_nI (N := 12) (by omega) (by decide)
  have e : M (link 80 4) (nI j).toNatClampNeg = nI (P 3 j) := h.rowc 2 (by decide) (by omega)
  have b3 := (hV.w hj).2.2.1
  unfold s9_isThere
  rw [r_isWalkerY h hV hj, cb_some, if_neg (by decide), if_pos hin, e]
  by_cases q : P 3 j = 1
  · rw [if_pos (by rw [q]; rfl), q]; rfl
  · have q0 : P 3 j = 0 := by omega
    rw [if_neg (fun z => q ((nI_is1 (by omega)).mp z)), q0]; rfl
theorem r_isThereN {P : PAy} {M : Mem} {x : Int32} (h : RP P M) (hx : x < 0 ∨ nI (P 10 1) ≤ x) : s9_isThere 80 x M = some (0, M) := by
  unfold s9_isThere
  rw [r_isWalkerN h hx, cb_some, if_pos rfl]
theorem r_isOver {P : PAy} {M : Mem} {n : Nat} (h : RP P M) (hV : VA P) (hn : 60 < n) : s9_isOver n 80 M = some (cif (ovr P) 1 0, M) := by
  have h8 : M 80 19 = nI (P 10 8) := h.one 8 (by decide)
  have b8 := hV.s.2.2.2.2
  have hi := insc_le hV (Nat.le_refl (P 10 1))
  have h12 := hV.w12
  have h11 := hV.c11
  unfold s9_isOver
  rw [h8]
  by_cases q : P 10 8 = 1
  · rw [if_pos (by rw [q]; rfl), cif_pos (show ovr P from Or.inl q)]
  · rw [if_neg (fun z => q ((nI_is1 (by omega)).mp z)), r_ins h hV hn, cb_some]
    by_cases q2 : insc P (P 10 1) < 2
    · rw [if_pos (show nI (insc P (P 10 1)) < 2 from nI_lt (b := 2) q2 (by decide)), cif_pos (show ovr P from Or.inr (Or.inl q2))]
    · rw [if_neg (show ¬ nI (insc P (P 10 1)) < 2 from nI_nlt (b := 2) (by omega) (by omega)), r_chairs h hV hn, cb_some]
      by_cases q3 : rk P 60 = 0
      · rw [if_pos (by rw [q3]; rfl), cif_pos (show ovr P from Or.inr (Or.inr q3))]
      · rw [if_neg (fun z => q3 ((nI_is0 (by omega)).mp z)), cif_neg]
        intro z
        rcases z with z | z | z
        · exact q z
        · exact q2 z
        · exact q3 z
/-! walking -/
def RF (M M' : Mem) : Prop := (∀ q, q ≠ 80 → q ≠ 99 → (q < 82 ∨ 92 ≤ q) → M' q = M q) ∧ ∀ k, (k < 11 ∨ 20 ≤ k) → M' 80 k = M 80 k
theorem RF.rf {M : Mem} : RF M M := ⟨fun _ _ _ _ => rfl, fun _ _ => rfl⟩
theorem RF.tr {M M' M'' : Mem} (h : RF M M') (h' : RF M' M'') : RF M M'' := ⟨fun q a b c => (h'.1 q a b c).trans (h.1 q a b c), fun k a => (h'.2 k a).trans (h.2 k a)⟩
theorem RF.row {M : Mem} {q k : Nat} {v : Int32} (h : 82 ≤ q) (h' : q < 92) : RF M (mset M q k v) := ⟨fun r a b c => ms_ne (by omega), fun k a => by rw [ms_ne (by omega)]⟩
theorem RF.seat {M : Mem} {k : Nat} {v : Int32} : RF M (mset M 99 k v) := ⟨fun r a b c => ms_ne b, fun k a => by rw [ms_ne (by omega)]⟩
theorem RF.sc {M : Mem} {k : Nat} {v : Int32} (h : 11 ≤ k) (h' : k < 20) : RF M (mset M 80 k v) := ⟨fun r a b c => ms_ne a, fun j a => ms_ne2 (by omega)⟩
theorem ps_two {P : PAy} {i j u v : Nat} : pset (pset P i j u) i j v = pset P i j v := by
  funext a b
  by_cases h : a = i ∧ b = j
  · rw [h.1, h.2, ps_eq, ps_eq]
  · unfold pset
    simp only [if_neg h]
theorem ps_three {P : PAy} {i k j u v x : Nat} : pset (pset (pset P i j u) k j x) i j v = pset (pset P k j x) i j v := by
  funext a b
  by_cases h : a = i ∧ b = j
  · rw [h.1, h.2, ps_eq, ps_eq]
  · unfold pset
    simp only [if_neg h]
theorem tkn_ext {P Q : PAy} {p : Nat} (h3 : ∀ v, P 3 v = Q 3 v) (h1 : ∀ v, P 1 v = Q 1 v) : ∀ n, tkn P p n = tkn Q p n := by
  intro n
  induction n with
  | zero => rfl
  | succ n ih =>
    show (if P 3 n = 1 ∧ P 1 n = p then 1 else tkn P p n) = (if Q 3 n = 1 ∧ Q 1 n = p then 1 else tkn Q p n)
    rw [ih, h3, h1]
theorem r_walks59 {Q : PAy} {M : Mem} {n i t : Nat} {k : Int32 → Mem → Option Res} {R : Int32 → Mem → Prop} (h : RP Q M) (hV : VA Q) (hn : 60 < n) (hi : i < Q 10 1) (h3 : Q 3 i ≠ 0) (ht : nI (Q 2 i) + nI t = nI (pts Q i)) (hk : ∀ M', RP (wst Q i) M' → RF M M' → Sp (k (nI (i + 1)) M') R) :
    Sp (s9_walks_59 n k 80 (nI i) (nI t) (nI (Q 2 i)) (nI i) (link 80 3) M) R := by
  have h12 := hV.w12
  have h60 := hV.n60
  have h4 := hV.n4
  obtain ⟨b1, b2, b3, b4, b5, b6, b7, b8, b9⟩ := hV.w hi
  have i3 : inB (nI i) (alen (link 80 3)) := vp_in_nI (N := 12) (by omega) (by decide)
  have i2 : inB (nI i) (alen (link 80 2)) := vp_in_nI (N := 12) (by omega) (by decide)
  have hp : pts Q i ≤ 198 := by unfold pts; split <;> omega
  have ec : (nI i).toNatClampNeg = i := nI_clamp (by omega)
  unfold s9_walks_59
  refine Sp.pos i3 (Sp.mlet (Sp.pos i3 ?_))
  rw [ht]
  simp only [ec]
  have e1 : mset M (link 80 3) i (nI (pts Q i)) (link 80 3) i = nI (pts Q i) := ms_eq
  have h1 : RP (pset Q 2 i (pts Q i)) (mset M (link 80 3) i (nI (pts Q i))) := h.srow 1 (by decide)
  have f1 : RF M (mset M (link 80 3) i (nI (pts Q i))) := RF.row (by decide) (by decide)
  rw [e1]
  by_cases q : 100 ≤ pts Q i
  · refine Sp.pos (nI_le (a := 100) q (by omega)) (Sp.pos i2 ?_)
    have eN : mset M (link 80 3) i (nI (pts Q i)) 80 11 = nI (Q 10 0) := h1.one 0 (by decide)
    have e2 : mset M (link 80 3) i (nI (pts Q i)) (link 80 2) i = nI (Q 1 i) := h1.row 0 (by decide) (by omega)
    rw [eN, e2]
    refine Sp.neg (nI_ne0 (by omega) (by omega)) (Sp.ilet ?_)
    have en : (nI (Q 1 i) + (1 : Int32)) - (nI (Q 1 i) + (1 : Int32)) / nI (Q 10 0) * nI (Q 10 0) = nI (nxtA Q i) := by
      rw [nI_1, rem_e (by omega) (by omega) (by omega)]
      unfold nxtA
      by_cases z : Q 1 i + 1 < Q 10 0
      · rw [if_pos z, Nat.mod_eq_of_lt z]
      · have : Q 1 i + 1 = Q 10 0 := by omega
        rw [if_neg z, this, Nat.mod_self]
    rw [en]
    have hnl := nxt_lt (P := Q) (w := i) h4
    have etk : tk (pset Q 2 i (pts Q i)) (nxtA Q i) = tk Q (nxtA Q i) := tkn_ext (P := pset Q 2 i (pts Q i)) (Q := Q) (fun v => ps_i (by decide)) (fun v => ps_i (by decide)) _
    refine Sp_cbe (r_isTaken h1 h12 (fun v hv => ?_) hn (by omega)) ?_
    · rw [ps_i (by decide), ps_i (by decide)]; exact hV.b13 v hv
    rw [etk]
    have htk : tk Q (nxtA Q i) ≤ 1 := tkn_le _
    by_cases z : tk Q (nxtA Q i) = 1
    · refine Sp.neg (fun y => by rw [z] at y; exact absurd y (by decide)) (Sp.pos i3 (Sp.mlet (Sp.ilet ?_)))
      rw [nI_1]
      have h2 : RP (wst Q i) (mset (mset M (link 80 3) i (nI (pts Q i))) (link 80 3) i (99 : Int32)) := by
        have := h1.srow 1 (w := i) (v := 99) (by decide)
        unfold wst
        rw [if_neg h3, if_neg (by omega), if_pos z, ← ps_two (u := pts Q i)]
        exact this
      exact hk _ h2 (f1.tr (RF.row (by decide) (by decide)))
    · have z0 : tk Q (nxtA Q i) = 0 := by omega
      refine Sp.pos (by rw [z0]; rfl) (Sp.pos i2 (Sp.mlet (Sp.pos i3 (Sp.pos i3 (Sp.mlet (Sp.ilet ?_))))))
      rw [nI_1]
      have h2 : RP (pset (pset Q 2 i (pts Q i)) 1 i (nxtA Q i)) (mset (mset M (link 80 3) i (nI (pts Q i))) (link 80 2) i (nI (nxtA Q i))) := h1.srow 0 (by decide)
      have e5 : mset (mset M (link 80 3) i (nI (pts Q i))) (link 80 2) i (nI (nxtA Q i)) (link 80 3) i - (100 : Int32) = nI (pts Q i - 100) := by
        rw [ms_ne (by decide), ms_eq]; exact sub_e (b := 100) q
      rw [e5]
      have h5 : RP (wst Q i) (mset (mset (mset M (link 80 3) i (nI (pts Q i))) (link 80 2) i (nI (nxtA Q i))) (link 80 3) i (nI (pts Q i - 100))) := by
        have := h2.srow 1 (w := i) (v := pts Q i - 100) (by decide)
        unfold wst
        rw [if_neg h3, if_neg (by omega), if_neg z, ← ps_three (u := pts Q i)]
        exact this
      exact hk _ h5 ((f1.tr (RF.row (by decide) (by decide))).tr (RF.row (by decide) (by decide)))
  · refine Sp.neg (fun y => q ((nI_leI (a := 100) (by decide) (by omega)).mp y)) (Sp.ilet ?_)
    rw [nI_1]
    have h2 : RP (wst Q i) (mset M (link 80 3) i (nI (pts Q i))) := by
      unfold wst
      rw [if_neg h3, if_pos (by omega)]
      exact h1
    exact hk _ h2 f1
theorem r_walks2 {P : PAy} {n : Nat} (hV : VA P) (hn : 60 < n) : ∀ (f i : Nat) (M : Mem), i ≤ P 10 1 → P 10 1 < i + f → RP (wkn P i) M → Sp (s9_walks_2 n 80 f (nI i) M) (fun _ M' => RP (wkA P) M' ∧ RF M M') := by
  have h12 := hV.w12
  intro f
  induction f with
  | zero => intro i M h1 h2; omega
  | succ f ih =>
    intro i M h1 h2 h
    have hVi := V_wkn hV i h1
    have k10 : ∀ k, wkn P i 10 k = P 10 k := fun k => wkn_keep i (Or.inl ⟨by decide, by decide⟩)
    have hN : M 80 12 = nI (P 10 1) := by rw [← k10]; exact h.one 1 (by decide)
    rw [s9_walks_2, hN]
    by_cases q : i < P 10 1
    · have q' : i < wkn P i 10 1 := by rw [k10]; exact q
      obtain ⟨b1, b2, b3, b4, b5, b6, b7, b8, b9⟩ := hVi.w q'
      have h60 := hVi.n60
      have i4 : inB (nI i) (alen (link 80 4)) := vp_in_nI (N := 12) (by omega) (by decide)
      have e4 : M (link 80 4) (nI i).toNatClampNeg = nI (wkn P i 3 i) := h.rowc 2 (by decide) (by omega)
      refine Sp.neg (nI_ge q (by omega)) (Sp.pos i4 ?_)
      rw [e4]
      have goon : ∀ M', RP (wst (wkn P i) i) M' → RF M M' → Sp (s9_walks_2 n 80 f (nI (i + 1)) M') (fun _ M' => RP (wkA P) M' ∧ RF M M') := fun M' a b =>
        (ih (i + 1) M' (by omega) (by omega) a).mono (fun r M'' c => ⟨c.1, b.tr c.2⟩)
      by_cases q3 : wkn P i 3 i = 0
      · refine Sp.pos (by rw [q3]; rfl) (Sp.ilet ?_)
        rw [nI_1]
        refine goon M ?_ RF.rf
        unfold wst
        rw [if_pos q3]; exact h
      · have i3 : inB (nI i) (alen (link 80 3)) := vp_in_nI (N := 12) (by omega) (by decide)
        have i2 : inB (nI i) (alen (link 80 2)) := vp_in_nI (N := 12) (by omega) (by decide)
        have i6 : inB (nI i) (alen (link 80 6)) := vp_in_nI (N := 12) (by omega) (by decide)
        have i7 : inB (nI i) (alen (link 80 7)) := vp_in_nI (N := 12) (by omega) (by decide)
        have e2 : M (link 80 2) (nI i).toNatClampNeg = nI (wkn P i 1 i) := h.rowc 0 (by decide) (by omega)
        have e3 : M (link 80 3) (nI i).toNatClampNeg = nI (wkn P i 2 i) := h.rowc 1 (by decide) (by omega)
        have e6 : M (link 80 6) (nI i).toNatClampNeg = nI (wkn P i 5 i) := h.rowc 4 (by decide) (by omega)
        have e7 : M (link 80 7) (nI i).toNatClampNeg = nI (wkn P i 6 i) := h.rowc 5 (by decide) (by omega)
        have i1 : inB (nI (wkn P i 1 i)) (alen (link 80 1)) := vp_in_nI (N := 60) (by omega) (by decide)
        have e1 : M (link 80 1) (nI (wkn P i 1 i)).toNatClampNeg = nI (wkn P i 0 (wkn P i 1 i)) := h.chc (by omega)
        have hc := hVi.c1 (wkn P i 1 i)
        refine Sp.neg (fun z => q3 ((nI_is0 (by omega)).mp z)) (Sp.pos i3 (Sp.pos i2 ?_))
        rw [e2, e3, e6, e7, e1]
        refine Sp.pos i1 ?_
        by_cases q5 : wkn P i 0 (wkn P i 1 i) = 1
        · refine Sp.pos (by rw [q5]; rfl) (Sp.pos i7 ?_)
          refine r_walks59 h hVi hn q' q3 ?_ goon
          rw [nI_add]; unfold pts; rw [if_pos q5]
        · refine Sp.neg (fun z => q5 ((nI_is1 (by omega)).mp z)) (Sp.pos i6 ?_)
          refine r_walks59 h hVi hn q' q3 ?_ goon
          rw [nI_add]; unfold pts; rw [if_neg q5]
    · have e : i = P 10 1 := by omega
      subst e
      exact Sp.pos (nI_le (Nat.le_refl _) (by omega)) (Sp.ret ⟨h, RF.rf⟩)
theorem r_walks {P : PAy} {M : Mem} {n : Nat} (h : RP P M) (hV : VA P) (hn : 60 < n) : Sp (s9_walks n 80 M) (fun _ M' => RP (wkA P) M' ∧ RF M M') :=
  r_walks2 hV hn n 0 M (Nat.zero_le _) (by have := hV.w12; omega) h
