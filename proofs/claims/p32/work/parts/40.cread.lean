/-! ===== the program's parties and the party as numbers ===== -/
def PO (o : Nat) : Prop := o = 11 ∨ o = 34 ∨ o = 57
theorem lo0 {o : Nat} (h : PO o) : link o 0 = o + 1 := by rcases h with rfl | rfl | rfl <;> rfl
theorem lo1 {o : Nat} (h : PO o) : link o 1 = o + 4 := by rcases h with rfl | rfl | rfl <;> rfl
theorem lo2 {o : Nat} (h : PO o) : link o 2 = o + 5 := by rcases h with rfl | rfl | rfl <;> rfl
theorem lo3 {o : Nat} (h : PO o) : link o 3 = o + 9 := by rcases h with rfl | rfl | rfl <;> rfl
theorem lo4 {o : Nat} (h : PO o) : link o 4 = o + 10 := by rcases h with rfl | rfl | rfl <;> rfl
theorem lr2 {o : Nat} (h : PO o) : link (o + 1) 2 = o + 2 := by rcases h with rfl | rfl | rfl <;> rfl
theorem lr3 {o : Nat} (h : PO o) : link (o + 1) 3 = o + 3 := by rcases h with rfl | rfl | rfl <;> rfl
theorem ls0 {o : Nat} (h : PO o) : link (o + 5) 0 = o + 6 := by rcases h with rfl | rfl | rfl <;> rfl
theorem ls1 {o : Nat} (h : PO o) : link (o + 5) 1 = o + 7 := by rcases h with rfl | rfl | rfl <;> rfl
theorem ls2 {o : Nat} (h : PO o) : link (o + 5) 2 = o + 8 := by rcases h with rfl | rfl | rfl <;> rfl
theorem lw9 {o w : Nat} (h : PO o) (hw : w < 12) : link (o + 9) w = o + 11 + w := by
  have key : ∀ w, w < 12 → link (11 + 9) w = 11 + 11 + w ∧ link (34 + 9) w = 34 + 11 + w ∧ link (57 + 9) w = 57 + 11 + w := by decide
  rcases h with rfl | rfl | rfl
  · exact (key w hw).1
  · exact (key w hw).2.1
  · exact (key w hw).2.2
theorem al2 {o : Nat} (h : PO o) : alen (o + 2) = 11 := by rcases h with rfl | rfl | rfl <;> rfl
theorem al3 {o : Nat} (h : PO o) : alen (o + 3) = 60 := by rcases h with rfl | rfl | rfl <;> rfl
theorem al6 {o : Nat} (h : PO o) : alen (o + 6) = 12 := by rcases h with rfl | rfl | rfl <;> rfl
theorem al7 {o : Nat} (h : PO o) : alen (o + 7) = 132 := by rcases h with rfl | rfl | rfl <;> rfl
theorem al8 {o : Nat} (h : PO o) : alen (o + 8) = 11 := by rcases h with rfl | rfl | rfl <;> rfl
theorem al9 {o : Nat} (h : PO o) : alen (o + 9) = 12 := by rcases h with rfl | rfl | rfl <;> rfl
theorem al10 {o : Nat} (h : PO o) : alen (o + 10) = 60 := by rcases h with rfl | rfl | rfl <;> rfl
theorem PO.ne {o : Nat} (h : PO o) : 11 ≤ o ∧ o ≤ 57 := by rcases h with rfl | rfl | rfl <;> omega
def CPr (o : Nat) (P : PAy) (M : Mem) : Prop := M (o + 1) 0 = nI (P 10 0) ∧ M (o + 1) 1 = nI (rk P 60) ∧ (∀ p, P 0 p = 1 → M (o + 2) (rk P p) = nI p) ∧ ∀ p, p < 60 → M (o + 3) p = nI (P 0 p)
def CPl (o : Nat) (P : PAy) (M : Mem) : Prop := M (o + 4) 0 = nI (P 10 2) ∧ M (o + 4) 1 = nI (P 10 3) ∧ M (o + 4) 2 = nI (P 10 5)
def CPw (o : Nat) (P : PAy) (M : Mem) : Prop := ∀ w, w < P 10 1 → ∀ k, k < 9 → M (o + 11 + w) k = nI (P (1 + k) w)
def CPs (o : Nat) (P : PAy) (M : Mem) : Prop := M o 5 = nI (P 10 1) ∧ M o 6 = nI (P 10 4) ∧ M o 7 = nI (P 10 6) ∧ M o 8 = nI (P 10 7) ∧ M o 9 = nI (P 10 8)
def CPt (o : Nat) (P : PAy) (M : Mem) : Prop := ∀ p, p < 60 → M (o + 10) p = nI (tk P p)
def CP (o : Nat) (P : PAy) (M : Mem) : Prop := CPr o P M ∧ CPl o P M ∧ CPw o P M ∧ CPs o P M ∧ CPt o P M
/-- nothing but the seating's rows differs -/
def KS5 (o : Nat) (M M' : Mem) : Prop := ∀ q, (q < o + 5 ∨ o + 9 ≤ q) → M' q = M q
/-- nothing but the party differs -/
def KFo (o : Nat) (M M' : Mem) : Prop := ∀ q, (q < o ∨ o + 23 ≤ q) → M' q = M q
theorem KFo.rf {o : Nat} {M : Mem} : KFo o M M := fun _ _ => rfl
theorem KFo.tr {o : Nat} {M M' M'' : Mem} (h : KFo o M M') (h' : KFo o M' M'') : KFo o M M'' := fun q a => (h' q a).trans (h q a)
theorem KFo.st {o q k : Nat} {M : Mem} {v : Int32} (h : o ≤ q) (h' : q < o + 23) : KFo o M (mset M q k v) := fun r a => ms_ne (by omega)
theorem KFo.rw {o q : Nat} {M : Mem} {f : Nat → Int32} (h : o ≤ q) (h' : q < o + 23) : KFo o M (mrow M q f) := fun r a => if_neg (by omega)
theorem KS5.rf {o : Nat} {M : Mem} : KS5 o M M := fun _ _ => rfl
theorem KS5.tr {o : Nat} {M M' M'' : Mem} (h : KS5 o M M') (h' : KS5 o M' M'') : KS5 o M M'' := fun q a => (h' q a).trans (h q a)
theorem KS5.st {o q k : Nat} {M : Mem} {v : Int32} (h : o + 5 ≤ q) (h' : q < o + 9) : KS5 o M (mset M q k v) := fun r a => ms_ne (by omega)
theorem KS5.kf {o : Nat} {M M' : Mem} (h : KS5 o M M') : KFo o M M' := fun q a => h q (by omega)
theorem KS5.cp {o : Nat} {P : PAy} {M M' : Mem} (h : KS5 o M M') (c : CP o P M) : CP o P M' := by
  obtain ⟨⟨a1, a2, a3, a4⟩, ⟨b1, b2, b3⟩, c1, ⟨d1, d2, d3, d4, d5⟩, e1⟩ := c
  refine ⟨⟨?_, ?_, fun p hp => ?_, fun p hp => ?_⟩, ⟨?_, ?_, ?_⟩, fun w hw k hk => ?_, ⟨?_, ?_, ?_, ?_, ?_⟩, fun p hp => ?_⟩
  · rw [h _ (by omega)]; exact a1
  · rw [h _ (by omega)]; exact a2
  · rw [h _ (by omega)]; exact a3 p hp
  · rw [h _ (by omega)]; exact a4 p hp
  · rw [h _ (by omega)]; exact b1
  · rw [h _ (by omega)]; exact b2
  · rw [h _ (by omega)]; exact b3
  · rw [h _ (by omega)]; exact c1 w hw k hk
  · rw [h _ (by omega)]; exact d1
  · rw [h _ (by omega)]; exact d2
  · rw [h _ (by omega)]; exact d3
  · rw [h _ (by omega)]; exact d4
  · rw [h _ (by omega)]; exact d5
  · rw [h _ (by omega)]; exact e1 p hp
/-- a party is the same, if its cells are -/
theorem CP.same {o : Nat} {P : PAy} {M M' : Mem} (c : CP o P M) (h : ∀ q, o ≤ q → q < o + 23 → M' q = M q) (hW : P 10 1 ≤ 12) : CP o P M' := by
  obtain ⟨⟨a1, a2, a3, a4⟩, ⟨b1, b2, b3⟩, c1, ⟨d1, d2, d3, d4, d5⟩, e1⟩ := c
  refine ⟨⟨?_, ?_, fun p hp => ?_, fun p hp => ?_⟩, ⟨?_, ?_, ?_⟩, fun w hw k hk => ?_, ⟨?_, ?_, ?_, ?_, ?_⟩, fun p hp => ?_⟩
  · rw [h _ (by omega) (by omega)]; exact a1
  · rw [h _ (by omega) (by omega)]; exact a2
  · rw [h _ (by omega) (by omega)]; exact a3 p hp
  · rw [h _ (by omega) (by omega)]; exact a4 p hp
  · rw [h _ (by omega) (by omega)]; exact b1
  · rw [h _ (by omega) (by omega)]; exact b2
  · rw [h _ (by omega) (by omega)]; exact b3
  · rw [h _ (by omega) (by omega)]; exact c1 w hw k hk
  · rw [h _ (by omega) (by omega)]; exact d1
  · rw [h _ (by omega) (by omega)]; exact d2
  · rw [h _ (by omega) (by omega)]; exact d3
  · rw [h _ (by omega) (by omega)]; exact d4
  · rw [h _ (by omega) (by omega)]; exact d5
  · rw [h _ (by omega) (by omega)]; exact e1 p hp
theorem CP.n {o : Nat} {P : PAy} {M : Mem} (c : CP o P M) : M (o + 1) 0 = nI (P 10 0) := c.1.1
theorem CP.cs {o : Nat} {P : PAy} {M : Mem} (c : CP o P M) : M (o + 1) 1 = nI (rk P 60) := c.1.2.1
theorem CP.wc {o : Nat} {P : PAy} {M : Mem} (c : CP o P M) : M o 5 = nI (P 10 1) := c.2.2.2.1.1
theorem CP.w {o : Nat} {P : PAy} {M : Mem} (c : CP o P M) {w : Nat} (hw : w < P 10 1) (k : Nat) (hk : k < 9) : M (o + 11 + w) k = nI (P (1 + k) w) := c.2.2.1 w hw k hk
/-! reading -/
theorem k_isPl {o : Nat} {P : PAy} {M : Mem} {x : Int32} (c : CP o P M) : s4_isPlace (o + 1) x M = some (if x < 0 then 0 else if nI (P 10 0) ≤ x then 0 else 1, M) := by
  unfold s4_isPlace
  rw [c.n]
  by_cases q : x < 0
  · rw [if_pos q, if_pos q]
  · rw [if_neg q, if_neg q]
    by_cases q2 : nI (P 10 0) ≤ x
    · rw [if_pos q2, if_pos q2]
    · rw [if_neg q2, if_neg q2]
theorem k_isPlY {o : Nat} {P : PAy} {M : Mem} {j : Nat} (c : CP o P M) (hV : VA P) (hj : j < P 10 0) : s4_isPlace (o + 1) (nI j) M = some (1, M) := by
  have := hV.n60
  rw [k_isPl c, if_neg (nI_pos (by omega)), ite_nge hj (by omega)]
theorem k_isPlN {o : Nat} {P : PAy} {M : Mem} {x : Int32} (c : CP o P M) (hx : x < 0 ∨ nI (P 10 0) ≤ x) : s4_isPlace (o + 1) x M = some (0, M) := by
  rw [k_isPl c]
  by_cases q : x < 0
  · rw [if_pos q]
  · rw [if_neg q, if_pos (hx.resolve_left q)]
theorem k_hasChair {o p : Nat} {P : PAy} {M : Mem} (h : PO o) (c : CP o P M) (hV : VA P) (hp : p < 60) : s4_hasChair (o + 1) (nI p) M = some (nI (P 0 p), M) := by
  have hi : inB (nI p) (alen (o + 3)) := by rw [al3 h]; exact vp_in_nI hp (by decide)
  have e : M (o + 3) (nI p).toNatClampNeg = nI (P 0 p) := by rw [nI_clamp (by omega)]; exact c.1.2.2.2 p hp
  have h1 := hV.c1 p
  unfold s4_hasChair
  rw [if_neg (nI_pos (by omega)), if_neg (show ¬ (60 : Int32) ≤ nI p from nI_ge (b := 60) hp (by decide)), lr3 h, if_pos hi, e]
  by_cases q : P 0 p = 0
  · rw [if_pos (show nI (P 0 p) = 0 by rw [q]; rfl), q]; rfl
  · have q1 : P 0 p = 1 := by omega
    rw [if_neg (fun z => q ((nI_is0 (by omega)).mp z)), q1]; rfl
theorem k_place {o p : Nat} {P : PAy} {M : Mem} (h : PO o) (c : CP o P M) (hV : VA P) (hp : P 0 p = 1) : s4_placeOfChair (o + 1) (nI (rk P p)) M = some (nI p, M) := by
  have h60 := hV.c60 hp
  have hr := rk_lt h60 hp
  have h11 := hV.c11
  have hi : inB (nI (rk P p)) (alen (o + 2)) := by rw [al2 h]; exact vp_in_nI (by omega) (by decide)
  have e : M (o + 2) (nI (rk P p)).toNatClampNeg = nI p := by rw [nI_clamp (by omega)]; exact c.1.2.2.1 p hp
  unfold s4_placeOfChair
  rw [if_neg (nI_pos (by omega)), c.cs, ite_nge hr (by omega), if_neg (show ¬ (11 : Int32) ≤ nI (rk P p) from nI_ge (b := 11) (by omega) (by decide)), lr2 h, if_pos hi, e]
theorem k_far {o n a b : Nat} {P : PAy} {M : Mem} (c : CP o P M) (hV : VA P) (ha : a < P 10 0) (hb : b < P 10 0) : s4_far n (o + 1) (nI a) (nI b) M = some (nI (frA (P 10 0) a b), M) := by
  have h60 := hV.n60
  have hw := wy2_lt ha hb
  unfold s4_far s4_far_14 frA
  rw [c.n]
  by_cases q : b ≤ a
  · have e : wy2 a b = a - b := by
      unfold wy2
      by_cases z : a ≤ b
      · rw [if_pos z]; omega
      · rw [if_neg z]
    rw [ite_ge q (by omega), sub_e q, far_14 (by omega) h60, e]
  · have e : wy2 a b = b - a := if_pos (by omega)
    rw [ite_nge (by omega) (by omega), sub_e (by omega), far_14 (by omega) h60, e]
theorem k_stood {o p : Nat} {P : PAy} {M : Mem} (h : PO o) (c : CP o P M) (hp : p < 60) : s2_isStoodOn o (nI p) M = some (nI (tk P p), M) := by
  have hi : inB (nI p) (alen (o + 10)) := by rw [al10 h]; exact vp_in_nI hp (by decide)
  have e : M (o + 10) (nI p).toNatClampNeg = nI (tk P p) := by rw [nI_clamp (by omega)]; exact c.2.2.2.2 p hp
  have h1 : tk P p ≤ 1 := tkn_le _
  unfold s2_isStoodOn
  rw [if_neg (nI_pos (by omega)), if_neg (show ¬ (60 : Int32) ≤ nI p from nI_ge (b := 60) hp (by decide)), lo4 h, if_pos hi, e]
  by_cases q : tk P p = 0
  · rw [if_pos (show nI (tk P p) = 0 by rw [q]; rfl), q]; rfl
  · have q1 : tk P p = 1 := by omega
    rw [if_neg (fun z => q ((nI_is0 (by omega)).mp z)), q1]; rfl
theorem k_kN {o : Nat} {P : PAy} {M : Mem} {x : Int32} (c : CP o P M) (hx : x < 0 ∨ nI (P 10 1) ≤ x) : s2_knows o x M = some (0, M) ∧ s2_knowsIn o x M = some (0, M) := by
  unfold s2_knows s2_knowsIn
  rw [c.wc]
  by_cases q : x < 0
  · rw [if_pos q, if_pos q]; exact ⟨rfl, rfl⟩
  · rw [if_neg q, if_neg q, if_pos (hx.resolve_left q), if_pos (hx.resolve_left q)]; exact ⟨rfl, rfl⟩
theorem k_kY {o j : Nat} {P : PAy} {M : Mem} (c : CP o P M) (hV : VA P) (hj : j < P 10 1) : s2_knows o (nI j) M = some (1, M) := by
  have h12 := hV.w12
  unfold s2_knows
  rw [c.wc, if_neg (nI_pos (by omega)), ite_nge hj (by omega), if_neg (show ¬ (12 : Int32) ≤ nI j from nI_ge (b := 12) (by omega) (by decide))]
theorem k_inY {o j : Nat} {P : PAy} {M : Mem} (h : PO o) (c : CP o P M) (hV : VA P) (hj : j < P 10 1) : s2_knowsIn o (nI j) M = some (nI (P 3 j), M) := by
  have h12 := hV.w12
  have hi : inB (nI j) (alen (o + 9)) := by rw [al9 h]; exact vp_in_nI (by omega) (by decide)
  have b3 := (hV.w hj).2.2.1
  have e : M (link (o + 9) (nI j).toNatClampNeg) 2 = nI (P 3 j) := by rw [nI_clamp (by omega), lw9 h (by omega)]; exact c.w hj 2 (by decide)
  unfold s2_knowsIn
  rw [c.wc, if_neg (nI_pos (by omega)), ite_nge hj (by omega), if_neg (show ¬ (12 : Int32) ≤ nI j from nI_ge (b := 12) (by omega) (by decide)), lo3 h, if_pos hi, e]
  by_cases q : P 3 j = 0
  · rw [if_pos (show nI (P 3 j) = 0 by rw [q]; rfl), q]; rfl
  · have q1 : P 3 j = 1 := by omega
    rw [if_neg (fun z => q ((nI_is0 (by omega)).mp z)), q1]; rfl
theorem k_countIn4 {o n : Nat} {P : PAy} {M : Mem} (h : PO o) (c : CP o P M) (hV : VA P) : ∀ (f i : Nat), i ≤ P 10 1 → P 10 1 < i + f → s2_countIn_4 n o f (nI (insc P i)) (nI i) M = some (nI (insc P (P 10 1)), M) := by
  have h12 := hV.w12
  intro f
  induction f with
  | zero => intro i h1 h2; omega
  | succ f ih =>
    intro i h1 h2
    rw [s2_countIn_4, c.wc]
    by_cases q : i < P 10 1
    · have b3 := (hV.w q).2.2.1
      have en : insc P (i + 1) = insc P i + P 3 i := rfl
      have nx := ih (i + 1) (by omega) (by omega)
      rw [ite_nge q (by omega), k_inY h c hV q, cb_some]
      by_cases z : P 3 i = 0
      · rw [if_pos (show nI (P 3 i) = 0 by rw [z]; rfl), ilet_e, nI_1]
        rw [en, z, Nat.add_zero] at nx
        exact nx
      · have z1 : P 3 i = 1 := by omega
        rw [if_neg (fun y => z ((nI_is0 (by omega)).mp y)), ilet_e, ilet_e, nI_1, nI_1]
        rw [en, z1] at nx
        exact nx
    · have e : i = P 10 1 := by omega
      rw [e, ite_ge (Nat.le_refl _) (by omega)]
theorem k_countIn {o n : Nat} {P : PAy} {M : Mem} (h : PO o) (c : CP o P M) (hV : VA P) (hn : 60 < n) : s2_countIn n o M = some (nI (insc P (P 10 1)), M) :=
  k_countIn4 h c hV n 0 (Nat.zero_le _) (by have := hV.w12; omega)
theorem k_canGoOn {o n : Nat} {P : PAy} {M : Mem} (h : PO o) (c : CP o P M) (hV : VA P) (hn : 60 < n) : s2_canGoOn n o M = some (cif (ovr P) 0 1, M) := by
  have b8 := hV.s.2.2.2.2
  have h8 : M o 9 = nI (P 10 8) := c.2.2.2.1.2.2.2.2
  have hi := insc_le hV (Nat.le_refl (P 10 1))
  have h12 := hV.w12
  have h11 := hV.c11
  unfold s2_canGoOn
  rw [h8]
  by_cases q : P 10 8 = 1
  · rw [if_neg (fun z => by rw [q] at z; exact absurd z (by decide)), cif_pos (show ovr P from Or.inl q)]
  · have q0 : P 10 8 = 0 := by omega
    rw [if_pos (show nI (P 10 8) = 0 by rw [q0]; rfl), k_countIn h c hV hn, cb_some]
    by_cases q2 : insc P (P 10 1) < 2
    · rw [if_pos (show nI (insc P (P 10 1)) < 2 from nI_lt (b := 2) q2 (by decide)), cif_pos (show ovr P from Or.inr (Or.inl q2))]
    · rw [if_neg (show ¬ nI (insc P (P 10 1)) < 2 from nI_nlt (b := 2) (by omega) (by omega)), lo0 h, c.cs]
      by_cases q3 : rk P 60 = 0
      · rw [if_pos (show nI (rk P 60) ≤ 0 by rw [q3]; decide), cif_pos (show ovr P from Or.inr (Or.inr q3))]
      · rw [if_neg (nI_nle (by omega) (by omega)), cif_neg]
        intro z
        rcases z with z | z | z
        · exact q z
        · exact q2 z
        · exact q3 z
theorem k_ffc5 {o n w : Nat} {P : PAy} {M : Mem} (h : PO o) (c : CP o P M) (hV : VA P) (hw : w < P 10 1) : ∀ (f i v : Nat), i ≤ rk P 60 → rk P 60 < i + f → v ≤ 60 → (∀ p, P 0 p = 1 → rk P p < i → v ≤ frA (P 10 0) (P 1 w) p) → (v = 60 ∨ ∃ p, P 0 p = 1 ∧ v = frA (P 10 0) (P 1 w) p) → s4_farFromChairs_5 n (o + 1) (nI (P 1 w)) f (nI v) (nI i) M = some (nI (nr P w), M) := by
  have h11 := hV.c11
  have h60 := hV.n60
  have b1 := (hV.w hw).1
  intro f
  induction f with
  | zero => intro i v h1 h2; omega
  | succ f ih =>
    intro i v h1 h2 hv hlo hat
    rw [s4_farFromChairs_5, c.cs]
    by_cases q : i < rk P 60
    · obtain ⟨p, p1, p2, p3⟩ := rk_surj hV.c1 q
      have hpN := hV.cN p2
      have hf := fr_lt b1 hpN h60
      rw [ite_nge q (by omega), ← p3, k_place h c hV p2, cb_some, k_far c hV b1 hpN, cb_some]
      have up : ∀ v', v' ≤ v → v' ≤ frA (P 10 0) (P 1 w) p → ∀ r, P 0 r = 1 → rk P r < rk P p + 1 → v' ≤ frA (P 10 0) (P 1 w) r := fun v' a1 a2 r r1 r2 => by
        by_cases e : rk P r = rk P p
        · rw [rk_inj r1 p2 e]; exact a2
        · have := hlo r r1 (by omega); omega
      by_cases z : v ≤ frA (P 10 0) (P 1 w) p
      · rw [ite_ge z (by omega), ilet_e, nI_1]
        exact ih (rk P p + 1) v (by omega) (by omega) hv (up v (Nat.le_refl _) z) hat
      · rw [ite_nge (by omega) (by omega), ilet_e, nI_1]
        exact ih (rk P p + 1) _ (by omega) (by omega) (by omega) (up _ (by omega) (Nat.le_refl _)) (Or.inr ⟨p, p2, rfl⟩)
    · have e : i = rk P 60 := by omega
      rw [e, ite_ge (Nat.le_refl _) (by omega), nr_uniq hV (fun p hp => hlo p hp (by rw [e]; exact rk_lt (hV.c60 hp) hp)) hv hat]
theorem k_ffc {o n w : Nat} {P : PAy} {M : Mem} (h : PO o) (c : CP o P M) (hV : VA P) (hw : w < P 10 1) (hn : 60 < n) : s4_farFromChairs n (o + 1) (nI (P 1 w)) M = some (nI (nr P w), M) :=
  k_ffc5 h c hV hw n 0 60 (Nat.zero_le _) (by have := hV.c11; omega) (Nat.le_refl _) (fun p _ hp => by omega) (Or.inl rfl)
theorem k_haste {o n w x : Nat} {P : PAy} {M : Mem} (c : CP o P M) (hV : VA P) (hw : w < P 10 1) (hx : x ≤ 60) : s7_hasteOver n (o + 11 + w) (nI x) M = some (nI (hof P w x), M) := by
  obtain ⟨b1, b2, b3, b4, b5, b6, b7, b8, b9⟩ := hV.w hw
  have e3 : M (o + 11 + w) 3 = nI (P 4 w) := c.w hw 3 (by decide)
  have e4 : M (o + 11 + w) 4 = nI (P 5 w) := c.w hw 4 (by decide)
  have e7 : M (o + 11 + w) 7 = nI (P 8 w) := c.w hw 7 (by decide)
  have e8 : M (o + 11 + w) 8 = nI (P 9 w) := c.w hw 8 (by decide)
  have hd : x * 100 / P 5 w ≤ x * 100 := Nat.div_le_self _ _
  have ed : (nI x * (100 : Int32)) / nI (P 5 w) = nI (x * 100 / P 5 w) := by
    rw [show (100 : Int32) = nI 100 from rfl, pk_mul]
    exact pk_div (by omega) (by omega) (by omega)
  unfold s7_hasteOver s7_hasteOver_20
  rw [e4, if_neg (nI_nle (by omega) (by omega)), if_neg (nI_ne0 (by omega) (by omega)), ed, e3, e7, e8]
  simp only [ilet_e]
  exact hov_e b4 (by omega) b8 b9 M (fun y M => s7_hasteOver_138 n y M) (fun y => rfl)
/-! the program's seats -/
def cI (P : PAy) (x : Nat) : Int32 := if x = 0 then -1 else nI (rk P (x - 1))
def CS (o : Nat) (P : PAy) (S : Nat → Nat) (M : Mem) : Prop := M (o + 5) 3 = nI (P 10 1) ∧ M (o + 5) 4 = nI (rk P 60) ∧ ∀ w, w < P 10 1 → M (o + 6) w = cI P (S w)
theorem rk_60 {P : PAy} (h : VA P) {p : Nat} (hp : p ≤ 60) : rk P p ≤ 11 := Nat.le_trans (rk_mono hp) h.c11
theorem cI_neg {P : PAy} {x : Nat} (hV : VA P) (h : x ≤ 60) : cI P x < 0 ↔ x = 0 := by
  have := rk_60 hV (p := x - 1) (by omega)
  unfold cI
  by_cases q : x = 0
  · rw [if_pos q]; exact ⟨fun _ => q, fun _ => by decide⟩
  · rw [if_neg q]; exact ⟨fun z => absurd z (nI_pos (by omega)), fun z => absurd z q⟩
theorem cI_nn {P : PAy} {x : Nat} (hV : VA P) (h : x ≤ 60) : 0 ≤ cI P x ↔ x ≠ 0 := by
  rw [← Int32.not_lt, cI_neg hV h]
theorem k_seatedN {o : Nat} {P : PAy} {S : Nat → Nat} {M : Mem} {x : Int32} (s : CS o P S M) (hx : x < 0 ∨ nI (P 10 1) ≤ x) : s5_isSeated (o + 5) x M = some (0, M) := by
  unfold s5_isSeated
  rw [s.1]
  by_cases q : x < 0
  · rw [if_pos q]
  · rw [if_neg q, if_pos (hx.resolve_left q)]
theorem k_seatedY {o j : Nat} {P : PAy} {S : Nat → Nat} {M : Mem} (h : PO o) (hV : VA P) (h6 : S60 S) (s : CS o P S M) (hj : j < P 10 1) : s5_isSeated (o + 5) (nI j) M = some (if S j = 0 then 0 else 1, M) := by
  have h12 := hV.w12
  have hi : inB (nI j) (alen (o + 6)) := by rw [al6 h]; exact vp_in_nI (by omega) (by decide)
  have e : M (o + 6) (nI j).toNatClampNeg = cI P (S j) := by rw [nI_clamp (by omega)]; exact s.2.2 j hj
  unfold s5_isSeated
  rw [s.1, if_neg (nI_pos (by omega)), ite_nge hj (by omega), ls0 h, if_pos hi, e]
  by_cases q : S j = 0
  · rw [if_pos ((cI_neg hV (h6 j)).mpr q), if_pos q]
  · rw [if_neg (fun z => q ((cI_neg hV (h6 j)).mp z)), if_neg q]
theorem k_whoGoes7 {o n : Nat} {P : PAy} {S : Nat → Nat} {M : Mem} (h : PO o) (c : CP o P M) (hV : VA P) (h6 : S60 S) (s : CS o P S M) (hn : 60 < n) : ∀ (f i : Nat) (x2 : Int32), i ≤ P 10 1 → P 10 1 < i + f → (x2 = if gon P S i = 0 then -1 else nI (nr P (gon P S i - 1))) → s2_whoGoes_7 n o f (gI (gon P S i)) x2 (nI i) M = some (gI (gon P S (P 10 1)), M) := by
  have h12 := hV.w12
  intro f
  induction f with
  | zero => intro i x2 h1 h2; omega
  | succ f ih =>
    intro i x2 h1 h2 hx
    rw [s2_whoGoes_7, c.wc]
    by_cases q : i < P 10 1
    · have b3 := (hV.w q).2.2.1
      have en : gon P S (i + 1) = if P 3 i = 1 ∧ S i = 0 ∧ (gon P S i = 0 ∨ nr P (gon P S i - 1) ≤ nr P i) then i + 1 else gon P S i := rfl
      have nx := fun x hx => ih (i + 1) x (by omega) (by omega) hx
      have n1 := nr_le (P := P) (w := i)
      have n2 := nr_le (P := P) (w := gon P S i - 1)
      have hi : inB (nI i) (alen (o + 9)) := by rw [al9 h]; exact vp_in_nI (by omega) (by decide)
      have e0 : M (link (o + 9) (nI i).toNatClampNeg) 0 = nI (P 1 i) := by rw [nI_clamp (by omega), lw9 h (by omega)]; exact c.w q 0 (by decide)
      rw [ite_nge q (by omega), k_inY h c hV q, cb_some]
      by_cases z : P 3 i = 0
      · rw [if_pos (show nI (P 3 i) = 0 by rw [z]; rfl), ilet_e, nI_1]
        have e1 : gon P S (i + 1) = gon P S i := by rw [en, if_neg (fun y => by omega)]
        have := nx x2 (by rw [e1]; exact hx)
        rw [e1] at this
        exact this
      · rw [if_neg (fun y => z ((nI_is0 (by omega)).mp y)), lo2 h, k_seatedY h hV h6 s q, cb_some]
        by_cases z2 : S i = 0
        · rw [if_pos (show (if S i = 0 then (0 : Int32) else 1) = 0 from if_pos z2), lo3 h, if_pos hi, e0, lo0 h, k_ffc h c hV q hn, cb_some]
          by_cases z3 : gon P S i = 0 ∨ nr P (gon P S i - 1) ≤ nr P i
          · have hlt : ¬ nI (nr P i) < x2 := by
              rw [hx]
              by_cases z4 : gon P S i = 0
              · rw [if_pos z4]
                exact Int32.not_lt.mpr (Int32.le_trans (show (-1 : Int32) ≤ 0 by decide) (nI_pos' (by omega)))
              · rw [if_neg z4]; exact nI_nlt (z3.resolve_left z4) (by omega)
            rw [if_neg hlt, ilet_e, nI_1]
            have e1 : gon P S (i + 1) = i + 1 := by rw [en, if_pos ⟨by omega, z2, z3⟩]
            have := nx (nI (nr P i)) (by rw [e1, if_neg (by omega)]; rfl)
            rw [e1, gI_suc] at this
            exact this
          · have z4 : gon P S i ≠ 0 := fun y => z3 (Or.inl y)
            have hlt : nI (nr P i) < x2 := by
              rw [hx, if_neg z4]; exact nI_lt (Nat.not_le.mp (fun y => z3 (Or.inr y))) (by omega)
            rw [if_pos hlt, ilet_e, nI_1]
            have e1 : gon P S (i + 1) = gon P S i := by rw [en, if_neg (fun y => z3 y.2.2)]
            have := nx x2 (by rw [e1]; exact hx)
            rw [e1] at this
            exact this
        · rw [if_neg (show ¬ (if S i = 0 then (0 : Int32) else 1) = 0 by rw [if_neg z2]; decide), ilet_e, nI_1]
          have e1 : gon P S (i + 1) = gon P S i := by rw [en, if_neg (fun y => z2 y.2.1)]
          have := nx x2 (by rw [e1]; exact hx)
          rw [e1] at this
          exact this
    · have e : i = P 10 1 := by omega
      rw [e, ite_ge (Nat.le_refl _) (by omega)]
theorem k_whoGoes {o n : Nat} {P : PAy} {S : Nat → Nat} {M : Mem} (h : PO o) (c : CP o P M) (hV : VA P) (h6 : S60 S) (s : CS o P S M) (hn : 60 < n) : s2_whoGoes n o M = some (gI (gon P S (P 10 1)), M) :=
  k_whoGoes7 h c hV h6 s hn n 0 _ (Nat.zero_le _) (by have := hV.w12; omega) (if_pos rfl).symm
