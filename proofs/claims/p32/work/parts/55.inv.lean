/-! ===== what holds between two calls ===== -/
def IKe (M : Mem) : Prop := (M 0 7 = 0 ∧ M 80 30 = 0) ∨ (M 0 7 = 1 ∧ M 80 30 = 1 ∧ ∃ K, VA K ∧ K 10 6 ≤ 299 ∧ CP 57 K M ∧ KP 0 K M)
def IXt (M : Mem) : Prop := ∃ L T, T256 T ∧ L ≤ 64 ∧ CTx L T M ∧ RTx L T M
def IRw (M : Mem) : Prop := ∃ (m : Nat) (F : Nat → Nat), m ≤ 16 ∧ (∀ j, j < m → 1 ≤ F j ∧ F j ≤ 300) ∧ M 4 1 = nI m ∧ (∀ j, j < m → M 5 j = nI (F j)) ∧ M 80 42 = nI m ∧ ∀ j, j < m → M 101 j = nI (F j)
def IFm (M : Mem) : Prop := ∃ (m : Nat) (F : Nat → Nat), m ≤ 60 ∧ (∀ j, j < m → F j < 60) ∧ M 6 1 = nI m ∧ (∀ j, j < m → M 7 j = nI (F j)) ∧ M 80 43 = nI m ∧ ∀ j, j < m → M 102 j = nI (F j)
def IV (M : Mem) : Prop := (∃ P, CP 11 P M ∧ RP P M ∧ VA P ∧ P 10 6 ≤ 299) ∧ IKe M ∧ IXt M ∧ IRw M ∧ IFm M
/-- the program's frame -/
def FPg (M M' : Mem) : Prop := ∀ q, q ≠ 1 → q ≠ 2 → q ≠ 3 → (q < 11 ∨ 57 ≤ q) → M' q = M q
theorem FPg.rf {M : Mem} : FPg M M := fun _ _ _ _ _ => rfl
theorem FPg.tr {M M' M'' : Mem} (h : FPg M M') (h' : FPg M' M'') : FPg M M'' := fun q a b c d => (h' q a b c d).trans (h q a b c d)
theorem KMi.fp {M M' : Mem} (h : KMi M M') : FPg M M' := fun q _ b c d => h q b c (by omega)
theorem KFo.fp {M M' : Mem} (h : KFo 11 M M') : FPg M M' := fun q a b c d => h q (by omega)
theorem FPg.o1 {M M' : Mem} (h : ∀ q, q ≠ 1 → M' q = M q) : FPg M M' := fun q a _ _ _ => h q a
/-- the reference's frame -/
def FRg (M M' : Mem) : Prop := (∀ q, q ≠ 80 → q ≠ 81 → q ≠ 98 → q ≠ 99 → q ≠ 100 → (q < 82 ∨ 92 ≤ q) → M' q = M q) ∧ (∀ k, (k = 26 ∨ k = 30 ∨ k = 42 ∨ k = 43) → M' 80 k = M 80 k) ∧ ∀ j, j < 200 → M' 98 j = M 98 j
theorem FRg.rf {M : Mem} : FRg M M := ⟨fun _ _ _ _ _ _ _ => rfl, fun _ _ => rfl, fun _ _ => rfl⟩
theorem FRg.tr {M M' M'' : Mem} (h : FRg M M') (h' : FRg M' M'') : FRg M M'' := ⟨fun q a b c d e f => (h'.1 q a b c d e f).trans (h.1 q a b c d e f), fun k a => (h'.2.1 k a).trans (h.2.1 k a), fun j a => (h'.2.2 j a).trans (h.2.2 j a)⟩
theorem RGm.fr {M M' : Mem} (h : RGm M M') : FRg M M' := ⟨fun q a _ c d e f => h.1 q a c d e f, fun k a => h.2.1 k (by omega), h.2.2⟩
theorem RF.fr {M M' : Mem} (h : RF M M') : FRg M M' := h.RH.RGm.fr
theorem FRg.o81 {M M' : Mem} (h : ∀ q, q ≠ 81 → M' q = M q) : FRg M M' := ⟨fun q _ b _ _ _ _ => h q b, fun k _ => by rw [h 80 (by decide)], fun j _ => by rw [h 98 (by decide)]⟩
theorem RP.fp {P : PAy} {M M' : Mem} (h : RP P M) (f : FPg M M') : RP P M' := h.oh (fun s _ _ => by rw [f 80 (by decide) (by decide) (by decide) (by decide)]) (fun q a b => f q (by omega) (by omega) (by omega) (by omega))
theorem CP.fr {P : PAy} {M M' : Mem} (h : CP 11 P M) (f : FRg M M') (h12 : P 10 1 ≤ 12) : CP 11 P M' := h.same (fun q a b => f.1 q (by omega) (by omega) (by omega) (by omega) (by omega) (by omega)) h12
/-- what a call that leaves the image, the text, the row and the film alone keeps -/
theorem rest_keep {M M1 M2 : Mem} (h : IKe M ∧ IXt M ∧ IRw M ∧ IFm M) (f : FPg M M1) (g : FRg M1 M2) : IKe M2 ∧ IXt M2 ∧ IRw M2 ∧ IFm M2 := by
  obtain ⟨a, ⟨L, T, b1, b2, b3, b4⟩, ⟨m, F, c1, c2, c3, c4, c5, c6⟩, ⟨m', F', d1, d2, d3, d4, d5, d6⟩⟩ := h
  have p : ∀ q, q ≠ 1 → q ≠ 2 → q ≠ 3 → (q < 11 ∨ 57 ≤ q) → q ≠ 80 → q ≠ 81 → q ≠ 98 → q ≠ 99 → q ≠ 100 → (q < 82 ∨ 92 ≤ q) → M2 q = M q := fun q x1 x2 x3 x4 x5 x6 x7 x8 x9 x0 => (g.1 q x5 x6 x7 x8 x9 x0).trans (f q x1 x2 x3 x4)
  have o : ∀ k, (k = 26 ∨ k = 30 ∨ k = 42 ∨ k = 43) → M2 80 k = M 80 k := fun k hk => (g.2.1 k hk).trans (by rw [f 80 (by decide) (by decide) (by decide) (by decide)])
  have e98 : ∀ j, j < 200 → M2 98 j = M 98 j := fun j hj => (g.2.2 j hj).trans (by rw [f 98 (by decide) (by decide) (by decide) (by decide)])
  refine ⟨?_, ⟨L, T, b1, b2, ⟨?_, fun j hj => ?_⟩, ⟨?_, fun j hj => ?_⟩⟩, ⟨m, F, c1, c2, ?_, fun j hj => ?_, ?_, fun j hj => ?_⟩, ⟨m', F', d1, d2, ?_, fun j hj => ?_, ?_, fun j hj => ?_⟩⟩
  · unfold IKe
    rw [p 0 (by decide) (by decide) (by decide) (by decide) (by decide) (by decide) (by decide) (by decide) (by decide) (by decide), o 30 (by decide)]
    rcases a with a | ⟨a1, a2, K, a3, a4, a5, a6⟩
    · exact Or.inl a
    · exact Or.inr ⟨a1, a2, K, a3, a4, a5.same (fun q x y => p q (by omega) (by omega) (by omega) (by omega) (by omega) (by omega) (by omega) (by omega) (by omega) (by omega)) a3.w12, fun j hj => by rw [e98 _ (by omega)]; exact a6 j hj⟩
  · rw [p 8 (by decide) (by decide) (by decide) (by decide) (by decide) (by decide) (by decide) (by decide) (by decide) (by decide)]; exact b3.1
  · rw [p 9 (by decide) (by decide) (by decide) (by decide) (by decide) (by decide) (by decide) (by decide) (by decide) (by decide)]; exact b3.2 j hj
  · rw [o 26 (by decide)]; exact b4.1
  · rw [p 92 (by decide) (by decide) (by decide) (by decide) (by decide) (by decide) (by decide) (by decide) (by decide) (by decide)]; exact b4.2 j hj
  · rw [p 4 (by decide) (by decide) (by decide) (by decide) (by decide) (by decide) (by decide) (by decide) (by decide) (by decide)]; exact c3
  · rw [p 5 (by decide) (by decide) (by decide) (by decide) (by decide) (by decide) (by decide) (by decide) (by decide) (by decide)]; exact c4 j hj
  · rw [o 42 (by decide)]; exact c5
  · rw [p 101 (by decide) (by decide) (by decide) (by decide) (by decide) (by decide) (by decide) (by decide) (by decide) (by decide)]; exact c6 j hj
  · rw [p 6 (by decide) (by decide) (by decide) (by decide) (by decide) (by decide) (by decide) (by decide) (by decide) (by decide)]; exact d3
  · rw [p 7 (by decide) (by decide) (by decide) (by decide) (by decide) (by decide) (by decide) (by decide) (by decide) (by decide)]; exact d4 j hj
  · rw [o 43 (by decide)]; exact d5
  · rw [p 102 (by decide) (by decide) (by decide) (by decide) (by decide) (by decide) (by decide) (by decide) (by decide) (by decide)]; exact d6 j hj
/-- both sides run, whatever they answer -/
def Ah (M : Mem) (A B : Mem → Option Res) : Prop := ∃ r r' M1 M2, A M = some (r, M1) ∧ B M1 = some (r', M2) ∧ IV M2
theorem Ah_of {M : Mem} {A B : Mem → Option Res} (h : Ag M IV A B) : Ah M A B := by
  obtain ⟨r, M1, M2, h1, h2, h3⟩ := h
  exact ⟨r, r, M1, M2, h1, h2, h3⟩
def SA (M : Mem) (Q : PAy) (a : Int32) (E : Option Res) : Prop := Sp E (fun r M1 => r = a ∧ CP 11 Q M1 ∧ FPg M M1)
def SB (N : Mem) (Q : PAy) (a : Int32) (E : Option Res) : Prop := Sp E (fun r M2 => r = a ∧ RP Q M2 ∧ FRg N M2)
theorem nrm {A B : Mem → Option Res} {M : Mem} (hI : IV M) (h : ∀ P, CP 11 P M → RP P M → VA P → P 10 6 ≤ 299 → ∃ a Q, VA Q ∧ Q 10 6 ≤ 299 ∧ SA M Q a (A M) ∧ ∀ N, RP P N → SB N Q a (B N)) : Ag M IV A B := by
  obtain ⟨⟨P, h1, h2, h3, h4⟩, h5⟩ := hI
  obtain ⟨a, Q, q1, q2, qA, qB⟩ := h P h1 h2 h3 h4
  obtain ⟨r, M1, e1, e2, e3, e4⟩ := qA
  obtain ⟨r', M2, g1, g2, g3, g4⟩ := qB M1 (h2.fp e4)
  exact ⟨r, M1, M2, e1, by rw [g1, g2, e2], ⟨Q, e3.fr g4 q1.w12, g3, q1, q2⟩, rest_keep h5 e4 g4⟩
theorem nrmh {A B : Mem → Option Res} {M : Mem} (hI : IV M) (h : ∀ P, CP 11 P M → RP P M → VA P → P 10 6 ≤ 299 → Sp (A M) (fun _ M1 => CP 11 P M1 ∧ FPg M M1) ∧ ∀ N, RP P N → Sp (B N) (fun _ M2 => RP P M2 ∧ FRg N M2)) : Ah M A B := by
  obtain ⟨⟨P, h1, h2, h3, h4⟩, h5⟩ := hI
  obtain ⟨qA, qB⟩ := h P h1 h2 h3 h4
  obtain ⟨r, M1, e1, e3, e4⟩ := qA
  obtain ⟨r', M2, g1, g3, g4⟩ := qB M1 (h2.fp e4)
  exact ⟨r, r', M1, M2, e1, g1, ⟨P, e3.fr g4 h3.w12, g3, h3, h4⟩, rest_keep h5 e4 g4⟩
theorem k_refuse {x : Int32} {M : Mem} (hx : x = 1 ∨ x = 2 ∨ x = 3 ∨ x = 4 ∨ x = 6) : Sp (s8_refuse 0 x M) (fun r M' => r = -x ∧ ∀ q, q ≠ 1 → M' q = M q) := by
  unfold s8_refuse
  rcases hx with rfl | rfl | rfl | rfl | rfl <;> exact Sp.neg (by decide) (Sp.neg (by decide) (Sp.pos (by decide) (Sp.pos (by decide) (Sp.mlet (Sp.ret ⟨rfl, fun q hq => ms_ne hq⟩)))))
theorem r_no {x : Int32} {M : Mem} (hx : x = -1 ∨ x = -2 ∨ x = -3 ∨ x = -4 ∨ x = -6) : Sp (s9_no 80 x M) (fun r M' => r = x ∧ ∀ q, q ≠ 81 → M' q = M q) := by
  unfold s9_no
  rcases hx with rfl | rfl | rfl | rfl | rfl <;> exact Sp.pos (by decide) (Sp.pos (by decide) (Sp.mlet (Sp.ret ⟨rfl, fun q hq => ms_ne hq⟩)))
theorem SA_ref {P : PAy} {x : Int32} {M M1 : Mem} (c : CP 11 P M1) (h12 : P 10 1 ≤ 12) (f : FPg M M1) (hx : x = 1 ∨ x = 2 ∨ x = 3 ∨ x = 4 ∨ x = 6) : SA M P (-x) (cb (s8_refuse 0 x M1) (fun r M' => some (r, M'))) :=
  Sp.cb (k_refuse hx) (fun _ _ t => Sp.ret ⟨t.1, c.same (fun q _ _ => t.2 q (by omega)) h12, f.tr (FPg.o1 t.2)⟩)
theorem SB_no {P : PAy} {x : Int32} {N N1 : Mem} (c : RP P N1) (f : FRg N N1) (hx : x = -1 ∨ x = -2 ∨ x = -3 ∨ x = -4 ∨ x = -6) : SB N P x (cb (s9_no 80 x N1) (fun r M' => some (r, M'))) :=
  Sp.cb (r_no hx) (fun _ _ t => Sp.ret ⟨t.1, c.oh (fun s _ _ => by rw [t.2 80 (by decide)]) (fun q _ _ => t.2 q (by omega)), f.tr (FRg.o81 t.2)⟩)
theorem wy_ref {x a b : Int32} (h : wy x a b ≠ 0) : wy x a b = 1 ∨ wy x a b = 2 ∨ wy x a b = 3 ∨ wy x a b = 4 ∨ wy x a b = 6 := by
  rcases wy3 (x := x) (a := a) (b := b) with q | q | q
  · exact absurd q h
  · exact Or.inr (Or.inr (Or.inr (Or.inl q)))
  · exact Or.inr (Or.inr (Or.inr (Or.inr q)))
theorem wy_no {x a b : Int32} (h : wy x a b ≠ 0) : -wy x a b = -1 ∨ -wy x a b = -2 ∨ -wy x a b = -3 ∨ -wy x a b = -4 ∨ -wy x a b = -6 := by
  rcases wy3 (x := x) (a := a) (b := b) with q | q | q
  · exact absurd q h
  · exact Or.inr (Or.inr (Or.inr (Or.inl (by rw [q]))))
  · exact Or.inr (Or.inr (Or.inr (Or.inr (by rw [q]))))
theorem wy_neg {x a b : Int32} (h : wy x a b ≠ 0) : ¬ -wy x a b = 0 := by
  rcases wy3 (x := x) (a := a) (b := b) with q | q | q
  · exact absurd q h
  · rw [q]; decide
  · rw [q]; decide
theorem inI {x a : Int32} {b : Nat} (hb : b < 1000) (ha : 0 ≤ a) (h : wy x a (nI b) = 0) : ∃ v : Nat, v ≤ b ∧ x = nI v ∧ a ≤ nI v := by
  rcases wy_cases x a (nI b) with ⟨q, -⟩ | ⟨q, -⟩ | ⟨q, h1, h2⟩
  · rw [q] at h; exact absurd h (by decide)
  · rw [q] at h; exact absurd h (by decide)
  · have h0 : (0 : Int32) ≤ x := Int32.le_trans ha h1
    have : x < nI (b + 1) := by
      rw [Int32.lt_iff_toInt_lt, nI_toInt (by omega)]
      rw [Int32.le_iff_toInt_le, nI_toInt (by omega)] at h2
      omega
    obtain ⟨v, v1, v2⟩ := few (b + 1) (by omega) h0 this
    exact ⟨v, by omega, v2, by rw [← v2]; exact h1⟩
theorem inI1 {x : Int32} {b : Nat} (hb : b < 1000) (h : wy x 1 (nI b) = 0) : ∃ v : Nat, 1 ≤ v ∧ v ≤ b ∧ x = nI v := by
  obtain ⟨v, v1, v2, v3⟩ := inI hb (by decide) h
  exact ⟨v, (nI_leI (a := 1) (by decide) (by omega)).mp v3, v1, v2⟩
