/-! ===== texts: what comes, in the program ===== -/
theorem wyI0 {a b f : Nat} (hf : f < 2 ^ 31) (ha : a < 2 ^ 31) (hb : b < 2 ^ 31) : wy (nI f) (nI a) (nI b) = 0 ↔ a ≤ f ∧ f ≤ b := by
  rcases wy_cases (nI f) (nI a) (nI b) with ⟨h1, h2⟩ | ⟨h1, h2, h3⟩ | ⟨h1, h2, h3⟩
  · have : ¬ a ≤ f := fun z => (nI_nlt (a := f) (b := a) z hf) h2
    exact ⟨fun z => by rw [h1] at z; exact absurd z (by decide), fun z => absurd z.1 this⟩
  · have : ¬ f ≤ b := fun z => (nI_nlt (a := b) (b := f) z hb) h3
    exact ⟨fun z => by rw [h1] at z; exact absurd z (by decide), fun z => absurd z.2 this⟩
  · exact ⟨fun _ => ⟨(nI_leI ha hf).mp h2, (nI_leI hf hb).mp h3⟩, fun _ => h1⟩
theorem wy3 {x a b : Int32} : wy x a b = 0 ∨ wy x a b = 4 ∨ wy x a b = 6 := by
  rcases wy_cases x a b with h | h | h
  · exact Or.inr (Or.inl h.1)
  · exact Or.inr (Or.inr h.1)
  · exact Or.inl h.1
theorem plc {N : Nat} (x : Int32) (hN : N ≤ 60) : (∃ p, p < N ∧ x = nI p) ∨ (x < 0 ∨ nI N ≤ x) := by
  by_cases q : x < 0
  · exact Or.inr (Or.inl q)
  · by_cases z : x < nI N
    · exact Or.inl (few N (by omega) (Ile q) z)
    · exact Or.inr (Or.inr (Ile z))
theorem k_noChairN {o : Nat} {P : PAy} {M : Mem} {x : Int32} (h : PO o) (c : CP o P M) (hx : x < 0 ∨ nI (P 10 0) ≤ x) : s2_whyNoChair o x M = some (1, M) := by
  unfold s2_whyNoChair
  rw [lo0 h, k_isPlN c hx]
  rfl
theorem k_noChair {o p : Nat} {P : PAy} {M : Mem} (h : PO o) (c : CP o P M) (hV : VA P) (hp : p < P 10 0) : s2_whyNoChair o (nI p) M = some (if P 0 p = 1 then 3 else if rk P 60 = 11 then 6 else 0, M) := by
  have h60 := hV.n60
  have h11 := hV.c11
  have hc := hV.c1 p
  unfold s2_whyNoChair
  rw [lo0 h, k_isPlY c hV hp, cb_some, if_neg (by decide), k_hasChair h c hV (by omega), cb_some]
  by_cases q : P 0 p = 1
  · rw [if_neg (fun z => by have := (nI_is0 (a := P 0 p) (by omega)).mp z; omega), if_pos q]
  · rw [if_pos (show nI (P 0 p) = 0 by rw [show P 0 p = 0 by omega]; rfl), if_neg q, c.cs]
    by_cases z : rk P 60 = 11
    · rw [if_pos z, if_neg (show ¬ nI (rk P 60) < (11 : Int32) from nI_nlt (a := rk P 60) (b := 11) (by omega) (by omega))]
    · rw [if_neg z, if_pos (show nI (rk P 60) < (11 : Int32) from nI_lt (a := rk P 60) (b := 11) (by omega) (by decide))]
theorem k_noWalkN {o : Nat} {P : PAy} {M : Mem} {x x2 x3 : Int32} (h : PO o) (c : CP o P M) (hx : x < 0 ∨ nI (P 10 0) ≤ x) : s2_whyNoWalker o x x2 x3 M = some (1, M) := by
  unfold s2_whyNoWalker
  rw [lo0 h, k_isPlN c hx]
  rfl
theorem k_noWalk {o p : Nat} {P : PAy} {M : Mem} {x2 x3 : Int32} (h : PO o) (c : CP o P M) (hV : VA P) (hp : p < P 10 0) : s2_whyNoWalker o (nI p) x2 x3 M = some (if x2 < 0 ∨ ¬ x2 < 7 then 1 else if wy x3 1 99 ≠ 0 then wy x3 1 99 else if P 10 1 = 12 then 6 else if tk P p = 1 then 3 else 0, M) := by
  have h60 := hV.n60
  have h12 := hV.w12
  unfold s2_whyNoWalker
  rw [lo0 h, k_isPlY c hV hp, cb_some, if_neg (by decide)]
  by_cases a : x2 < 0
  · rw [if_pos a, if_pos (Or.inl a)]
  rw [if_neg a]
  by_cases b : x2 < 7
  · rw [if_pos b, if_neg (fun z => z.elim a (fun y => y b)), k_within, cb_some]
    by_cases w : wy x3 1 99 = 0
    · rw [if_pos w, if_neg (show ¬ wy x3 1 99 ≠ 0 from fun z => z w), c.wc]
      by_cases z : P 10 1 = 12
      · rw [if_pos z, if_neg (show ¬ nI (P 10 1) < (12 : Int32) from nI_nlt (a := P 10 1) (b := 12) (by omega) (by omega))]
      · rw [if_neg z, if_pos (show nI (P 10 1) < (12 : Int32) from nI_lt (a := P 10 1) (b := 12) (by omega) (by decide)), k_stood h c (by omega), cb_some]
        have ht : tk P p ≤ 1 := tkn_le _
        by_cases y : tk P p = 1
        · rw [if_pos y, if_neg (fun t => by have := (nI_is0 (a := tk P p) (by omega)).mp t; omega)]
        · rw [if_neg y, if_pos (show nI (tk P p) = 0 by rw [show tk P p = 0 by omega]; rfl)]
    · rw [if_neg w, if_pos w]
  · rw [if_neg b, if_pos (Or.inr b)]
/-- the ring's size, in a bare party -/
theorem CP.sn {o v : Nat} {P : PAy} {M : Mem} (c : CP o P M) (hW : P 10 1 = 0) : CP o (pset P 10 0 v) (mset M (o + 1) 0 (nI v)) := by
  obtain ⟨⟨a1, a2, a3, a4⟩, ⟨b1, b2, b3⟩, c1, ⟨d1, d2, d3, d4, d5⟩, e1⟩ := c
  have kr : ∀ a b, a ≠ 10 → pset P 10 0 v a b = P a b := fun a b ha => ps_i ha
  have k10 : ∀ b, b ≠ 0 → pset P 10 0 v 10 b = P 10 b := fun b hb => ps_j hb
  have krk : ∀ q, rk (pset P 10 0 v) q = rk P q := fun q => rk_ext (fun p _ => kr 0 p (by decide))
  refine ⟨⟨?_, ?_, fun q hq => ?_, fun q hq => ?_⟩, ⟨?_, ?_, ?_⟩, fun u hu i hi => ?_, ⟨?_, ?_, ?_, ?_, ?_⟩, fun q hq => ?_⟩
  · rw [ms_eq, ps_eq]
  · rw [ms_ne2 (by decide), krk]; exact a2
  · rw [kr _ _ (by decide)] at hq
    rw [ms_ne (by omega), krk]; exact a3 q hq
  · rw [ms_ne (by omega), kr _ _ (by decide)]; exact a4 q hq
  · rw [ms_ne (by omega), k10 _ (by omega)]; exact b1
  · rw [ms_ne (by omega), k10 _ (by omega)]; exact b2
  · rw [ms_ne (by omega), k10 _ (by omega)]; exact b3
  · rw [k10 _ (by omega)] at hu; omega
  · rw [ms_ne (by omega), k10 _ (by omega)]; exact d1
  · rw [ms_ne (by omega), k10 _ (by omega)]; exact d2
  · rw [ms_ne (by omega), k10 _ (by omega)]; exact d3
  · rw [ms_ne (by omega), k10 _ (by omega)]; exact d4
  · rw [ms_ne (by omega), k10 _ (by omega)]; exact d5
  · have : tk (pset P 10 0 v) q = tk P q := by
      unfold tk
      rw [k10 _ (by omega)]
      exact tkn_ext (fun v => kr _ _ (by decide)) (fun v => kr _ _ (by decide)) _
    rw [ms_ne (by omega), this]; exact e1 q hq
theorem k_comes {n b : Nat} {W : Nat → Nat} {P : PAy} {M : Mem} (c : CP 34 P M) (hV : VA P) (hb : ltr b) (hn : 60 < n) (hW : ∀ j, j < nvc b → M 10 j = nI (W j)) (hv : ∀ j, W j < 10000) : Sp (s6_comesTrue n 8 (nI b) 34 M) (fun r M' => KFo 34 M M' ∧ ((r = 1 ∧ cmO P b W ∧ CP 34 (cmP P b W) M') ∨ (r = 0 ∧ ¬ cmO P b W))) := by
  have h12 := hV.w12
  have h60 := hV.n60
  have h11 := hV.c11
  have hv0 := hv 0
  have hv1 := hv 1
  have hv2 := hv 2
  have hb256 : b < 256 := by rcases hb with q | q | q | q | q <;> omega
  have bi : ∀ c, c < 256 → (nI b = nI c ↔ b = c) := fun c hc => nI_eq (by omega) (by omega)
  have i0 : inB (0 : Int32) (alen (link 8 1)) := by decide
  have i1 : inB (1 : Int32) (alen (link 8 1)) := by decide
  have i2 : inB (2 : Int32) (alen (link 8 1)) := by decide
  have e0 : 1 ≤ nvc b → M (link 8 1) (0 : Int32).toNatClampNeg = nI (W 0) := fun h => hW 0 h
  have e1 : 2 ≤ nvc b → M (link 8 1) (1 : Int32).toNatClampNeg = nI (W 1) := fun h => hW 1 h
  have e2 : 3 ≤ nvc b → M (link 8 1) (2 : Int32).toNatClampNeg = nI (W 2) := fun h => hW 2 h
  have kf : KFo 34 M M := KFo.rf
  have cm : ∀ (F : Int32 → Mem → Option Res) , F = (fun r M1 => if bz r then some (r, M1) else none) → ∀ (E : Option Res), Sp E (fun r M' => KFo 34 M M' ∧ ((r = 1 ∧ cmO P b W ∧ CP 34 (cmP P b W) M') ∨ (r = 0 ∧ ¬ cmO P b W))) → Sp (cb E F) (fun r M' => KFo 34 M M' ∧ ((r = 1 ∧ cmO P b W ∧ CP 34 (cmP P b W) M') ∨ (r = 0 ∧ ¬ cmO P b W))) := fun F hF E hE => by
    rw [hF]
    refine Sp.cb hE (fun r M1 t => ?_)
    have hz : bz r := by rcases t.2 with ⟨q, -⟩ | ⟨q, -⟩ <;> rw [q] <;> decide
    exact Sp.pos hz (Sp.ret t)
  have no : ¬ cmO P b W → Sp (some ((0 : Int32), M)) (fun r M' => KFo 34 M M' ∧ ((r = 1 ∧ cmO P b W ∧ CP 34 (cmP P b W) M') ∨ (r = 0 ∧ ¬ cmO P b W))) := fun h => Sp.ret ⟨kf, Or.inr ⟨rfl, h⟩⟩
  unfold s6_comesTrue
  by_cases q1 : b = 99
  · have eO : cmO P b W = (W 0 < P 10 0 ∧ P 0 (W 0) = 0 ∧ rk P 60 < 11) := if_pos q1
    have eP : cmP P b W = adc P (W 0) := if_pos q1
    have hc := hV.c1 (W 0)
    have e0 := e0 (by rw [q1]; decide)
    refine Sp.pos ((bi 99 (by decide)).mpr q1) (cm _ rfl _ ?_)
    unfold s6_seatMore
    refine Sp.pos i0 ?_
    rw [e0]
    by_cases z : W 0 < P 10 0
    · rw [k_noChair po34 c hV z, cb_some]
      by_cases y : P 0 (W 0) = 1
      · rw [if_pos y]
        refine Sp.neg (by decide) ?_
        unfold s6_seatMore_18
        exact Sp.pos rfl (Sp.pos (by decide) (no (by rw [eO]; exact fun t => by omega)))
      · rw [if_neg y]
        by_cases x : rk P 60 = 11
        · rw [if_pos x]
          refine Sp.neg (by decide) ?_
          unfold s6_seatMore_18
          exact Sp.pos rfl (Sp.pos (by decide) (no (by rw [eO]; exact fun t => by omega)))
        · rw [if_neg x]
          refine Sp.pos rfl ?_
          unfold s6_seatMore_18
          refine Sp.neg (by decide) (Sp.pos i0 ?_)
          rw [e0]
          refine Sp.cb (k_addChair po34 c hV (by omega) z (by omega) hn) (fun r M1 t => Sp.pos (by decide) (Sp.ret ⟨t.2.2, Or.inl ⟨rfl, ?_, ?_⟩⟩))
          · rw [eO]; exact ⟨z, by omega, by omega⟩
          · rw [eP]; exact t.2.1
    · rw [k_noChairN po34 c (Or.inr (nI_le (by omega) (by omega))), cb_some]
      refine Sp.neg (by decide) ?_
      unfold s6_seatMore_18
      exact Sp.pos rfl (Sp.pos (by decide) (no (by rw [eO]; exact fun t => z t.1)))
  refine Sp.neg (fun t => q1 ((bi 99 (by decide)).mp t)) ?_
  by_cases q2 : b = 110
  · have eO : cmO P b W = ((4 ≤ W 0 ∧ W 0 ≤ 60) ∧ P 10 1 = 0 ∧ rk P 60 = 0) := by unfold cmO; rw [if_neg q1, if_pos q2]
    have eP : cmP P b W = pset P 10 0 (W 0) := by unfold cmP; rw [if_neg q1, if_pos q2]
    have e0 := e0 (by rw [q2]; decide)
    refine Sp.pos ((bi 110 (by decide)).mpr q2) (cm _ rfl _ ?_)
    have n36 : ¬ cmO P b W → Sp (s6_resize_36 n 8 34 M) (fun r M' => KFo 34 M M' ∧ ((r = 1 ∧ cmO P b W ∧ CP 34 (cmP P b W) M') ∨ (r = 0 ∧ ¬ cmO P b W))) := fun h => by
      unfold s6_resize_36 s6_resize_37
      exact Sp.pos rfl (Sp.pos (by decide) (no h))
    unfold s6_resize
    refine Sp.pos i0 ?_
    rw [e0]
    refine Sp_cbe (k_within _ _ _ _) ?_
    by_cases z : 4 ≤ W 0 ∧ W 0 ≤ 60
    · refine Sp.pos ((wyI0 (a := 4) (b := 60) (by omega) (by decide) (by decide)).mpr z) ?_
      rw [show M (link 34 0) 1 = nI (rk P 60) from c.cs, c.wc]
      by_cases y : rk P 60 = 0
      · refine Sp.pos (by rw [y]; rfl) ?_
        by_cases x : P 10 1 = 0
        · refine Sp.pos (by rw [x]; rfl) ?_
          unfold s6_resize_37
          refine Sp.neg (by decide) (Sp.pos i0 (Sp.mlet (Sp.pos (by decide) (Sp.ret ⟨KFo.st (by decide) (by decide), Or.inl ⟨rfl, ?_, ?_⟩⟩))))
          · rw [eO]; exact ⟨z, x, y⟩
          · rw [eP, e0]; exact c.sn x
        · exact Sp.neg (fun t => x ((nI_is0 (by omega)).mp t)) (n36 (by rw [eO]; exact fun t => x t.2.1))
      · exact Sp.neg (fun t => y ((nI_is0 (by omega)).mp t)) (n36 (by rw [eO]; exact fun t => y t.2.2))
    · exact Sp.neg (fun t => z ((wyI0 (a := 4) (b := 60) (by omega) (by decide) (by decide)).mp t)) (n36 (by rw [eO]; exact fun t => z t.1))
  refine Sp.neg (fun t => q2 ((bi 110 (by decide)).mp t)) ?_
  by_cases q3 : b = 112
  · have eO : cmO P b W = (W 0 ≤ 4 ∧ 1 ≤ W 1 ∧ W 1 ≤ 99) := by unfold cmO; rw [if_neg q1, if_neg q2, if_pos q3]
    have eP : cmP P b W = pset (pset P 10 2 (W 0)) 10 3 (W 1) := by unfold cmP; rw [if_neg q1, if_neg q2, if_pos q3]
    have e0 := e0 (by rw [q3]; decide)
    have e1 := e1 (by rw [q3]; decide)
    refine Sp.pos ((bi 112 (by decide)).mpr q3) (cm _ rfl _ ?_)
    have n27 : ¬ cmO P b W → Sp (s6_newPlayer_27 n 8 34 0 M) (fun r M' => KFo 34 M M' ∧ ((r = 1 ∧ cmO P b W ∧ CP 34 (cmP P b W) M') ∨ (r = 0 ∧ ¬ cmO P b W))) := fun h => by
      unfold s6_newPlayer_27
      exact Sp.pos rfl (Sp.pos (by decide) (no h))
    unfold s6_newPlayer
    refine Sp.pos i0 (Sp.pos i1 ?_)
    rw [e0, e1]
    unfold s3_whyNot
    rw [if_neg (nI_pos (n := W 0) (by omega))]
    by_cases z : W 0 ≤ 4
    · rw [if_pos (show nI (W 0) < (5 : Int32) from nI_lt (b := 5) (by omega) (by decide)), k_within, cb_some, cb_some]
      by_cases y : 1 ≤ W 1 ∧ W 1 ≤ 99
      · refine Sp.pos ((wyI0 (a := 1) (b := 99) (by omega) (by decide) (by decide)).mpr y) ?_
        unfold s6_newPlayer_27
        refine Sp.neg (by decide) (Sp.pos i0 (Sp.mlet (Sp.pos i1 (Sp.mlet (Sp.pos (by decide) (Sp.ret ⟨(KFo.st (by decide) (by decide)).tr (KFo.st (by decide) (by decide)), Or.inl ⟨rfl, ?_, ?_⟩⟩))))))
        · rw [eO]; exact ⟨z, y.1, y.2⟩
        · have c1 : CP 34 (pset P 10 2 (W 0)) (mset M (link 34 1) 0 (nI (W 0))) := c.spl 0 2 (by omega)
          have e1' : mset M (link 34 1) 0 (nI (W 0)) (link 8 1) (1 : Int32).toNatClampNeg = nI (W 1) := by rw [ms_ne (by decide)]; exact e1
          rw [eP, e0, e1']
          exact c1.spl 1 3 (by omega)
      · exact Sp.neg (fun t => y ((wyI0 (a := 1) (b := 99) (by omega) (by decide) (by decide)).mp t)) (n27 (by rw [eO]; exact fun t => y t.2))
    · rw [if_neg (show ¬ nI (W 0) < (5 : Int32) from nI_nlt (a := W 0) (b := 5) (by omega) (by omega)), cb_some]
      exact Sp.neg (by decide) (n27 (by rw [eO]; exact fun t => z t.1))
  refine Sp.neg (fun t => q3 ((bi 112 (by decide)).mp t)) ?_
  by_cases q4 : b = 119
  · have eO : cmO P b W = (W 0 < P 10 0 ∧ W 1 ≤ 6 ∧ (1 ≤ W 2 ∧ W 2 ≤ 99) ∧ P 10 1 < 12 ∧ tk P (W 0) ≠ 1) := by unfold cmO; rw [if_neg q1, if_neg q2, if_neg q3, if_pos q4]
    have eP : cmP P b W = adw P (W 0) (W 1) (W 2) := by unfold cmP; rw [if_neg q1, if_neg q2, if_neg q3, if_pos q4]
    have e0 := e0 (by rw [q4]; decide)
    have e1 := e1 (by rw [q4]; decide)
    have e2 := e2 (by rw [q4]; decide)
    refine Sp.pos ((bi 119 (by decide)).mpr q4) (cm _ rfl _ ?_)
    have n30 : ¬ cmO P b W → Sp (s6_walkerMore_30 n 8 34 0 M) (fun r M' => KFo 34 M M' ∧ ((r = 1 ∧ cmO P b W ∧ CP 34 (cmP P b W) M') ∨ (r = 0 ∧ ¬ cmO P b W))) := fun h => by
      unfold s6_walkerMore_30
      exact Sp.pos rfl (Sp.pos (by decide) (no h))
    unfold s6_walkerMore
    refine Sp.pos i0 (Sp.pos i1 (Sp.pos i2 ?_))
    rw [e0, e1, e2]
    by_cases z : W 0 < P 10 0
    · rw [k_noWalk po34 c hV z, cb_some]
      by_cases y : W 1 ≤ 6
      · rw [if_neg (show ¬ (nI (W 1) < 0 ∨ ¬ nI (W 1) < 7) from fun t => t.elim (nI_pos (by omega)) (fun s => s (nI_lt (b := 7) (by omega) (by decide))))]
        by_cases x : 1 ≤ W 2 ∧ W 2 ≤ 99
        · rw [if_neg (show ¬ wy (nI (W 2)) 1 99 ≠ 0 from fun t => t ((wyI0 (a := 1) (b := 99) (by omega) (by decide) (by decide)).mpr x))]
          by_cases w : P 10 1 = 12
          · rw [if_pos w]
            exact Sp.neg (by decide) (n30 (by rw [eO]; exact fun t => by omega))
          · rw [if_neg w]
            by_cases v : tk P (W 0) = 1
            · rw [if_pos v]
              exact Sp.neg (by decide) (n30 (by rw [eO]; exact fun t => t.2.2.2.2 v))
            · rw [if_neg v]
              refine Sp.pos rfl ?_
              unfold s6_walkerMore_30
              refine Sp.neg (by decide) (Sp.pos i0 (Sp.pos i1 (Sp.pos i2 ?_)))
              rw [e0, e1, e2]
              refine Sp.cb (k_addWalker po34 c hV z (by omega) (by omega) hn) (fun r M1 t => Sp.pos (by decide) (Sp.ret ⟨t.2.2, Or.inl ⟨rfl, ?_, ?_⟩⟩))
              · rw [eO]; exact ⟨z, y, x, by omega, v⟩
              · rw [eP]; exact t.2.1
        · have wn : wy (nI (W 2)) 1 99 ≠ 0 := fun t => x ((wyI0 (a := 1) (b := 99) (by omega) (by decide) (by decide)).mp t)
          rw [if_pos wn]
          exact Sp.neg wn (n30 (by rw [eO]; exact fun t => x t.2.2.1))
      · rw [if_pos (show (nI (W 1) < 0 ∨ ¬ nI (W 1) < 7) from Or.inr (nI_nlt (a := W 1) (b := 7) (by omega) (by omega)))]
        exact Sp.neg (by decide) (n30 (by rw [eO]; exact fun t => y t.2.1))
    · rw [k_noWalkN po34 c (Or.inr (nI_le (by omega) (by omega))), cb_some]
      exact Sp.neg (by decide) (n30 (by rw [eO]; exact fun t => z t.1))
  refine Sp.neg (fun t => q4 ((bi 119 (by decide)).mp t)) ?_
  have eO : cmO P b W = (W 0 ≤ 2) := by unfold cmO; rw [if_neg q1, if_neg q2, if_neg q3, if_neg q4]
  have eP : cmP P b W = pset P 10 4 (W 0) := by unfold cmP; rw [if_neg q1, if_neg q2, if_neg q3, if_neg q4]
  have q5 : b = 102 := by rcases hb with q | q | q | q | q <;> first | exact q | omega
  have e0 := e0 (by rw [q5]; decide)
  refine cm _ rfl _ ?_
  unfold s6_newForm
  refine Sp.pos i0 ?_
  rw [e0]
  refine Sp_cbe (k_within _ _ _ _) ?_
  by_cases z : W 0 ≤ 2
  · refine Sp.pos ((wyI0 (a := 0) (b := 2) (by omega) (by decide) (by decide)).mpr ⟨Nat.zero_le _, z⟩) ?_
    unfold s6_newForm_19
    refine Sp.neg (by decide) (Sp.pos i0 (Sp.mlet (Sp.pos (by decide) (Sp.ret ⟨KFo.st (by decide) (by decide), Or.inl ⟨rfl, ?_, ?_⟩⟩))))
    · rw [eO]; exact z
    · rw [eP, e0]; exact c.so 6 4 (by omega)
  · refine Sp.neg (fun t => z ((wyI0 (a := 0) (b := 2) (by omega) (by decide) (by decide)).mp t).2) ?_
    unfold s6_newForm_19
    exact Sp.pos rfl (Sp.pos (by decide) (no (by rw [eO]; exact z)))
