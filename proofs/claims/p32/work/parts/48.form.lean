/-! ===== the fairest form; what the reference's calls come to ===== -/
def bcI (x0 : Int32) : Int32 :=
  let v1 : Int32 := x0 - (((x0.toUInt32 >>> ((1 : Int32).toUInt32 &&& Int32.toUInt32 31)).toInt32) &&& (1431655765 : Int32))
  let v2 : Int32 := (v1 &&& (858993459 : Int32)) + (((v1.toUInt32 >>> ((2 : Int32).toUInt32 &&& Int32.toUInt32 31)).toInt32) &&& (858993459 : Int32))
  let v3 : Int32 := (v2 + ((v2.toUInt32 >>> ((4 : Int32).toUInt32 &&& Int32.toUInt32 31)).toInt32)) &&& (252645135 : Int32)
  let v4 : Int32 := v3 + ((v3.toUInt32 >>> ((8 : Int32).toUInt32 &&& Int32.toUInt32 31)).toInt32)
  let v5 : Int32 := v4 + ((v4.toUInt32 >>> ((16 : Int32).toUInt32 &&& Int32.toUInt32 31)).toInt32)
  v5 &&& (63 : Int32)
theorem bc_e (x : Int32) (M : Mem) : sz_bitCount x M = some (bcI x, M) := rfl
def bsI (x : Int32) : Nat → Int32
  | 0 => 0
  | w + 1 => bsI x w + ((x >>> (nI w &&& 31)) &&& (1 : Int32))
theorem bc_all : ∀ i, i < 64 → ∀ j, j < 64 → bcI (nI (64 * i + j)) = bsI (nI (64 * i + j)) 12 := by decide +kernel
theorem bc_bs {a : Nat} (h : a < 4096) : bcI (nI a) = bsI (nI a) 12 := by
  have := bc_all (a / 64) (by omega) (a % 64) (by omega)
  rw [show 64 * (a / 64) + a % 64 = a by omega] at this
  exact this
def bitW (x : Int32) : Int32 := if x < 0 then 0 else (1 : Int32) <<< (x &&& 31)
noncomputable def wonI (P : PAy) (z f : Nat) : Nat → Int32
  | 0 => 0
  | k + 1 => wonI P z f k ||| bitW (wW (bys P (z + k) f (P 10 2)))
noncomputable def sumT (P : PAy) (z f : Nat) : Nat → Nat
  | 0 => 0
  | k + 1 => sumT P z f k + wT (bys P (z + k) f (P 10 2))
theorem bit_4095 : ∀ w, w < 12 → ((1 : Int32) <<< (nI w &&& 31)) &&& (4095 : Int32) = (1 : Int32) <<< (nI w &&& 31) := by decide
theorem or_4095 {x y : Int32} (hx : x &&& (4095 : Int32) = x) (hy : y &&& (4095 : Int32) = y) : (x ||| y) &&& (4095 : Int32) = x ||| y := by
  have hx' : x.toBitVec &&& (4095 : Int32).toBitVec = x.toBitVec := congrArg Int32.toBitVec hx
  have hy' : y.toBitVec &&& (4095 : Int32).toBitVec = y.toBitVec := congrArg Int32.toBitVec hy
  apply Int32.toBitVec_inj.mp
  show (x.toBitVec ||| y.toBitVec) &&& (4095 : Int32).toBitVec = x.toBitVec ||| y.toBitVec
  apply BitVec.eq_of_getLsbD_eq
  intro i hi
  have a1 : (x.toBitVec &&& (4095 : Int32).toBitVec).getLsbD i = x.toBitVec.getLsbD i := by rw [hx']
  have a2 : (y.toBitVec &&& (4095 : Int32).toBitVec).getLsbD i = y.toBitVec.getLsbD i := by rw [hy']
  rw [BitVec.getLsbD_and] at a1 a2
  rw [BitVec.getLsbD_and, BitVec.getLsbD_or]
  cases hb : (4095 : Int32).toBitVec.getLsbD i
  · rw [hb, Bool.and_false] at a1 a2
    rw [← a1, ← a2]; rfl
  · rw [Bool.and_true]
theorem winA_le {P : PAy} (hV : VA P) : winA P ≤ 12 := by
  have := lnn_le (P := P) (P 10 1)
  have := hV.w12
  unfold winA
  split <;> omega
theorem bitW_4095 {P : PAy} (hV : VA P) : bitW (gI (winA P)) &&& (4095 : Int32) = bitW (gI (winA P)) := by
  have h := winA_le hV
  unfold bitW
  by_cases q : winA P = 0
  · rw [if_pos ((gI_neg (by omega)).mpr q)]; rfl
  · rw [if_neg (fun z => q ((gI_neg (by omega)).mp z)), gI_pos q]
    exact bit_4095 _ (by omega)
theorem fin_ok {P : PAy} (hV : VA P) (ht : P 10 6 ≤ 299) : VA (gN P (pK P)) := by
  have key : ∀ d, ∀ k, mes P + 1 ≤ k + d → (∀ j, j < k → ¬ ovr (gN P j)) → ∃ K, ovr (gN P K) ∧ ∀ j, j < K → ¬ ovr (gN P j) := by
    intro d
    induction d with
    | zero =>
      intro k h1 h2
      by_cases q : ovr (gN P k)
      · exact ⟨k, q, h2⟩
      · have := (gN_inv hV ht k h2).2.2.2.1 q
        omega
    | succ d ih =>
      intro k h1 h2
      by_cases q : ovr (gN P k)
      · exact ⟨k, q, h2⟩
      · exact ih (k + 1) (by omega) (fun j hj => by
          by_cases e : j = k
          · subst e; exact q
          · exact h2 j (by omega))
  obtain ⟨K, k1, k2⟩ := key (mes P + 1) 0 (by omega) (fun j hj => by omega)
  rw [pK_eq k1 k2]
  exact (gN_inv hV ht K k2).1
theorem wonI_bits {P : PAy} {z f : Nat} (hV : VA P) (ht : P 10 6 ≤ 299) (hf : f ≤ 2) : ∀ k, wonI P z f k &&& (4095 : Int32) = wonI P z f k := by
  intro k
  induction k with
  | zero => show (0 : Int32) &&& 4095 = 0; decide
  | succ k ih =>
    have hb := V_bys (z := z + k) (f := f) (p := P 10 2) hV hf hV.s.1
    exact or_4095 ih (bitW_4095 (fin_ok hb (by rw [bys_6]; exact ht)))
theorem bc_won {P : PAy} {z f m : Nat} (hV : VA P) (ht : P 10 6 ≤ 299) (hf : f ≤ 2) : bcI (wonI P z f m) = bsI (wonI P z f m) 12 := by
  obtain ⟨j, h1, h2⟩ := pk_andE (wonI P z f m) (m := 4095) 12 (by decide)
  rw [wonI_bits hV ht hf] at h2
  rw [h2]; exact bc_bs h1
/-- best, most winners, fewest tenths -/
noncomputable def fTz (P : PAy) (z m : Nat) : Nat → Int32 × Int32 × Int32
  | 0 => (0, -1, 0)
  | f + 1 => cif ((fTz P z m f).2.1 < bcI (wonI P z f m) ∨ (bcI (wonI P z f m) = (fTz P z m f).2.1 ∧ nI (sumT P z f m) < (fTz P z m f).2.2)) (nI f, bcI (wonI P z f m), nI (sumT P z f m)) (fTz P z m f)
theorem ps_col {P : PAy} {i j k u v : Nat} (h : j ≠ k) : pset (pset P i j u) i k v = pset (pset P i k v) i j u := by
  funext a b
  show (if a = i ∧ b = k then v else if a = i ∧ b = j then u else P a b) = (if a = i ∧ b = j then u else if a = i ∧ b = k then v else P a b)
  by_cases h1 : a = i ∧ b = j
  · rw [if_neg (fun z => h (h1.2.symm.trans z.2)), if_pos h1, if_pos h1]
  · by_cases h2 : a = i ∧ b = k
    · rw [if_pos h2, if_neg h1, if_pos h2]
    · rw [if_neg h2, if_neg h1, if_neg h1, if_neg h2]
theorem bys_f {P : PAy} {z f : Nat} : bys P z f (P 10 2) = pset (pset P 10 4 f) 10 5 z := by
  unfold bys
  rw [ps_same (P := pset (pset P 10 5 z) 10 4 f) (i := 10) (j := 2) (by rw [ps_j (by decide), ps_j (by decide)]), ps_col (by decide)]
theorem k_form26 {n m z g : Nat} {P : PAy} {x3 x4 x5 : Int32} {K : Int32 → Int32 → Int32 → Int32 → Mem → Option Res} {R : Int32 → Mem → Prop} (hV : VA P) (ht : P 10 6 ≤ 299) (ho : ¬ ovr P) (hn : 4000 < n) (hm : m ≤ 20) (hg : g ≤ 2) (hx : (x3, x4, x5) = fTz P z m g) : ∀ (f k : Nat) (M : Mem), k ≤ m → m < k + f → CP 11 P M → (∀ M', CP 11 P M' → KMi M M' → Sp (K (fTz P z m (g + 1)).1 (fTz P z m (g + 1)).2.1 (fTz P z m (g + 1)).2.2 (nI (g + 1)) M') R) → Sp (s0_formOfMostWinners_26 n K 2 (nI m) (nI z) x3 x4 x5 (nI g) f (wonI P z g k) (nI (sumT P z g k)) (nI k) M) R := by
  have h12 := hV.w12
  intro f
  induction f with
  | zero => intro k M h1 h2; omega
  | succ f ih =>
    intro k M h1 h2 c hk
    rw [s0_formOfMostWinners_26]
    by_cases q : k < m
    · refine Sp.neg (nI_ge q (by omega)) (Sp.cb (k_think c hV (by omega)) (fun r M1 t => Sp.mlet (Sp.mlet ?_)))
      obtain ⟨t1, t2, t3⟩ := t
      rw [nI_add]
      have c1 : CP 34 (pset P 10 4 g) (mset M1 34 6 (nI g)) := CP.so (o := 34) 6 4 t1 (by omega)
      have c2 : CP 34 (pset (pset P 10 4 g) 10 5 (z + k)) (mset (mset M1 34 6 (nI g)) 38 2 (nI (z + k))) := CP.spl (o := 34) 2 5 c1 (by omega)
      have hb := V_bys (z := z + k) (f := g) (p := P 10 2) hV hg hV.s.1
      have eb := bys_f (P := P) (z := z + k) (f := g)
      rw [← eb] at c2
      have f1 : KMi M (mset (mset M1 34 6 (nI g)) 38 2 (nI (z + k))) := (t3.mi.tr (fun q' _ _ h => ms_ne (by omega))).tr (fun q' _ _ h => ms_ne (by omega))
      refine Sp.cb (k_playOut c2 hb (by rw [bys_6]; exact ht) (by rw [bys_ovr]; exact ho) hn) (fun r M2 u => ?_)
      obtain ⟨u1, u2, u3, u4, u5⟩ := u
      have fM := f1.tr u5
      have cM := fM.cp (Or.inl rfl) c h12
      have ew : s0_bitOf (gI (winA (gN (bys P (z + k) g (P 10 2)) (pK (bys P (z + k) g (P 10 2)))))) M2 = some (bitW (wW (bys P (z + k) g (P 10 2))), M2) := by
        unfold s0_bitOf bitW wW
        split <;> rfl
      refine Sp_cbe (k_winner u3 u4 (by omega)) (Sp_cbe ew (Sp.ilet (Sp.ilet (Sp.ilet ?_))))
      rw [u1, nI_add, nI_1]
      exact ih (k + 1) M2 (by omega) (by omega) cM (fun M' a b => hk M' a (fM.tr b))
    · have e : k = m := by omega
      subst e
      have fin := hk M c KMi.rf
      have en : fTz P z k (g + 1) = cif ((fTz P z k g).2.1 < bcI (wonI P z g k) ∨ (bcI (wonI P z g k) = (fTz P z k g).2.1 ∧ nI (sumT P z g k) < (fTz P z k g).2.2)) (nI g, bcI (wonI P z g k), nI (sumT P z g k)) (fTz P z k g) := rfl
      rw [← hx] at en
      refine Sp.pos (nI_le (Nat.le_refl _) (by omega)) (Sp_cbe (bc_e _ _) ?_)
      by_cases y1 : x4 < bcI (wonI P z g k)
      · rw [en, cif_pos (Or.inl y1)] at fin
        refine Sp.pos y1 ?_
        unfold s0_formOfMostWinners_128
        refine Sp.ilet ?_
        rw [nI_1]
        exact fin
      · refine Sp.neg y1 ?_
        by_cases y2 : bcI (wonI P z g k) = x4
        · by_cases y3 : x5 ≤ nI (sumT P z g k)
          · rw [en, cif_neg (fun w => w.elim y1 (fun v => Int32.not_lt.mpr y3 v.2))] at fin
            refine Sp.pos y2 (Sp.pos y3 (Sp.ilet ?_))
            rw [nI_1]
            exact fin
          · rw [en, cif_pos (Or.inr ⟨y2, Int32.not_le.mp y3⟩)] at fin
            refine Sp.pos y2 (Sp.neg y3 ?_)
            unfold s0_formOfMostWinners_128
            refine Sp.ilet ?_
            rw [nI_1]
            exact fin
        · rw [en, cif_neg (fun w => w.elim y1 (fun v => y2 v.1))] at fin
          refine Sp.neg y2 (Sp.ilet ?_)
          rw [nI_1]
          exact fin
theorem k_form11 {n m z : Nat} {P : PAy} (hV : VA P) (ht : P 10 6 ≤ 299) (ho : ¬ ovr P) (hn : 4000 < n) (hm : m ≤ 20) : ∀ (f g : Nat) (M : Mem), g ≤ 3 → 3 < g + f → CP 11 P M → Sp (s0_formOfMostWinners_11 n 2 (nI m) (nI z) f (fTz P z m g).1 (fTz P z m g).2.1 (fTz P z m g).2.2 (nI g) M) (fun r M' => r = (fTz P z m 3).1 ∧ KMi M M') := by
  intro f
  induction f with
  | zero => intro g M h1 h2; omega
  | succ f ih =>
    intro g M h1 h2 c
    rw [s0_formOfMostWinners_11]
    by_cases q : g < 3
    · refine Sp.neg (nI_ge (b := 3) q (by decide)) ?_
      exact k_form26 hV ht ho hn hm (by omega) rfl n 0 M (Nat.zero_le _) (by omega) c (fun M' a b => (ih (g + 1) M' (by omega) (by omega) a).mono (fun r M2 t => ⟨t.1, b.tr t.2⟩))
    · have e : g = 3 := by omega
      subst e
      exact Sp.pos (by decide) (Sp.ret ⟨rfl, KMi.rf⟩)
/-! the reference -/
theorem r_fair122 {n m z g : Nat} {P : PAy} {M : Mem} {x4 x5 x6 : Int32} {K : Int32 → Int32 → Int32 → Int32 → Mem → Option Res} {R : Int32 → Mem → Prop} (hV : VA P) (ht : P 10 6 ≤ 299) (hg : g ≤ 2) (hx : (x4, x5, x6) = fTz P z m g) (hk : Sp (K (fTz P z m (g + 1)).1 (fTz P z m (g + 1)).2.1 (fTz P z m (g + 1)).2.2 (nI (g + 1)) M) R) : ∀ (f i : Nat), i ≤ 12 → 12 < i + f → Sp (s9_fairest_122 n K 80 (nI m) (nI z) x4 x5 x6 (nI g) (wonI P z g m) (nI (sumT P z g m)) f (bsI (wonI P z g m) i) (nI i) M) R := by
  intro f
  induction f with
  | zero => intro i h1 h2; omega
  | succ f ih =>
    intro i h1 h2
    rw [s9_fairest_122]
    by_cases q : i < 12
    · refine Sp.neg (nI_ge (b := 12) q (by decide)) (Sp.ilet (Sp.ilet ?_))
      rw [nI_1]
      exact ih (i + 1) (by omega) (by omega)
    · have e : i = 12 := by omega
      subst e
      have en : fTz P z m (g + 1) = cif ((fTz P z m g).2.1 < bcI (wonI P z g m) ∨ (bcI (wonI P z g m) = (fTz P z m g).2.1 ∧ nI (sumT P z g m) < (fTz P z m g).2.2)) (nI g, bcI (wonI P z g m), nI (sumT P z g m)) (fTz P z m g) := rfl
      rw [← hx] at en
      rw [← bc_won hV ht hg]
      refine Sp.pos (by decide) ?_
      by_cases y1 : bcI (wonI P z g m) < x5
      · rw [en, cif_neg (fun w => w.elim (fun v => Int32.lt_irrefl (Int32.lt_trans v y1)) (fun v => Int32.lt_irrefl (by rw [v.1] at y1; exact y1)))] at hk
        refine Sp.pos y1 (Sp.ilet ?_)
        rw [nI_1]
        exact hk
      · refine Sp.neg y1 ?_
        by_cases y2 : bcI (wonI P z g m) = x5
        · by_cases y3 : nI (sumT P z g m) < x6
          · rw [en, cif_pos (Or.inr ⟨y2, y3⟩)] at hk
            refine Sp.pos y2 (Sp.pos y3 ?_)
            unfold s9_fairest_171
            refine Sp.ilet ?_
            rw [nI_1]
            exact hk
          · rw [en, cif_neg (fun w => w.elim (fun v => Int32.lt_irrefl (by rw [y2] at v; exact v)) (fun v => y3 v.2))] at hk
            refine Sp.pos y2 (Sp.neg y3 (Sp.ilet ?_))
            rw [nI_1]
            exact hk
        · have y4 : x5 < bcI (wonI P z g m) := Int32.lt_of_le_of_ne (Int32.not_lt.mp y1) (Ne.symm y2)
          rw [en, cif_pos (Or.inl y4)] at hk
          refine Sp.neg y2 ?_
          unfold s9_fairest_171
          refine Sp.ilet ?_
          rw [nI_1]
          exact hk
theorem r_fair59 {n m z g : Nat} {P : PAy} {x4 x5 x6 : Int32} {K : Int32 → Int32 → Int32 → Int32 → Mem → Option Res} {R : Int32 → Mem → Prop} (hV : VA P) (ht : P 10 6 ≤ 299) (hn : 4000 < n) (hm : m ≤ 20) (hg : g ≤ 2) (hx : (x4, x5, x6) = fTz P z m g) : ∀ (f k : Nat) (M : Mem), k ≤ m → m < k + f → RP P M → (∀ M', RP P M' → RGm M M' → Sp (K (fTz P z m (g + 1)).1 (fTz P z m (g + 1)).2.1 (fTz P z m (g + 1)).2.2 (nI (g + 1)) M') R) → Sp (s9_fairest_59 n K 80 (nI m) (nI z) x4 x5 x6 (nI g) f (wonI P z g k) (nI (sumT P z g k)) (nI k) M) R := by
  intro f
  induction f with
  | zero => intro k M h1 h2; omega
  | succ f ih =>
    intro k M h1 h2 h hk
    rw [s9_fairest_59]
    by_cases q : k < m
    · have e13 : M 80 13 = nI (P 10 2) := h.one 2 (by decide)
      refine Sp.neg (nI_ge q (by omega)) ?_
      rw [e13, nI_add]
      refine Sp.cb (r_partyBy h hV ht hg hV.s.1 hn) (fun r M1 t => ?_)
      obtain ⟨t1, t2, t3, t4, t5⟩ := t
      have e39 : M1 80 39 = wW (bys P (z + k) g (P 10 2)) := t5
      have go : ∀ v, v = bitW (wW (bys P (z + k) g (P 10 2))) → Sp (s9_fairest_98 n K (s9_fairest_59 n K 80 (nI m) (nI z) x4 x5 x6 (nI g) f) 80 (nI m) (nI z) x4 x5 x6 (nI g) (nI (sumT P z g k)) (nI k) v (wonI P z g k) M1) R := fun v hv => by
        unfold s9_fairest_98
        refine Sp.ilet (Sp.ilet (Sp.ilet ?_))
        rw [t3, nI_add, nI_1, hv]
        exact ih (k + 1) M1 (by omega) (by omega) t1 (fun M' a b => hk M' a (t2.tr b))
      rw [e39]
      by_cases y : 0 ≤ wW (bys P (z + k) g (P 10 2))
      · refine Sp.pos y (go _ ?_)
        unfold bitW
        rw [if_neg (Int32.not_lt.mpr y)]
      · refine Sp.neg y (go _ ?_)
        unfold bitW
        rw [if_pos (Int32.not_le.mp y)]
    · have e : k = m := by omega
      subst e
      exact Sp.pos (nI_le (Nat.le_refl _) (by omega)) (r_fair122 hV ht hg hx (hk M h ((RH.rf (M := M)).RGm)) n 0 (Nat.zero_le _) (by omega))
theorem r_fair44 {n m z : Nat} {P : PAy} (hV : VA P) (ht : P 10 6 ≤ 299) (hn : 4000 < n) (hm : m ≤ 20) : ∀ (f g : Nat) (M : Mem), g ≤ 3 → 3 < g + f → RP P M → Sp (s9_fairest_44 n 80 (nI m) (nI z) f (fTz P z m g).1 (fTz P z m g).2.1 (fTz P z m g).2.2 (nI g) M) (fun r M' => r = (fTz P z m 3).1 ∧ RP P M' ∧ RGm M M') := by
  intro f
  induction f with
  | zero => intro g M h1 h2; omega
  | succ f ih =>
    intro g M h1 h2 h
    rw [s9_fairest_44]
    by_cases q : g < 3
    · refine Sp.neg (nI_ge (b := 3) q (by decide)) ?_
      exact r_fair59 hV ht hn hm (by omega) rfl n 0 M (Nat.zero_le _) (by omega) h (fun M' a b => (ih (g + 1) M' (by omega) (by omega) a).mono (fun r M2 t => ⟨t.1, t.2.1, b.tr t.2.2⟩))
    · have e : g = 3 := by omega
      subst e
      exact Sp.pos (by decide) (Sp.ret ⟨rfl, h, (RH.rf (M := M)).RGm⟩)
theorem r_wins57 {n m w z : Nat} {P : PAy} (hV : VA P) (ht : P 10 6 ≤ 299) (hn : 4000 < n) (hm : m ≤ 20) : ∀ (f k : Nat) (M : Mem), k ≤ m → m < k + f → RP P M → Sp (s9_wins_57 n 80 (nI w) (nI m) (nI z) f (nI (wnC P w z k)) (nI k) M) (fun r M' => r = nI (wnC P w z m) ∧ RP P M' ∧ RGm M M') := by
  intro f
  induction f with
  | zero => intro k M h1 h2; omega
  | succ f ih =>
    intro k M h1 h2 h
    rw [s9_wins_57]
    by_cases q : k < m
    · have e13 : M 80 13 = nI (P 10 2) := h.one 2 (by decide)
      have e15 : M 80 15 = nI (P 10 4) := h.one 4 (by decide)
      refine Sp.neg (nI_ge q (by omega)) ?_
      rw [e13, e15, nI_add]
      refine Sp.cb (r_partyBy h hV ht hV.s.2.2.1 hV.s.1 hn) (fun r M1 t => ?_)
      obtain ⟨t1, t2, t3, t4, t5⟩ := t
      rw [bys_z] at t5
      have e39 : M1 80 39 = wW (pset P 10 5 (z + k)) := t5
      have en : wnC P w z (k + 1) = wnC P w z k + cif (wW (pset P 10 5 (z + k)) = nI w) 1 0 := rfl
      have nx := (ih (k + 1) M1 (by omega) (by omega) t1).mono (fun r M2 a => (⟨a.1, a.2.1, t2.tr a.2.2⟩ : r = nI (wnC P w z m) ∧ RP P M2 ∧ RGm M M2))
      rw [e39]
      by_cases y : wW (pset P 10 5 (z + k)) = nI w
      · refine Sp.pos y (Sp.ilet (Sp.ilet ?_))
        rw [nI_1, nI_1]
        rw [en, cif_pos y] at nx
        exact nx
      · refine Sp.neg y (Sp.ilet (Sp.ilet ?_))
        rw [nI_1, show nI (wnC P w z k) + 0 = nI (wnC P w z k) from nI_add _ 0]
        rw [en, cif_neg y, Nat.add_zero] at nx
        exact nx
    · have e : k = m := by omega
      subst e
      exact Sp.pos (nI_le (Nat.le_refl _) (by omega)) (Sp.ret ⟨rfl, h, (RH.rf (M := M)).RGm⟩)
theorem r_short20 {n : Nat} {P : PAy} (hV : VA P) (ht : P 10 6 ≤ 299) (hn : 4000 < n) : ∀ (f k : Nat) (x2 : Int32) (M : Mem), k ≤ 5 → 5 < k + f → RP P M → (x2 = if k = 0 then -1 else nI (shBp P k).2) → Sp (s9_shortest_20 n 80 f (nI (shBp P k).1) x2 (nI k) M) (fun r M' => r = nI (shBp P 5).1 ∧ RP P M' ∧ RGm M M') := by
  intro f
  induction f with
  | zero => intro k x2 M h1 h2; omega
  | succ f ih =>
    intro k x2 M h1 h2 h hx
    rw [s9_shortest_20]
    by_cases q : k < 5
    · have e16 : M 80 16 = nI (P 10 5) := h.one 5 (by decide)
      have e15 : M 80 15 = nI (P 10 4) := h.one 4 (by decide)
      refine Sp.neg (nI_ge (b := 5) q (by decide)) ?_
      rw [e16, e15]
      refine Sp.cb (r_partyBy h hV ht hV.s.2.2.1 (by omega) hn) (fun r M1 t => ?_)
      obtain ⟨t1, t2, t3, t4, t5⟩ := t
      rw [bys_k] at t3
      have hVb : VA (pset P 10 2 k) := by rw [← bys_k]; exact V_bys hV hV.s.2.2.1 (by omega)
      have hT := pK_le hVb (by rw [ps_j (by decide)]; exact ht)
      have hS := shBp_le hV ht k (by omega)
      have en : shBp P (k + 1) = if k ≠ 0 ∧ (shBp P k).2 ≤ wT (pset P 10 2 k) then shBp P k else (k, wT (pset P 10 2 k)) := rfl
      have take : ¬ (k ≠ 0 ∧ (shBp P k).2 ≤ wT (pset P 10 2 k)) → Sp (s9_shortest_53 n (s9_shortest_20 n 80 f) 80 (nI k) M1) (fun r M' => r = nI (shBp P 5).1 ∧ RP P M' ∧ RGm M M') := fun y => by
        unfold s9_shortest_53
        refine Sp.ilet (Sp.ilet ?_)
        rw [t3, nI_1]
        have nx := ih (k + 1) (nI (pK (pset P 10 2 k))) M1 (by omega) (by omega) t1 (by rw [en, if_neg y, if_neg (by omega)]; rfl)
        rw [en, if_neg y] at nx
        exact nx.mono (fun r M2 a => ⟨a.1, a.2.1, t2.tr a.2.2⟩)
      by_cases k0 : k = 0
      · refine Sp.pos (by rw [hx, if_pos k0]; decide) (take (fun y => y.1 k0))
      · rw [hx, if_neg k0, t3]
        refine Sp.neg (nI_pos (by omega)) ?_
        by_cases y : (shBp P k).2 ≤ wT (pset P 10 2 k)
        · refine Sp.neg (nI_nlt y (by omega)) (Sp.ilet ?_)
          rw [nI_1]
          have e1 : shBp P (k + 1) = shBp P k := by rw [en, if_pos ⟨k0, y⟩]
          have nx := ih (k + 1) (nI (shBp P k).2) M1 (by omega) (by omega) t1 (by rw [e1, if_neg (by omega)])
          rw [e1] at nx
          exact nx.mono (fun r M2 a => ⟨a.1, a.2.1, t2.tr a.2.2⟩)
        · exact Sp.pos (nI_lt (Nat.not_le.mp y) (by omega)) (take (fun w => y w.2))
    · have e : k = 5 := by omega
      subst e
      exact Sp.pos (by decide) (Sp.ret ⟨rfl, h, (RH.rf (M := M)).RGm⟩)
theorem gl_0 {P : PAy} {m : Nat} : ∀ i, insc P i = 0 → (∀ w, w < i → P 3 w ≤ 1) → gmx P m i = 0 ∧ lmn P m i = m := by
  intro i
  induction i with
  | zero => intro _ _; exact ⟨rfl, rfl⟩
  | succ i ih =>
    intro h hb
    have h' : insc P i + P 3 i = 0 := h
    have := ih (by omega) (fun w hw => hb w (by omega))
    have g1 : gmx P m (i + 1) = if P 3 i = 1 then (if gmx P m i < cnA P i m then cnA P i m else gmx P m i) else gmx P m i := rfl
    have g2 : lmn P m (i + 1) = if P 3 i = 1 then (if cnA P i m < lmn P m i then cnA P i m else lmn P m i) else lmn P m i := rfl
    rw [g1, g2, if_neg (by omega), if_neg (by omega)]
    exact this
theorem r_fair34 {n m : Nat} {P : PAy} {M : Mem} (h : RP P M) (hV : VA P) (hm : m ≤ 200) (hO : ∀ w, w < P 10 1 → M 100 w = nI (cnA P w m)) : ∀ (f i : Nat) (x3 x4 : Int32), i ≤ P 10 1 → P 10 1 < i + f → (x3 = if insc P i = 0 then -1 else nI (gmx P m i)) → (x4 = if insc P i = 0 then 0 else nI (lmn P m i)) → s9_fair_34 n 80 f x3 x4 (nI i) M = some (nI (frI P m), M) := by
  have h12 := hV.w12
  have hN : M 80 12 = nI (P 10 1) := h.one 1 (by decide)
  intro f
  induction f with
  | zero => intro i x3 x4 h1 h2; omega
  | succ f ih =>
    intro i x3 x4 h1 h2 hx3 hx4
    obtain ⟨l1, l2, l3⟩ := gl_le (P := P) (m := m) i
    rw [s9_fair_34, hN]
    by_cases q : i < P 10 1
    · have i4 : inB (nI i) (alen (link 80 4)) := vp_in_nI (N := 12) (by omega) (by decide)
      have i34 : inB (nI i) (alen (link 80 34)) := vp_in_nI (N := 12) (by omega) (by decide)
      have e4 : M (link 80 4) (nI i).toNatClampNeg = nI (P 3 i) := h.rowc 2 (by decide) (by omega)
      have e34 : M (link 80 34) (nI i).toNatClampNeg = nI (cnA P i m) := by rw [nI_clamp (by omega)]; exact hO i q
      have b3 := (hV.w q).2.2.1
      have hc := cnA_le (P := P) (w := i) m
      have en : insc P (i + 1) = insc P i + P 3 i := rfl
      have g1 : gmx P m (i + 1) = if P 3 i = 1 then (if gmx P m i < cnA P i m then cnA P i m else gmx P m i) else gmx P m i := rfl
      have g2 : lmn P m (i + 1) = if P 3 i = 1 then (if cnA P i m < lmn P m i then cnA P i m else lmn P m i) else lmn P m i := rfl
      rw [ite_nge q (by omega), if_pos i4, e4]
      by_cases z : P 3 i = 0
      · rw [if_pos (show nI (P 3 i) = 0 by rw [z]; rfl), ilet_e, nI_1]
        refine ih (i + 1) x3 x4 (by omega) (by omega) ?_ ?_
        · have e1 : gmx P m (i + 1) = gmx P m i := by rw [g1, if_neg (by omega)]
          rw [en, z, Nat.add_zero, e1]; exact hx3
        · have e1 : lmn P m (i + 1) = lmn P m i := by rw [g2, if_neg (by omega)]
          rw [en, z, Nat.add_zero, e1]; exact hx4
      · have z1 : P 3 i = 1 := by omega
        rw [if_neg (fun y => z ((nI_is0 (by omega)).mp y))]
        have hne : ¬ insc P (i + 1) = 0 := by omega
        by_cases y : insc P i = 0
        · obtain ⟨a1, a2⟩ := gl_0 (m := m) i y (fun w hw => (hV.w (w := w) (by omega)).2.2.1)
          have ex3 : x3 = -1 := by rw [hx3, if_pos y]
          have hgt : ¬ nI (cnA P i m) ≤ -1 := Int32.not_le.mpr (show (-1 : Int32) < nI (cnA P i m) from Int32.lt_of_lt_of_le (show (-1 : Int32) < 0 by decide) (nI_pos' (by omega)))
          rw [ex3, if_pos (show (-1 : Int32) < 0 by decide)]
          unfold s9_fair_72 s9_fair_84
          rw [if_pos i34, if_pos i34, e34, if_neg hgt, if_pos i34, ilet_e, ilet_e, nI_1]
          refine ih (i + 1) _ _ (by omega) (by omega) ?_ ?_
          · rw [if_neg hne, g1, if_pos z1, a1]
            by_cases t : 0 < cnA P i m
            · rw [if_pos t]
            · rw [if_neg t, show cnA P i m = 0 by omega]
          · rw [if_neg hne, g2, if_pos z1, a2]
            by_cases t : cnA P i m < m
            · rw [if_pos t]
            · rw [if_neg t, show cnA P i m = m by omega]
        · have ex3 : x3 = nI (gmx P m i) := by rw [hx3, if_neg y]
          have ex4 : x4 = nI (lmn P m i) := by rw [hx4, if_neg y]
          rw [ex3, ex4, if_neg (nI_pos (by omega)), if_pos i34, e34]
          have fin : ∀ t, t = nI (lmn P m (i + 1)) → s9_fair_84 n (s9_fair_34 n 80 f) 80 (nI (gmx P m i)) (nI i) t M = some (nI (frI P m), M) := fun t ht => by
            unfold s9_fair_84
            rw [if_pos i34, e34]
            by_cases u : cnA P i m ≤ gmx P m i
            · rw [if_pos (nI_le u (by omega)), ilet_e, nI_1]
              refine ih (i + 1) _ _ (by omega) (by omega) ?_ ?_
              · rw [if_neg hne, g1, if_pos z1, if_neg (by omega)]
              · rw [if_neg hne]; exact ht
            · rw [if_neg (nI_ge (by omega) (by omega)), if_pos i34, ilet_e, ilet_e, nI_1]
              refine ih (i + 1) _ _ (by omega) (by omega) ?_ ?_
              · rw [if_neg hne, g1, if_pos z1, if_pos (by omega)]
              · rw [if_neg hne]; exact ht
          by_cases u : lmn P m i ≤ cnA P i m
          · rw [if_pos (nI_le u (by omega))]
            exact fin _ (by rw [g2, if_pos z1, if_neg (by omega)])
          · rw [if_neg (nI_ge (by omega) (by omega))]
            unfold s9_fair_72
            rw [if_pos i34, e34]
            exact fin _ (by rw [g2, if_pos z1, if_pos (by omega)])
    · have e : i = P 10 1 := by omega
      subst e
      rw [ite_ge (Nat.le_refl _) (by omega), hx3, hx4]
      unfold frI
      by_cases z : insc P (P 10 1) = 0
      · rw [if_pos z, if_pos z, if_pos z, if_neg (by decide)]; rfl
      · have l4 := l3 z (fun w hw => (hV.w hw).2.2.1)
        rw [if_neg z, if_neg z, if_neg z, if_pos (nI_pos' (by omega)), sub_e l4]
theorem r_judge36 {n m w : Nat} {P : PAy} {F : Nat → Nat} (hV : VA P) (hw : w < P 10 1) (hn : 60 < n) (hm : m ≤ 60) (hF : ∀ j, j < m → F j < 60) : ∀ (f k : Nat) (x3 : Int32) (M : Mem), k ≤ m → m < k + f → RP (wI P k) M → KP 200 P M → (∀ j, j < m → M 102 j = nI (F j)) → ((x3 = -9 ∧ ∀ j, j < k → wI P (j + 1) 1 w = F j) ∨ (∃ j, x3 = nI j ∧ j < m ∧ fwA P w F m = j + 1)) → Sp (s9_judge_36 n 80 (nI w) (nI m) f x3 (nI k) M) (fun r M' => r = gI (fwA P w F m) ∧ RP P M' ∧ RGm M M') := by
  have h12 := hV.w12
  have fin : ∀ (x3 : Int32) (M : Mem), KP 200 P M → x3 = gI (fwA P w F m) → Sp (s9_judge_75 n 80 x3 M) (fun r M' => r = gI (fwA P w F m) ∧ RP P M' ∧ RGm M M') := fun x3 M hK hx => by
    unfold s9_judge_75
    exact Sp.cb (r_back1 hK hn) (fun r M1 t => Sp.ret ⟨hx, t.1, t.2.1⟩)
  intro f
  induction f with
  | zero => intro k x3 M h1 h2; omega
  | succ f ih =>
    intro k x3 M h1 h2 h hK h7 hx
    rw [s9_judge_36]
    by_cases q : k < m
    · refine Sp.neg (nI_ge q (by omega)) ?_
      rcases hx with ⟨a1, a2⟩ | ⟨j, a1, a2, a3⟩
      · have hVk1 := V_wI hV (k + 1)
        have e1 : wI P (k + 1) 10 1 = P 10 1 := wI_keep ⟨by decide, by decide⟩ _
        have hw1 : w < wI P (k + 1) 10 1 := by rw [e1]; exact hw
        have hp := (hVk1.w hw1).1
        have h60 := hVk1.n60
        have i2 : inB (nI w) (alen (link 80 2)) := vp_in_nI (N := 12) (by omega) (by decide)
        have i41 : inB (nI k) (alen (link 80 41)) := vp_in_nI (N := 60) (by omega) (by decide)
        rw [a1]
        refine Sp.neg (by decide) (Sp.cb (r_walks h (V_wI hV k) hn) (fun r M1 t => Sp.pos i2 (Sp.pos i41 ?_)))
        obtain ⟨t1, t2⟩ := t
        have t1' : RP (wI P (k + 1)) M1 := t1
        have e2 : M1 (link 80 2) (nI w).toNatClampNeg = nI (wI P (k + 1) 1 w) := t1'.rowc 0 (by decide) (by omega)
        have e41 : M1 (link 80 41) (nI k).toNatClampNeg = nI (F k) := by
          rw [nI_clamp (by omega)]
          show M1 102 k = nI (F k)
          rw [t2.1 102 (by decide) (by decide) (by decide)]; exact h7 k q
        have hK1 := hK.h t2.RH
        have h71 : ∀ j, j < m → M1 102 j = nI (F j) := fun j hj => by rw [t2.1 102 (by decide) (by decide) (by decide)]; exact h7 j hj
        rw [e2, e41]
        have hFk := hF k q
        by_cases y : wI P (k + 1) 1 w = F k
        · refine Sp.pos (by rw [y]) (Sp.ilet ?_)
          rw [nI_1]
          exact (ih (k + 1) (-9) M1 (by omega) (by omega) t1' hK1 h71 (Or.inl ⟨rfl, fun j hj => by
            by_cases e : j = k
            · subst e; exact y
            · exact a2 j (by omega)⟩)).mono (fun r M2 u => ⟨u.1, u.2.1, t2.RH.RGm.tr u.2.2⟩)
        · refine Sp.neg (fun u => y ((nI_eq (by omega) (by omega)).mp u)) (Sp.ilet ?_)
          rw [nI_1]
          exact (ih (k + 1) (nI k) M1 (by omega) (by omega) t1' hK1 h71 (Or.inr ⟨k, rfl, q, fwA_some q y a2⟩)).mono (fun r M2 u => ⟨u.1, u.2.1, t2.RH.RGm.tr u.2.2⟩)
      · rw [a1]
        exact Sp.pos (nI_pos' (by omega)) (fin _ M hK (by rw [a3, gI_suc]))
    · have e : k = m := by omega
      subst e
      refine Sp.pos (nI_le (Nat.le_refl _) (by omega)) (fin _ M hK ?_)
      rcases hx with ⟨a1, a2⟩ | ⟨j, a1, a2, a3⟩
      · rw [a1, fwA_none a2]; rfl
      · rw [a1, a3, gI_suc]
theorem r_oddsOf {n m w : Nat} {P : PAy} {M : Mem} (h : RP P M) (hV : VA P) (hw : w < P 10 1) (hn : 200 < n) (hm : m ≤ 200) : Sp (s9_oddsOf n 80 (nI w) (nI m) M) (fun r M' => r = nI (cnA P w m) ∧ RP P M' ∧ RGm M M') := by
  have h12 := hV.w12
  have i34 : inB (nI w) (alen (link 80 34)) := vp_in_nI (N := 12) (by omega) (by decide)
  unfold s9_oddsOf
  refine Sp.cb (r_findOdds (a := 0) (b := 0) h hV hn hm (Or.inl rfl)) (fun r M1 t => Sp.pos i34 (Sp.ret ⟨?_, t.1, t.2.1⟩))
  rw [nI_clamp (by omega)]
  exact t.2.2.1 w hw
theorem r_oddsBy {n m w v : Nat} {P : PAy} {M : Mem} (h : RP P M) (hV : VA P) (hw : w < P 10 1) (h1 : 1 ≤ v) (h2 : v ≤ 99) (hn : 200 < n) (hm : m ≤ 200) : Sp (s9_oddsBy n 80 (nI w) (nI v) (nI m) M) (fun _ M' => RP P M' ∧ RGm M M') := by
  have h12 := hV.w12
  have i7 : inB (nI w) (alen (link 80 7)) := vp_in_nI (N := 12) (by omega) (by decide)
  have e7 : M (link 80 7) (nI w).toNatClampNeg = nI (P 6 w) := h.rowc 5 (by decide) (by omega)
  unfold s9_oddsBy
  have ec : (nI w).toNatClampNeg = w := nI_clamp (by omega)
  refine Sp.pos i7 (Sp.ilet (Sp.pos i7 (Sp.mlet ?_)))
  rw [e7]
  simp only [ec]
  have r1 : RP (pset P 6 w v) (mset M (link 80 7) w (nI v)) := h.srow 5 (by decide)
  refine Sp.cb (r_oddsOf r1 (V_slow hV h1 h2) (by rw [ps_i (by decide)]; exact hw) hn hm) (fun r M1 t => Sp.pos i7 (Sp.mlet (Sp.ret ⟨?_, ?_⟩)))
  · have r2 : RP (pset (pset P 6 w v) 6 w (P 6 w)) (mset M1 (link 80 7) w (nI (P 6 w))) := t.2.1.srow 5 (by decide)
    rw [ps_two, ps_same rfl] at r2
    exact r2
  · exact ((RF.row (M := M) (q := link 80 7) (k := w) (v := nI v) (by decide) (by decide)).RH.RGm.tr t.2.2).tr (RF.row (by decide) (by decide)).RH.RGm
theorem r_best27 {n m w : Nat} {P : PAy} (hV : VA P) (hw : w < P 10 1) (hn : 200 < n) (hm : m ≤ 200) : ∀ (f i : Nat) (x4 x5 : Int32) (M : Mem), 1 ≤ i → i ≤ 10 → 10 < i + f → RP P M → Sp (s9_bestSlow_27 n 80 (nI w) (nI m) f x4 x5 (nI (10 * i)) M) (fun _ M' => RP P M' ∧ RGm M M') := by
  intro f
  induction f with
  | zero => intro i x4 x5 M h0 h1 h2; omega
  | succ f ih =>
    intro i x4 x5 M h0 h1 h2 h
    rw [s9_bestSlow_27]
    by_cases q : i < 10
    · refine Sp.neg (nI_ge (b := 100) (by omega) (by decide)) (Sp.cb (r_oddsBy h hV hw (by omega) (by omega) hn hm) (fun r M1 t => ?_))
      have e : nI (10 * i) + 10 = nI (10 * (i + 1)) := nI_add (10 * i) 10
      refine Sp.ite (fun _ => Sp.ilet ?_) (fun _ => Sp.ilet ?_)
      · rw [e]; exact (ih (i + 1) _ _ M1 (by omega) (by omega) (by omega) t.1).mono (fun r M2 u => ⟨u.1, t.2.tr u.2⟩)
      · rw [e]; exact (ih (i + 1) _ _ M1 (by omega) (by omega) (by omega) t.1).mono (fun r M2 u => ⟨u.1, t.2.tr u.2⟩)
    · have e : i = 10 := by omega
      subst e
      exact Sp.pos (by decide) (Sp.ret ⟨h, (RH.rf (M := M)).RGm⟩)
theorem r_cheat28 {n m w : Nat} {P : PAy} {x4 : Int32} (hV : VA P) (hw : w < P 10 1) (hn : 200 < n) (hm : m ≤ 200) : ∀ (f i : Nat) (M : Mem), i ≤ 10 → 10 < i + f → RP P M → Sp (s9_cheat_28 n 80 (nI w) (nI m) x4 f (nI (10 * i + 1)) M) (fun _ M' => RP P M' ∧ RGm M M') := by
  intro f
  induction f with
  | zero => intro i M h1 h2; omega
  | succ f ih =>
    intro i M h1 h2 h
    rw [s9_cheat_28]
    by_cases q : i < 10
    · refine Sp.neg (nI_ge (b := 100) (by omega) (by decide)) (Sp.cb (r_oddsBy h hV hw (by omega) (by omega) hn hm) (fun r M1 t => ?_))
      have e : nI (10 * i + 1) + 10 = nI (10 * (i + 1) + 1) := nI_add (10 * i + 1) 10
      refine Sp.ite (fun _ => Sp.ilet ?_) (fun _ => Sp.ret t)
      rw [e]; exact (ih (i + 1) M1 (by omega) (by omega) t.1).mono (fun r M2 u => ⟨u.1, t.2.tr u.2⟩)
    · have e : i = 10 := by omega
      subst e
      exact Sp.pos (by decide) (Sp.ret ⟨h, (RH.rf (M := M)).RGm⟩)
/-! the program: the pace that is best, cheats: they end -/
theorem k_best10 {n m w : Nat} {P : PAy} (hV : VA P) (hw : w < P 10 1) (hn : 200 < n) (hm : m ≤ 200) : ∀ (f i : Nat) (x3 x4 : Int32) (M : Mem), 1 ≤ i → i ≤ 10 → 10 < i + f → CP 11 P M → Sp (s0_slowOfGreatestOdds_10 n 2 (nI w) (nI m) f x3 x4 (nI (10 * i)) M) (fun _ M' => KMi M M') := by
  have h12 := hV.w12
  intro f
  induction f with
  | zero => intro i x3 x4 M h0 h1 h2; omega
  | succ f ih =>
    intro i x3 x4 M h0 h1 h2 c
    rw [s0_slowOfGreatestOdds_10]
    by_cases q : i < 10
    · refine Sp.neg (nI_nlt (a := 90) (b := 10 * i) (by omega) (by decide)) (Sp.cb (k_oddsAt c hV hw (by omega) (by omega) hn hm) (fun r M1 t => ?_))
      have e : nI (10 * i) + 10 = nI (10 * (i + 1)) := nI_add (10 * i) 10
      have c1 := t.2.cp (Or.inl rfl) c h12
      refine Sp.ite (fun _ => Sp.ilet ?_) (fun _ => Sp.ilet ?_)
      · rw [e]; exact (ih (i + 1) _ _ M1 (by omega) (by omega) (by omega) c1).mono (fun r M2 u => t.2.tr u)
      · rw [e]; exact (ih (i + 1) _ _ M1 (by omega) (by omega) (by omega) c1).mono (fun r M2 u => t.2.tr u)
    · have e : i = 10 := by omega
      subst e
      exact Sp.pos (by decide) (Sp.ret KMi.rf)
theorem k_cheat35 {n m w : Nat} {P : PAy} {x3 : Int32} (hV : VA P) (hw : w < P 10 1) (hn : 200 < n) (hm : m ≤ 200) : ∀ (f i : Nat) (M : Mem), i ≤ 10 → 10 < i + f → CP 11 P M → Sp (s0_gainOfCheating_35 n 2 (nI w) (nI m) x3 f (nI (10 * i + 1)) M) (fun _ M' => KMi M M') := by
  have h12 := hV.w12
  intro f
  induction f with
  | zero => intro i M h1 h2; omega
  | succ f ih =>
    intro i M h1 h2 c
    rw [s0_gainOfCheating_35]
    by_cases q : i < 10
    · refine Sp.neg (nI_nlt (a := 91) (b := 10 * i + 1) (by omega) (by decide)) (Sp.ite (fun _ => Sp.ret KMi.rf) (fun _ => Sp.cb (k_oddsAt c hV hw (by omega) (by omega) hn hm) (fun r M1 t => ?_)))
      have e : nI (10 * i + 1) + 10 = nI (10 * (i + 1) + 1) := nI_add (10 * i + 1) 10
      refine Sp.ite (fun _ => Sp.ilet ?_) (fun _ => Sp.ret t.2)
      rw [e]; exact (ih (i + 1) M1 (by omega) (by omega) (t.2.cp (Or.inl rfl) c h12)).mono (fun r M2 u => t.2.tr u)
    · have e : i = 10 := by omega
      subst e
      exact Sp.pos (by decide) (Sp.ret KMi.rf)
theorem k_cheat {n m w : Nat} {P : PAy} {M : Mem} (c : CP 11 P M) (hV : VA P) (hw : w < P 10 1) (hn : 200 < n) (hm : m ≤ 200) : Sp (s0_gainOfCheating n 2 (nI w) (nI m) M) (fun _ M' => KMi M M') := by
  have h12 := hV.w12
  obtain ⟨b1, b2, b3, b4, b5, b6, b7, b8, b9⟩ := hV.w hw
  unfold s0_gainOfCheating
  refine Sp_cbe (k_inY (o := 11) po11 c hV hw) ?_
  by_cases z : P 3 w = 0
  · exact Sp.pos (by rw [z]; rfl) (Sp.ret KMi.rf)
  · have hi : inB (nI w) (alen (11 + 9)) := vp_in_nI (N := 12) (by omega) (by decide)
    refine Sp.neg (fun y => z ((nI_is0 (by omega)).mp y)) (Sp.pos hi ?_)
    have el : M (link (link (link 2 0) 3) (nI w).toNatClampNeg) 5 = nI (P 6 w) := by
      have : link (link (link 2 0) 3) (nI w).toNatClampNeg = 11 + 11 + w := by rw [nI_clamp (by omega)]; exact lw9 po11 (by omega)
      rw [this]; exact c.w hw 5 (by decide)
    rw [el]
    refine Sp.cb (k_oddsAt c hV hw b6.1 b6.2 hn hm) (fun r M1 t => ?_)
    exact (k_cheat35 hV hw hn hm n 0 M1 (Nat.zero_le _) (by omega) (t.2.cp (Or.inl rfl) c h12)).mono (fun r M2 u => t.2.tr u)
