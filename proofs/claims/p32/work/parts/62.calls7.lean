/-! ===== the calls: bytes ===== -/
theorem sh_k : ∀ i, i < 8 → (((8 : Int32) * nI i).toInt64 &&& 63) = Int64.ofNat (8 * i) ∧ (((8 : Int32) * nI i).toInt64.toUInt64 &&& Int64.toUInt64 63) = UInt64.ofNat (8 * i) := by decide +kernel
theorem b255 : ∀ j, j < 64 → (255#64).getLsbD j = decide (j < 8) := by decide +kernel
theorem c255 : ∀ j, j < 32 → (255#32).getLsbD j = decide (j < 8) := by decide +kernel
theorem byt (b : BitVec 64) (s : Nat) (hs : s ≤ 56) : (((b >>> s).setWidth 32).setWidth 8).signExtend 32 &&& 255#32 = ((b.sshiftRight s) &&& 255#64).setWidth 32 := by
  apply BitVec.eq_of_getLsbD_eq
  intro j hj
  rw [BitVec.getLsbD_and, c255 j hj, BitVec.getLsbD_setWidth, BitVec.getLsbD_and, b255 j (by omega), BitVec.getLsbD_signExtend, BitVec.getLsbD_sshiftRight]
  by_cases q : j < 8
  · have h1 : s + j < 64 := by omega
    have h2 : j < 32 := hj
    have h3 : ¬ 64 ≤ j := by omega
    simp [q, h1, h2, h3, BitVec.getLsbD_setWidth, BitVec.getLsbD_ushiftRight]
  · simp [q]
theorem shA (y : Int64) (s : Nat) (hs : s < 64) : (y.toUInt64 >>> UInt64.ofNat s).toInt64.toBitVec = y.toBitVec >>> s := by
  show (y.toUInt64 >>> UInt64.ofNat s).toBitVec = y.toBitVec >>> s
  rw [UInt64.toBitVec_shiftRight]
  apply BitVec.eq_of_toNat_eq
  simp [BitVec.toNat_ushiftRight, Nat.mod_eq_of_lt hs]
theorem shB (y : Int64) : ∀ i, i < 8 → (y >>> Int64.ofNat (8 * i)).toBitVec = y.toBitVec.sshiftRight (8 * i) := by
  intro i hi
  rw [Int64.toBitVec_shiftRight]
  have : (Int64.ofNat (8 * i)).toBitVec.smod 64 = BitVec.ofNat 64 (8 * i) := by
    revert i
    decide +kernel
  rw [this, BitVec.sshiftRight_eq']
  congr 1
  rw [BitVec.toNat_ofNat]
  omega
theorem byteOf (y : Int64) (i : Nat) (hi : i < 8) : ∃ t : Nat, t < 256 ∧ ((y >>> (((8 : Int32) * nI i).toInt64 &&& 63)) &&& (255 : Int64)).toInt32 = nI t ∧ (vp_nar .byte ((((y.toUInt64 >>> (((8 : Int32) * nI i).toInt64.toUInt64 &&& Int64.toUInt64 63)).toInt64).toInt32).toInt8.toInt32)) &&& (255 : Int32) = nI t := by
  obtain ⟨e1, e2⟩ := sh_k i hi
  rw [e1, e2]
  have eB : ((y >>> Int64.ofNat (8 * i)) &&& (255 : Int64)).toInt32.toBitVec = ((y.toBitVec.sshiftRight (8 * i)) &&& 255#64).setWidth 32 := by
    rw [Int64.toBitVec_toInt32, BitVec.signExtend_eq_setWidth_of_le _ (by decide), Int64.toBitVec_and, shB y i hi]
    rfl
  have eA : ((vp_nar .byte ((((y.toUInt64 >>> UInt64.ofNat (8 * i)).toInt64).toInt32).toInt8.toInt32)) &&& (255 : Int32)).toBitVec = (((y.toBitVec >>> (8 * i)).setWidth 32).setWidth 8).signExtend 32 &&& 255#32 := by
    rw [vp_nar_byte, Int32.toBitVec_and]
    have : (((((y.toUInt64 >>> UInt64.ofNat (8 * i)).toInt64).toInt32).toInt8.toInt32).toInt8.toInt32) = (((y.toUInt64 >>> UInt64.ofNat (8 * i)).toInt64).toInt32).toInt8.toInt32 := by
      rw [Int8.toInt8_toInt32]
    rw [this]
    rw [Int8.toBitVec_toInt32, Int32.toBitVec_toInt8, BitVec.signExtend_eq_setWidth_of_le (v := 8) _ (by decide), Int64.toBitVec_toInt32, BitVec.signExtend_eq_setWidth_of_le (v := 32) (w := 64) _ (by decide), shA y (8 * i) (by omega)]
    rfl
  refine ⟨((y.toBitVec.sshiftRight (8 * i)) &&& 255#64).toNat, ?_, ?_, ?_⟩
  · rw [BitVec.toNat_and]
    have : (255#64).toNat = 255 := by decide
    rw [this]
    exact Nat.lt_of_le_of_lt Nat.and_le_right (by decide)
  · apply Int32.toBitVec_inj.mp
    rw [eB]
    show _ = BitVec.ofNat 32 _
    exact (BitVec.ofNat_toNat ..).symm
  · apply Int32.toBitVec_inj.mp
    rw [eA, byt _ _ (by omega)]
    show _ = BitVec.ofNat 32 _
    exact (BitVec.ofNat_toNat ..).symm
theorem k_app {n m L0 : Nat} {y : Int64} (hm : m ≤ 8) (hL : L0 + m ≤ 64) : ∀ (f i : Nat) (M : Mem), i ≤ m → m < i + f → M 8 4 = nI (L0 + i) → Sp (s6_append_3 n 8 (nI m) y f (nI i) M) (fun _ M' => M' 8 4 = nI (L0 + m) ∧ (∀ q, q ≠ 8 → q ≠ 9 → M' q = M q) ∧ (∀ k, k ≠ 4 → M' 8 k = M 8 k) ∧ (∀ j, j < L0 + i → M' 9 j = M 9 j) ∧ ∀ u, i ≤ u → u < m → M' 9 (L0 + u) = vp_nar .byte ((((y.toUInt64 >>> (((8 : Int32) * nI u).toInt64.toUInt64 &&& Int64.toUInt64 63)).toInt64).toInt32).toInt8.toInt32)) := by
  intro f
  induction f with
  | zero => intro i M h1 h2; omega
  | succ f ih =>
    intro i M h1 h2 e
    rw [s6_append_3]
    by_cases q : i = m
    · subst q
      exact Sp.pos (nI_le (Nat.le_refl _) (by omega)) (Sp.ret ⟨e, fun _ _ _ => rfl, fun _ _ => rfl, fun _ _ => rfl, fun u a b => by omega⟩)
    · refine Sp.neg (nI_ge (by omega) (by omega)) ?_
      rw [e]
      refine Sp.neg (nI_ge (b := 64) (by omega) (by decide)) (Sp.pos (show inB (nI (L0 + i)) (alen (link 8 0)) from vp_in_nI (N := 64) (by omega) (by decide)) (Sp.mlet (Sp.mlet (Sp.ilet ?_))))
      rw [nI_clamp (by omega), show link 8 0 = 9 from rfl, nI_1, ms_ne (show (8 : Nat) ≠ 9 by decide), e, nI_1]
      refine (ih (i + 1) _ (by omega) (by omega) ms_eq).mono (fun r M' w => ?_)
      obtain ⟨w1, w2, w3, w4, w5⟩ := w
      refine ⟨w1, fun q a b => ?_, fun k a => ?_, fun j hj => ?_, fun u a b => ?_⟩
      · rw [w2 q a b, ms_ne a, ms_ne b]
      · rw [w3 k a, ms_ne2 a, ms_ne (by decide)]
      · rw [w4 j (by omega), ms_ne (by decide), ms_ne2 (by omega)]
      · by_cases c : u = i
        · subst c
          rw [w4 (L0 + u) (by omega), ms_ne (by decide), ms_eq]
        · exact w5 u (by omega) b
theorem r_app {n m L0 : Nat} {y : Int64} (hm : m ≤ 8) (hL : L0 + m ≤ 64) : ∀ (f i : Nat) (M : Mem), i ≤ m → m < i + f → M 80 26 = nI (L0 + i) → Sp (s9_feed_44 n 80 (nI m) y f (nI i) M) (fun r M' => r = nI (L0 + m) ∧ M' 80 26 = nI (L0 + m) ∧ (∀ q, q ≠ 80 → q ≠ 92 → M' q = M q) ∧ (∀ k, k ≠ 26 → M' 80 k = M 80 k) ∧ (∀ j, j < L0 + i → M' 92 j = M 92 j) ∧ ∀ u, i ≤ u → u < m → M' 92 (L0 + u) = ((y >>> (((8 : Int32) * nI u).toInt64 &&& 63)) &&& (255 : Int64)).toInt32) := by
  intro f
  induction f with
  | zero => intro i M h1 h2; omega
  | succ f ih =>
    intro i M h1 h2 e
    rw [s9_feed_44]
    by_cases q : i = m
    · subst q
      exact Sp.pos (nI_le (Nat.le_refl _) (by omega)) (Sp.ret ⟨e, e, fun _ _ _ => rfl, fun _ _ => rfl, fun _ _ => rfl, fun u a b => by omega⟩)
    · refine Sp.neg (nI_ge (by omega) (by omega)) ?_
      rw [e]
      refine Sp.pos (show inB (nI (L0 + i)) (alen (link 80 20)) from vp_in_nI (N := 64) (by omega) (by decide)) (Sp.mlet (Sp.mlet (Sp.ilet ?_)))
      rw [nI_clamp (by omega), show link 80 20 = 92 from rfl, nI_1, ms_ne (show (80 : Nat) ≠ 92 by decide), e, nI_1]
      refine (ih (i + 1) _ (by omega) (by omega) ms_eq).mono (fun r M' w => ?_)
      obtain ⟨w0, w1, w2, w3, w4, w5⟩ := w
      refine ⟨w0, w1, fun q a b => ?_, fun k a => ?_, fun j hj => ?_, fun u a b => ?_⟩
      · rw [w2 q a b, ms_ne a, ms_ne b]
      · rw [w3 k a, ms_ne2 a, ms_ne (by decide)]
      · rw [w4 j (by omega), ms_ne (by decide), ms_ne2 (by omega)]
      · by_cases c : u = i
        · subst c
          rw [w4 (L0 + u) (by omega), ms_ne (by decide), ms_eq]
        · exact w5 u (by omega) b
theorem c_feed {n : Nat} {x : Int32} {y : Int64} {M : Mem} (hn : 4000 < n) (hI : IV M) : Ag M IV (s8_feed n 0 x y) (s9_feed n 80 x y) := by
  obtain ⟨L, T, b1, b2, b3, b4⟩ := hI.2.2.1
  by_cases a : wy x 1 8 = 0
  · obtain ⟨m, m1, m2, rfl⟩ := inI1 (b := 8) (by decide) a
    have g1 : (1 : Int32) ≤ nI m := nI_le (a := 1) m1 (by omega)
    have g2 : ¬ (8 : Int32) < nI m := nI_nlt (a := 8) (b := m) m2 (by decide)
    by_cases z : L + m ≤ 64
    · obtain ⟨⟨P, h1, h2, h3, h4⟩, hK, hX, hR, hF⟩ := hI
      obtain ⟨r0, M1, e1, p1, p2, p3, p4, p5⟩ := k_app (n := n) (y := y) m2 z n 0 M (Nat.zero_le _) (by omega) b3.1
      have eA : s8_feed n 0 (nI m) y M = some (nI (L + m), M1) := by
        unfold s8_feed s6_append
        rw [if_pos g1, if_neg g2, show link 0 5 = 8 from rfl, b3.1, nI_add, if_pos (show nI (L + m) ≤ (64 : Int32) from nI_le (b := 64) z (by decide)), show (0 : Int32) = nI 0 from rfl, e1, cb_some, p1]
      obtain ⟨r', M2, e2, q0, q1, q2, q3, q4, q5⟩ := r_app (n := n) (y := y) m2 z n 0 M1 (Nat.zero_le _) (by omega) (by rw [p2 80 (by decide) (by decide)]; exact b4.1)
      have eB : s9_feed n 80 (nI m) y M1 = some (nI (L + m), M2) := by
        unfold s9_feed s9_feed_29
        rw [k_bound, a, cb_some, if_pos (by decide), show M1 80 26 = nI L by rw [p2 80 (by decide) (by decide)]; exact b4.1, nI_add, if_pos (show nI (L + m) ≤ (64 : Int32) from nI_le (b := 64) z (by decide)), if_pos (by decide), show (0 : Int32) = nI 0 from rfl, e2, q0]
      have fq : ∀ q, q ≠ 8 → q ≠ 9 → q ≠ 80 → q ≠ 92 → M2 q = M q := fun q a b c d => by rw [q2 q c d, p2 q a b]
      have f80 : ∀ k, k ≠ 26 → M2 80 k = M 80 k := fun k hk => by rw [q3 k hk, p2 80 (by decide) (by decide)]
      have tb := fun i (hi : i < 8) => byteOf y i hi
      refine ⟨_, M1, M2, eA, eB, ⟨P, h1.same (fun q _ _ => fq q (by omega) (by omega) (by omega) (by omega)) h3.w12, h2.oh (fun s _ _ => f80 s (by omega)) (fun q _ _ => fq q (by omega) (by omega) (by omega) (by omega)), h3, h4⟩, hK.k ?_ ?_ (fun q _ _ => ?_) (fun j _ => ?_), ⟨L + m, fun j => if j < L then T j else if h : j - L < 8 then Classical.choose (tb (j - L) h) else 0, fun j => ?_, z, ⟨?_, fun j hj => ?_⟩, ⟨q1, fun j hj => ?_⟩⟩, hR.k ?_ ?_ ?_ ?_, hF.k ?_ ?_ ?_ ?_⟩
      · rw [fq 0 (by decide) (by decide) (by decide) (by decide)]
      · exact f80 30 (by decide)
      · exact fq q (by omega) (by omega) (by omega) (by omega)
      · rw [fq 98 (by decide) (by decide) (by decide) (by decide)]
      · show (if j < L then T j else if h : j - L < 8 then Classical.choose (tb (j - L) h) else 0) < 256
        by_cases c : j < L
        · rw [if_pos c]; exact b1 j
        · rw [if_neg c]
          by_cases d : j - L < 8
          · rw [dif_pos d]; exact (Classical.choose_spec (tb (j - L) d)).1
          · rw [dif_neg d]; omega
      · rw [q2 8 (by decide) (by decide)]; exact p1
      · rw [q2 9 (by decide) (by decide)]
        show M1 9 j &&& 255 = nI (if j < L then T j else if h : j - L < 8 then Classical.choose (tb (j - L) h) else 0)
        by_cases c : j < L
        · rw [if_pos c, p4 j (by omega)]; exact b3.2 j c
        · have d : j - L < 8 := by omega
          have e := p5 (j - L) (Nat.zero_le _) (by omega)
          rw [show L + (j - L) = j by omega] at e
          rw [if_neg c, dif_pos d, e]
          exact (Classical.choose_spec (tb (j - L) d)).2.2
      · show M2 92 j = nI (if j < L then T j else if h : j - L < 8 then Classical.choose (tb (j - L) h) else 0)
        by_cases c : j < L
        · rw [if_pos c, q4 j (by omega), p2 92 (by decide) (by decide)]; exact b4.2 j c
        · have d : j - L < 8 := by omega
          have e := q5 (j - L) (Nat.zero_le _) (by omega)
          rw [show L + (j - L) = j by omega] at e
          rw [if_neg c, dif_pos d, e]
          exact (Classical.choose_spec (tb (j - L) d)).2.1
      · rw [fq 4 (by decide) (by decide) (by decide) (by decide)]
      · exact fq 5 (by decide) (by decide) (by decide) (by decide)
      · exact f80 42 (by decide)
      · exact fq 101 (by decide) (by decide) (by decide) (by decide)
      · rw [fq 6 (by decide) (by decide) (by decide) (by decide)]
      · exact fq 7 (by decide) (by decide) (by decide) (by decide)
      · exact f80 43 (by decide)
      · exact fq 102 (by decide) (by decide) (by decide) (by decide)
    · refine nrmF hI (fun P c r hV ht => ⟨-6, P, hV, ht, ?_, fun N rN f => ?_⟩)
      · unfold s8_feed
        rw [if_pos g1, if_neg g2, show link 0 5 = 8 from rfl, b3.1, nI_add, if_neg (show ¬ nI (L + m) ≤ (64 : Int32) from nI_ge (a := 64) (by omega) (by omega))]
        exact SA_ref (x := 6) c hV.w12 FPg.rf (by decide)
      · unfold s9_feed s9_feed_29
        rw [k_bound, a, cb_some, if_pos (by decide), show N 80 26 = nI L by rw [f.o 80 (by decide)]; exact b4.1, nI_add, if_neg (show ¬ nI (L + m) ≤ (64 : Int32) from nI_ge (a := 64) (by omega) (by omega)), if_neg (by decide)]
        exact SB_no rN FRg.rf (by decide)
  · refine nrmF hI (fun P c r hV ht => ⟨-wy x 1 8, P, hV, ht, ?_, fun N rN f => ?_⟩)
    · have : s8_feed n 0 x y M = cb (s8_refuse 0 (wy x 1 8) M) (fun r M' => some (r, M')) := by
        unfold s8_feed
        rcases wy_cases x 1 8 with ⟨w, h⟩ | ⟨w, h, h'⟩ | ⟨w, h⟩
        · rw [w, if_neg (Inle h)]
        · rw [w, if_pos (Ile h), if_pos h']
        · exact absurd w a
      rw [this]
      exact SA_ref c hV.w12 FPg.rf (wy_ref a)
    · unfold s9_feed s9_feed_29
      rw [k_bound, cb_some, if_neg (wy_neg a), if_neg (wy_neg a)]
      exact SB_no rN FRg.rf (wy_no a)
