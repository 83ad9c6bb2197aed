/-! ===== the reference: its rows kept and put back ===== -/
/-- what stands at the j-th place of what is kept -/
def kc (M : Mem) (j : Nat) : Int32 := if j < 60 then M 82 j else if j < 168 then M (83 + (j - 60) / 12) ((j - 60) % 12) else M 80 (11 + (j - 168))
theorem kc_chair {M : Mem} {j : Nat} (h : j < 60) : kc M j = M 82 j := if_pos h
theorem kc_row {M : Mem} {i j : Nat} (hi : i < 9) (hj : j < 12) : kc M (60 + 12 * i + j) = M (83 + i) j := by
  unfold kc
  rw [if_neg (by omega), if_pos (by omega), show (60 + 12 * i + j - 60) / 12 = i by omega, show (60 + 12 * i + j - 60) % 12 = j by omega]
theorem kc_one {M : Mem} {s : Nat} : kc M (168 + s) = M 80 (11 + s) := by
  unfold kc
  rw [if_neg (by omega), if_neg (by omega), show 168 + s - 168 = s by omega]
def KS (b : Nat) (N : Mem) (off : Nat) (M : Mem) : Prop := M 80 31 = 1 ∧ M 80 32 = nI (b + off) ∧ (∀ k, k ≠ 31 → k ≠ 32 → M 80 k = N 80 k) ∧ (∀ q, q ≠ 80 → q ≠ 98 → M q = N q) ∧ (∀ j, j < b ∨ b + off ≤ j → M 98 j = N 98 j) ∧ ∀ j, j < off → M 98 (b + j) = kc N j
theorem KS.row {b off a len n : Nat} {N M : Mem} (h : KS b N off M) (ha : alen a = len) (h80 : a ≠ 80) (h98 : a ≠ 98) (hl : len ≤ 60) (hc : b + off + len ≤ 400) (hn : 60 < n) (hk : ∀ j, j < len → kc N (off + j) = N a j) : Sp (s9_passes n 80 a M) (fun _ M' => KS b N (off + len) M') := by
  obtain ⟨h1, h2, h3, h4, h5, h6⟩ := h
  unfold s9_passes
  refine (passes_keep (n := n) (c := b + off) ha h80 h98 hl hc n 0 M (by omega) (by omega) h1 h2).mono ?_
  intro r M' ⟨q1, q2, q3, q4, q5⟩
  refine ⟨by rw [q2 31 (by decide)]; exact h1, by rw [q1]; rw [Nat.add_assoc], fun k k1 k2 => by rw [q2 k k2]; exact h3 k k1 k2, fun q e1 e2 => by rw [q3 q e1 e2]; exact h4 q e1 e2, fun j hj => ?_, fun j hj => ?_⟩
  · rw [q4 j (by omega)]
    exact h5 j (by omega)
  · by_cases e : j < off
    · rw [q4 _ (by omega)]
      exact h6 j e
    · have e2 := q5 (j - off) (by omega) (by omega)
      rw [show b + off + (j - off) = b + j by omega] at e2
      rw [e2, h4 a h80 h98, ← hk (j - off) (by omega), show off + (j - off) = j by omega]
theorem KS.one {b off k n : Nat} {N M : Mem} {F : Mem → Option Res} {Q : Int32 → Mem → Prop} (h : KS b N off M) (hk : kc N off = N 80 k) (k1 : k ≠ 31) (k2 : k ≠ 32) (hc : b + off < 400) (kk : ∀ M', KS b N (off + 1) M' → Sp (F M') Q) : Sp (cb (s9_passOne n 80 (M 80 k) M) (fun r M1 => mlet (mset M1 80 k r) F)) Q := by
  obtain ⟨h1, h2, h3, h4, h5, h6⟩ := h
  have e1 : s9_passOne n 80 (M 80 k) M = some (M 80 k, mset (mset M 98 (b + off) (M 80 k)) 80 32 (nI (b + off + 1))) := by
    unfold s9_passOne
    rw [if_neg (by rw [h1]; decide)]
    unfold s9_passOne_20
    rw [if_neg (by rw [h1]; decide), if_pos (by rw [h2]; exact vp_in_nI (by show b + off < 400; exact hc) (by decide)), mlet_e]
    unfold s9_passOne_38
    rw [mlet_e, h2, nI_clamp (by omega), show link 80 29 = 98 from rfl, ms_ne (show 80 ≠ 98 by decide), h2, nI_1]
  rw [e1, cb_some, mlet_e]
  refine kk _ ⟨?_, ?_, fun q q1 q2 => ?_, fun q q1 q2 => ?_, fun j hj => ?_, fun j hj => ?_⟩
  · rw [ms_ne2 (Ne.symm k1), ms_ne2 (by decide), ms_ne (by decide)]; exact h1
  · rw [ms_ne2 (Ne.symm k2), ms_eq]; rfl
  · by_cases e : q = k
    · subst e; rw [ms_eq]; exact h3 q q1 q2
    · rw [ms_ne2 e, ms_ne2 q2, ms_ne (by decide)]; exact h3 q q1 q2
  · rw [ms_ne q1, ms_ne q1, ms_ne q2]; exact h4 q q1 q2
  · rw [ms_ne (by decide), ms_ne (by decide), ms_ne2 (by omega)]; exact h5 j (by omega)
  · rw [ms_ne (by decide), ms_ne (by decide)]
    by_cases e : j = off
    · subst e
      rw [ms_eq, hk, h3 k k1 k2]
    · rw [ms_ne2 (by omega)]; exact h6 j (by omega)
theorem keepAll {n : Nat} (hn : 60 < n) {x : Int32} {b : Nat} (hx : (200 : Int32) * x = nI b) (hb : b + 177 ≤ 400) (M : Mem) : Sp (s9_passesAll n 80 x 1 M) (fun _ M' => KS b M 177 M') := by
  unfold s9_passesAll
  rw [hx]
  refine Sp.mlet (Sp.pos (Or.inr rfl) (Sp.mlet ?_))
  have h0 : KS b M 0 (mset (mset M 80 32 (nI b)) 80 31 1) := by
    refine ⟨ms_eq, by rw [ms_ne2 (by decide), ms_eq]; rfl, fun k k1 k2 => by rw [ms_ne2 k1, ms_ne2 k2], fun q q1 q2 => by rw [ms_ne q1, ms_ne q1], fun j hj => by rw [ms_ne (by decide), ms_ne (by decide)], fun j hj => by omega⟩
  refine Sp.cb (h0.row (a := link 80 1) (len := 60) rfl (by decide +kernel) (by decide +kernel) (by decide) (by omega) hn (fun j hj => by rw [Nat.zero_add]; exact kc_chair hj)) (fun _ M1 h1 => ?_)
  have rw_ : ∀ i, i < 9 → ∀ j, j < 12 → kc M (60 + 12 * i + j) = M (83 + i) j := fun i hi j hj => kc_row hi hj
  refine Sp.cb (h1.row (a := link 80 2) (len := 12) rfl (by decide +kernel) (by decide +kernel) (by decide) (by omega) hn (fun j hj => rw_ 0 (by decide) j hj)) (fun _ M2 h2 => ?_)
  refine Sp.cb (h2.row (a := link 80 3) (len := 12) rfl (by decide +kernel) (by decide +kernel) (by decide) (by omega) hn (fun j hj => rw_ 1 (by decide) j hj)) (fun _ M3 h3 => ?_)
  refine Sp.cb (h3.row (a := link 80 4) (len := 12) rfl (by decide +kernel) (by decide +kernel) (by decide) (by omega) hn (fun j hj => rw_ 2 (by decide) j hj)) (fun _ M4 h4 => ?_)
  refine Sp.cb (h4.row (a := link 80 5) (len := 12) rfl (by decide +kernel) (by decide +kernel) (by decide) (by omega) hn (fun j hj => rw_ 3 (by decide) j hj)) (fun _ M5 h5 => ?_)
  refine Sp.cb (h5.row (a := link 80 6) (len := 12) rfl (by decide +kernel) (by decide +kernel) (by decide) (by omega) hn (fun j hj => rw_ 4 (by decide) j hj)) (fun _ M6 h6 => ?_)
  refine Sp.cb (h6.row (a := link 80 7) (len := 12) rfl (by decide +kernel) (by decide +kernel) (by decide) (by omega) hn (fun j hj => rw_ 5 (by decide) j hj)) (fun _ M7 h7 => ?_)
  refine Sp.cb (h7.row (a := link 80 8) (len := 12) rfl (by decide +kernel) (by decide +kernel) (by decide) (by omega) hn (fun j hj => rw_ 6 (by decide) j hj)) (fun _ M8 h8 => ?_)
  refine Sp.cb (h8.row (a := link 80 9) (len := 12) rfl (by decide +kernel) (by decide +kernel) (by decide) (by omega) hn (fun j hj => rw_ 7 (by decide) j hj)) (fun _ M9 h9 => ?_)
  refine Sp.cb (h9.row (a := link 80 10) (len := 12) rfl (by decide +kernel) (by decide +kernel) (by decide) (by omega) hn (fun j hj => rw_ 8 (by decide) j hj)) (fun _ MA hA => ?_)
  refine hA.one (k := 11) (kc_one (s := 0)) (by decide) (by decide) (by omega) (fun MB hB => ?_)
  refine hB.one (k := 12) (kc_one (s := 1)) (by decide) (by decide) (by omega) (fun MC hC => ?_)
  refine hC.one (k := 13) (kc_one (s := 2)) (by decide) (by decide) (by omega) (fun MD hD => ?_)
  refine hD.one (k := 14) (kc_one (s := 3)) (by decide) (by decide) (by omega) (fun ME hE => ?_)
  refine hE.one (k := 15) (kc_one (s := 4)) (by decide) (by decide) (by omega) (fun MF hF => ?_)
  refine hF.one (k := 16) (kc_one (s := 5)) (by decide) (by decide) (by omega) (fun MG hG => ?_)
  refine hG.one (k := 17) (kc_one (s := 6)) (by decide) (by decide) (by omega) (fun MH hH => ?_)
  refine hH.one (k := 18) (kc_one (s := 7)) (by decide) (by decide) (by omega) (fun MI hI => ?_)
  refine hI.one (k := 19) (kc_one (s := 8)) (by decide) (by decide) (by omega) (fun MJ hJ => Sp.ret hJ)
/-- being put back, up to the place off -/
def BS (b : Nat) (N : Mem) (off : Nat) (M : Mem) : Prop := M 80 31 = 0 ∧ M 80 32 = nI (b + off) ∧ (∀ k, k ≠ 31 → k ≠ 32 → (k < 11 ∨ 20 ≤ k) → M 80 k = N 80 k) ∧ (∀ q, q ≠ 80 → (q < 82 ∨ 92 ≤ q) → M q = N q) ∧ ∀ j, j < off → kc M j = N 98 (b + j)
theorem BS.row {b off a len n : Nat} {N M : Mem} (h : BS b N off M) (ha : alen a = len) (h82 : 82 ≤ a) (h92 : a < 92) (hl : len ≤ 60) (hc : b + off + len ≤ 400) (hn : 60 < n) (hk : ∀ (M' : Mem) j, j < len → kc M' (off + j) = M' a j) (hk2 : ∀ (M' M'' : Mem) j, (∀ q, q ≠ 80 → q ≠ a → M' q = M'' q) → j < off → kc M' j = kc M'' j) : Sp (s9_passes n 80 a M) (fun _ M' => BS b N (off + len) M') := by
  obtain ⟨h1, h2, h3, h4, h5⟩ := h
  unfold s9_passes
  refine (passes_back (n := n) (c := b + off) ha (by omega) (by omega) hl hc n 0 M (by omega) (by omega) h1 h2).mono ?_
  intro r M' ⟨q1, q2, q3, q4, q5⟩
  refine ⟨by rw [q2 31 (by decide)]; exact h1, by rw [q1]; rw [Nat.add_assoc], fun k k1 k2 k3 => by rw [q2 k k2]; exact h3 k k1 k2 k3, fun q e1 e2 => by rw [q3 q e1 (by omega)]; exact h4 q e1 e2, fun j hj => ?_⟩
  by_cases e : j < off
  · rw [hk2 M' M j q3 e]
    exact h5 j e
  · have e2 := q5 (j - off) (by omega) (by omega)
    have e3 := hk M' (j - off) (by omega)
    rw [show off + (j - off) = j by omega] at e3
    rw [e3, e2, h4 98 (by decide) (by omega), show b + off + (j - off) = b + j by omega]
theorem BS.one {b s n : Nat} {N M : Mem} {F : Mem → Option Res} {Q : Int32 → Mem → Prop} (h : BS b N (168 + s) M) (hs : s < 9) (hc : b + (168 + s) < 400) (kk : ∀ M', BS b N (168 + (s + 1)) M' → Sp (F M') Q) : Sp (cb (s9_passOne n 80 (M 80 (11 + s)) M) (fun r M1 => mlet (mset M1 80 (11 + s) r) F)) Q := by
  obtain ⟨h1, h2, h3, h4, h5⟩ := h
  have e1 : s9_passOne n 80 (M 80 (11 + s)) M = some (M 98 (b + (168 + s)), mset M 80 32 (nI (b + (168 + s) + 1))) := by
    unfold s9_passOne
    rw [if_pos h1, if_pos (by rw [h2]; exact vp_in_nI (by show b + (168 + s) < 400; exact hc) (by decide))]
    unfold s9_passOne_20
    rw [if_pos h1]
    unfold s9_passOne_38
    rw [mlet_e, h2, nI_clamp (by omega), show link 80 29 = 98 from rfl, nI_1]
  rw [e1, cb_some, mlet_e]
  refine kk _ ⟨?_, ?_, fun q q1 q2 q3 => ?_, fun q q1 q2 => ?_, fun j hj => ?_⟩
  · rw [ms_ne2 (by omega), ms_ne2 (by decide)]; exact h1
  · rw [ms_ne2 (by omega), ms_eq]; rfl
  · rw [ms_ne2 (by omega), ms_ne2 q2]; exact h3 q q1 q2 q3
  · rw [ms_ne q1, ms_ne q1]; exact h4 q q1 q2
  · by_cases e : j = 168 + s
    · subst e
      rw [kc_one, ms_eq, h4 98 (by decide) (by omega)]
    · rw [← h5 j (by omega)]
      unfold kc
      by_cases j1 : j < 60
      · rw [if_pos j1, if_pos j1, ms_ne (by decide), ms_ne (by decide)]
      · rw [if_neg j1, if_neg j1]
        by_cases j2 : j < 168
        · rw [if_pos j2, if_pos j2, ms_ne (by omega), ms_ne (by omega)]
        · rw [if_neg j2, if_neg j2, ms_ne2 (by omega), ms_ne2 (by omega)]
theorem kc_row2 (i : Nat) (hi : i < 9) (M' M'' : Mem) (j : Nat) (h : ∀ q, q ≠ 80 → q ≠ 83 + i → M' q = M'' q) (hj : j < 60 + 12 * i) : kc M' j = kc M'' j := by
  unfold kc
  by_cases j1 : j < 60
  · rw [if_pos j1, if_pos j1, h 82 (by decide) (by omega)]
  · rw [if_neg j1, if_neg j1, if_pos (by omega), if_pos (by omega), h _ (by omega) (by omega)]
theorem backAll {n : Nat} (hn : 60 < n) {x : Int32} {b : Nat} (hx : (200 : Int32) * x = nI b) (hb : b + 177 ≤ 400) (M : Mem) : Sp (s9_passesAll n 80 x 0 M) (fun _ M' => BS b M 177 M') := by
  unfold s9_passesAll
  rw [hx]
  refine Sp.mlet (Sp.pos (Or.inl rfl) (Sp.mlet ?_))
  have h0 : BS b M 0 (mset (mset M 80 32 (nI b)) 80 31 0) := by
    refine ⟨ms_eq, by rw [ms_ne2 (by decide), ms_eq]; rfl, fun k k1 k2 k3 => by rw [ms_ne2 k1, ms_ne2 k2], fun q q1 q2 => by rw [ms_ne q1, ms_ne q1], fun j hj => by omega⟩
  have rw_ : ∀ i, i < 9 → ∀ (M' : Mem) j, j < 12 → kc M' (60 + 12 * i + j) = M' (83 + i) j := fun i hi M' j hj => kc_row hi hj
  refine Sp.cb (h0.row (a := link 80 1) (len := 60) rfl (by decide +kernel) (by decide +kernel) (by decide) (by omega) hn (fun M' j hj => by rw [Nat.zero_add]; exact kc_chair hj) (fun _ _ j _ hj => by omega)) (fun _ M1 h1 => ?_)
  refine Sp.cb (h1.row (a := link 80 2) (len := 12) rfl (by decide +kernel) (by decide +kernel) (by decide) (by omega) hn (rw_ 0 (by decide)) (kc_row2 0 (by decide))) (fun _ M2 h2 => ?_)
  refine Sp.cb (h2.row (a := link 80 3) (len := 12) rfl (by decide +kernel) (by decide +kernel) (by decide) (by omega) hn (rw_ 1 (by decide)) (kc_row2 1 (by decide))) (fun _ M3 h3 => ?_)
  refine Sp.cb (h3.row (a := link 80 4) (len := 12) rfl (by decide +kernel) (by decide +kernel) (by decide) (by omega) hn (rw_ 2 (by decide)) (kc_row2 2 (by decide))) (fun _ M4 h4 => ?_)
  refine Sp.cb (h4.row (a := link 80 5) (len := 12) rfl (by decide +kernel) (by decide +kernel) (by decide) (by omega) hn (rw_ 3 (by decide)) (kc_row2 3 (by decide))) (fun _ M5 h5 => ?_)
  refine Sp.cb (h5.row (a := link 80 6) (len := 12) rfl (by decide +kernel) (by decide +kernel) (by decide) (by omega) hn (rw_ 4 (by decide)) (kc_row2 4 (by decide))) (fun _ M6 h6 => ?_)
  refine Sp.cb (h6.row (a := link 80 7) (len := 12) rfl (by decide +kernel) (by decide +kernel) (by decide) (by omega) hn (rw_ 5 (by decide)) (kc_row2 5 (by decide))) (fun _ M7 h7 => ?_)
  refine Sp.cb (h7.row (a := link 80 8) (len := 12) rfl (by decide +kernel) (by decide +kernel) (by decide) (by omega) hn (rw_ 6 (by decide)) (kc_row2 6 (by decide))) (fun _ M8 h8 => ?_)
  refine Sp.cb (h8.row (a := link 80 9) (len := 12) rfl (by decide +kernel) (by decide +kernel) (by decide) (by omega) hn (rw_ 7 (by decide)) (kc_row2 7 (by decide))) (fun _ M9 h9 => ?_)
  refine Sp.cb (h9.row (a := link 80 10) (len := 12) rfl (by decide +kernel) (by decide +kernel) (by decide) (by omega) hn (rw_ 8 (by decide)) (kc_row2 8 (by decide))) (fun _ MA hA => ?_)
  refine BS.one (s := 0) hA (by decide) (by omega) (fun MB hB => ?_)
  refine BS.one (s := 1) hB (by decide) (by omega) (fun MC hC => ?_)
  refine BS.one (s := 2) hC (by decide) (by omega) (fun MD hD => ?_)
  refine BS.one (s := 3) hD (by decide) (by omega) (fun ME hE => ?_)
  refine BS.one (s := 4) hE (by decide) (by omega) (fun MF hF => ?_)
  refine BS.one (s := 5) hF (by decide) (by omega) (fun MG hG => ?_)
  refine BS.one (s := 6) hG (by decide) (by omega) (fun MH hH => ?_)
  refine BS.one (s := 7) hH (by decide) (by omega) (fun MI hI => ?_)
  refine BS.one (s := 8) hI (by decide) (by omega) (fun MJ hJ => Sp.ret hJ)
