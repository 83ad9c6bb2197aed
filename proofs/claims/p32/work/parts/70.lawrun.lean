theorem off_le {L k : Nat} (h : ¬ (Int32.ofNat L - (5 : Int32) < nI k)) (hL : L < 2 ^ 30) (hk : k < 2 ^ 30) : k + 5 ≤ L := by
  have h1 : ¬ (nI L - nI 5 < nI k) := h
  rw [Int32.lt_iff_toInt_lt, pk_sub_toInt hL (by decide), nI_toInt (by omega)] at h1
  omega
theorem Ok_cb' {A B : Mem → Option Res} {M : Mem} {P : Mem → Prop} {F : Int32 → Mem → Option Res} (h : Ag M P A B) (k : ∀ r M1 M2, B M1 = some (r, M2) → P M2 → Ok (F r M1)) : Ok (cb (A M) F) := by
  obtain ⟨r, M1, M2, h1, h2, h3⟩ := h
  exact Ok.cb h1 (k r M1 M2 h2 h3)

set_option maxRecDepth 100000 in
set_option maxHeartbeats 4000000 in
theorem law_loop {xs : Nat → Int32} {L : Nat} (hL : L ≤ 2560) : ∀ (f j : Nat) (M : Mem), 5 * j ≤ L → L < 5 * (j + f) → IV M → Ok (sz_law_18 5000 L xs 0 80 f (nI (5 * j)) M) := by
  intro f
  induction f with
  | zero =>
    intro j M h1 h2 hI
    omega
  | succ f ih =>
    intro j M h1 h2 hI
    rw [sz_law_18]
    refine Ok.ite (fun _ => Ok.ret) (fun hx => ?_)
    have hL2 : L < 2 ^ 30 := by omega
    have hj : 5 * j + 5 ≤ L := off_le hx hL2 (by omega)
    have tail : ∀ M2 : Mem, IV M2 → Ok (sz_law_18 5000 L xs 0 80 f (nI (5 * j) + 5) M2) := by
      intro M2 hI2
      have e : nI (5 * j) + 5 = nI (5 * (j + 1)) := nI_add (5 * j) 5
      rw [e]
      exact ih (j + 1) M2 (by omega) (by omega) hI2
    refine Ok.pos (inB_0 hj hL2) ?_
    refine Ok.ite (fun _ => ?_) (fun _ => ?_)
    · refine Ok.pos (inB_o hj hL2 (d := 1) (by decide)) ?_
      refine Ok.pos (inB_o hj hL2 (d := 2) (by decide)) ?_
      refine Ok.pos (inB_o hj hL2 (d := 3) (by decide)) ?_
      refine Ok_cb2 (Ah_of (c_feed (by decide) hI)) (fun r r' M1 M2 e2 hP => ?_)
      refine Ok.pos (inB_o hj hL2 (d := 1) (by decide)) ?_
      refine Ok.pos (inB_o hj hL2 (d := 2) (by decide)) ?_
      refine Ok.pos (inB_o hj hL2 (d := 3) (by decide)) ?_
      refine Ok.cb e2 ?_
      exact Ok.ilet (tail M2 hP)
    refine Ok.ite (fun _ => ?_) (fun _ => ?_)
    · refine Ok_cb2 (Ah_of (c_party (by decide) hI)) (fun r r' M1 M2 e2 hP => ?_)
      refine Ok.cb e2 ?_
      exact Ok.ilet (tail M2 hP)
    refine Ok.ite (fun _ => ?_) (fun _ => ?_)
    · refine Ok.pos (inB_o hj hL2 (d := 1) (by decide)) ?_
      refine Ok_cb2 (Ah_of (c_chair (by decide) hI)) (fun r r' M1 M2 e2 hP => ?_)
      refine Ok.pos (inB_o hj hL2 (d := 1) (by decide)) ?_
      refine Ok.cb e2 ?_
      exact Ok.ilet (tail M2 hP)
    refine Ok.ite (fun _ => ?_) (fun _ => ?_)
    · refine Ok.pos (inB_o hj hL2 (d := 1) (by decide)) ?_
      refine Ok.pos (inB_o hj hL2 (d := 2) (by decide)) ?_
      refine Ok.pos (inB_o hj hL2 (d := 3) (by decide)) ?_
      refine Ok_cb2 (Ah_of (c_walker (by decide) hI)) (fun r r' M1 M2 e2 hP => ?_)
      refine Ok.pos (inB_o hj hL2 (d := 1) (by decide)) ?_
      refine Ok.pos (inB_o hj hL2 (d := 2) (by decide)) ?_
      refine Ok.pos (inB_o hj hL2 (d := 3) (by decide)) ?_
      refine Ok.cb e2 ?_
      exact Ok.ilet (tail M2 hP)
    refine Ok.ite (fun _ => ?_) (fun _ => ?_)
    · refine Ok.pos (inB_o hj hL2 (d := 1) (by decide)) ?_
      refine Ok.pos (inB_o hj hL2 (d := 2) (by decide)) ?_
      refine Ok.pos (inB_o hj hL2 (d := 3) (by decide)) ?_
      refine Ok_cb2 (Ah_of (c_set (n := 5000) hI)) (fun r r' M1 M2 e2 hP => ?_)
      refine Ok.pos (inB_o hj hL2 (d := 1) (by decide)) ?_
      refine Ok.pos (inB_o hj hL2 (d := 2) (by decide)) ?_
      refine Ok.pos (inB_o hj hL2 (d := 3) (by decide)) ?_
      refine Ok.cb e2 ?_
      exact Ok.ilet (tail M2 hP)
    refine Ok.ite (fun _ => ?_) (fun _ => ?_)
    · refine Ok.pos (inB_o hj hL2 (d := 1) (by decide)) ?_
      refine Ok.pos (inB_o hj hL2 (d := 2) (by decide)) ?_
      refine Ok_cb2 (Ah_of (c_player hI)) (fun r r' M1 M2 e2 hP => ?_)
      refine Ok.pos (inB_o hj hL2 (d := 1) (by decide)) ?_
      refine Ok.pos (inB_o hj hL2 (d := 2) (by decide)) ?_
      refine Ok.cb e2 ?_
      exact Ok.ilet (tail M2 hP)
    refine Ok.ite (fun _ => ?_) (fun _ => ?_)
    · refine Ok.pos (inB_o hj hL2 (d := 1) (by decide)) ?_
      refine Ok_cb2 (Ah_of (c_form hI)) (fun r r' M1 M2 e2 hP => ?_)
      refine Ok.pos (inB_o hj hL2 (d := 1) (by decide)) ?_
      refine Ok.cb e2 ?_
      exact Ok.ilet (tail M2 hP)
    refine Ok.ite (fun _ => ?_) (fun _ => ?_)
    · refine Ok.pos (inB_o hj hL2 (d := 1) (by decide)) ?_
      refine Ok_cb2 (Ah_of (c_seed hI)) (fun r r' M1 M2 e2 hP => ?_)
      refine Ok.pos (inB_o hj hL2 (d := 1) (by decide)) ?_
      refine Ok.cb e2 ?_
      exact Ok.ilet (tail M2 hP)
    refine Ok.ite (fun _ => ?_) (fun _ => ?_)
    · refine Ok.pos (inB_o hj hL2 (d := 1) (by decide)) ?_
      refine Ok.pos (inB_o hj hL2 (d := 2) (by decide)) ?_
      refine Ok_cb2 (Ah_of (c_of hI)) (fun r r' M1 M2 e2 hP => ?_)
      refine Ok.pos (inB_o hj hL2 (d := 1) (by decide)) ?_
      refine Ok.pos (inB_o hj hL2 (d := 2) (by decide)) ?_
      refine Ok.cb e2 ?_
      exact Ok.ilet (tail M2 hP)
    refine Ok.ite (fun _ => ?_) (fun _ => ?_)
    · refine Ok.pos (inB_o hj hL2 (d := 1) (by decide)) ?_
      refine Ok_cb2 (Ah_of (c_has hI)) (fun r r' M1 M2 e2 hP => ?_)
      refine Ok.pos (inB_o hj hL2 (d := 1) (by decide)) ?_
      refine Ok.cb e2 ?_
      exact Ok.ilet (tail M2 hP)
    refine Ok.ite (fun _ => ?_) (fun _ => ?_)
    · refine Ok.pos (inB_o hj hL2 (d := 1) (by decide)) ?_
      refine Ok.pos (inB_o hj hL2 (d := 2) (by decide)) ?_
      refine Ok_cb2 (Ah_of (c_haste hI)) (fun r r' M1 M2 e2 hP => ?_)
      refine Ok.pos (inB_o hj hL2 (d := 1) (by decide)) ?_
      refine Ok.pos (inB_o hj hL2 (d := 2) (by decide)) ?_
      refine Ok.cb e2 ?_
      exact Ok.ilet (tail M2 hP)
    refine Ok.ite (fun _ => ?_) (fun _ => ?_)
    · refine Ok.pos (inB_o hj hL2 (d := 1) (by decide)) ?_
      refine Ok_cb2 (Ah_of (c_go (by decide) hI)) (fun r r' M1 M2 e2 hP => ?_)
      refine Ok.pos (inB_o hj hL2 (d := 1) (by decide)) ?_
      refine Ok.cb e2 ?_
      exact Ok.ilet (tail M2 hP)
    refine Ok.ite (fun _ => ?_) (fun _ => ?_)
    · refine Ok_cb2 (Ah_of (c_stop (by decide) hI)) (fun r r' M1 M2 e2 hP => ?_)
      refine Ok.cb e2 ?_
      exact Ok.ilet (tail M2 hP)
    refine Ok.ite (fun _ => ?_) (fun _ => ?_)
    · refine Ok.pos (inB_o hj hL2 (d := 1) (by decide)) ?_
      refine Ok_cb2 (Ah_of (c_sits (by decide) hI)) (fun r r' M1 M2 e2 hP => ?_)
      refine Ok.pos (inB_o hj hL2 (d := 1) (by decide)) ?_
      refine Ok.cb e2 ?_
      exact Ok.ilet (tail M2 hP)
    refine Ok.ite (fun _ => ?_) (fun _ => ?_)
    · refine Ok.pos (inB_o hj hL2 (d := 1) (by decide)) ?_
      refine Ok_cb2 (c_would (by decide) hI) (fun r r' M1 M2 e2 hP => ?_)
      refine Ok.pos (inB_o hj hL2 (d := 1) (by decide)) ?_
      refine Ok.cb e2 ?_
      exact Ok.ilet (tail M2 hP)
    refine Ok.ite (fun _ => ?_) (fun _ => ?_)
    · refine Ok.pos (inB_o hj hL2 (d := 1) (by decide)) ?_
      refine Ok.pos (inB_o hj hL2 (d := 2) (by decide)) ?_
      refine Ok_cb2 (Ah_of (c_odds (by decide) hI)) (fun r r' M1 M2 e2 hP => ?_)
      refine Ok.pos (inB_o hj hL2 (d := 1) (by decide)) ?_
      refine Ok.pos (inB_o hj hL2 (d := 2) (by decide)) ?_
      refine Ok.cb e2 ?_
      exact Ok.ilet (tail M2 hP)
    refine Ok.ite (fun _ => ?_) (fun _ => ?_)
    · refine Ok.pos (inB_o hj hL2 (d := 1) (by decide)) ?_
      refine Ok_cb2 (Ah_of (c_fair (by decide) hI)) (fun r r' M1 M2 e2 hP => ?_)
      refine Ok.pos (inB_o hj hL2 (d := 1) (by decide)) ?_
      refine Ok.cb e2 ?_
      exact Ok.ilet (tail M2 hP)
    refine Ok.ite (fun _ => ?_) (fun _ => ?_)
    · refine Ok.pos (inB_o hj hL2 (d := 1) (by decide)) ?_
      refine Ok.pos (inB_o hj hL2 (d := 2) (by decide)) ?_
      refine Ok_cb2 (c_bestSlow (by decide) hI) (fun r r' M1 M2 e2 hP => ?_)
      refine Ok.pos (inB_o hj hL2 (d := 1) (by decide)) ?_
      refine Ok.pos (inB_o hj hL2 (d := 2) (by decide)) ?_
      refine Ok.cb e2 ?_
      exact Ok.ilet (tail M2 hP)
    refine Ok.ite (fun _ => ?_) (fun _ => ?_)
    · refine Ok.pos (inB_o hj hL2 (d := 1) (by decide)) ?_
      refine Ok.pos (inB_o hj hL2 (d := 2) (by decide)) ?_
      refine Ok_cb2 (c_cheat (by decide) hI) (fun r r' M1 M2 e2 hP => ?_)
      refine Ok.pos (inB_o hj hL2 (d := 1) (by decide)) ?_
      refine Ok.pos (inB_o hj hL2 (d := 2) (by decide)) ?_
      refine Ok.cb e2 ?_
      exact Ok.ilet (tail M2 hP)
    refine Ok.ite (fun _ => ?_) (fun _ => ?_)
    · refine Ok.pos (inB_o hj hL2 (d := 1) (by decide)) ?_
      refine Ok_cb2 (Ah_of (c_lasts (by decide) hI)) (fun r r' M1 M2 e2 hP => ?_)
      refine Ok.pos (inB_o hj hL2 (d := 1) (by decide)) ?_
      refine Ok.cb e2 ?_
      exact Ok.ilet (tail M2 hP)
    refine Ok.ite (fun _ => ?_) (fun _ => ?_)
    · refine Ok.pos (inB_o hj hL2 (d := 1) (by decide)) ?_
      refine Ok.pos (inB_o hj hL2 (d := 2) (by decide)) ?_
      refine Ok.pos (inB_o hj hL2 (d := 3) (by decide)) ?_
      refine Ok_cb2 (Ah_of (c_wins (by decide) hI)) (fun r r' M1 M2 e2 hP => ?_)
      refine Ok.pos (inB_o hj hL2 (d := 1) (by decide)) ?_
      refine Ok.pos (inB_o hj hL2 (d := 2) (by decide)) ?_
      refine Ok.pos (inB_o hj hL2 (d := 3) (by decide)) ?_
      refine Ok.cb e2 ?_
      exact Ok.ilet (tail M2 hP)
    refine Ok.ite (fun _ => ?_) (fun _ => ?_)
    · refine Ok.pos (inB_o hj hL2 (d := 1) (by decide)) ?_
      refine Ok.pos (inB_o hj hL2 (d := 2) (by decide)) ?_
      refine Ok_cb2 (Ah_of (c_fairest (by decide) hI)) (fun r r' M1 M2 e2 hP => ?_)
      refine Ok.pos (inB_o hj hL2 (d := 1) (by decide)) ?_
      refine Ok.pos (inB_o hj hL2 (d := 2) (by decide)) ?_
      refine Ok.cb e2 ?_
      exact Ok.ilet (tail M2 hP)
    refine Ok.ite (fun _ => ?_) (fun _ => ?_)
    · refine Ok_cb2 (Ah_of (c_shortest (by decide) hI)) (fun r r' M1 M2 e2 hP => ?_)
      refine Ok.cb e2 ?_
      exact Ok.ilet (tail M2 hP)
    refine Ok.ite (fun _ => ?_) (fun _ => ?_)
    · refine Ok.pos (inB_o hj hL2 (d := 1) (by decide)) ?_
      refine Ok_cb2 (Ah_of (c_row hI)) (fun r r' M1 M2 e2 hP => ?_)
      refine Ok.pos (inB_o hj hL2 (d := 1) (by decide)) ?_
      refine Ok.cb e2 ?_
      exact Ok.ilet (tail M2 hP)
    refine Ok.ite (fun _ => ?_) (fun _ => ?_)
    · refine Ok_cb2 (Ah_of (c_could (by decide) hI)) (fun r r' M1 M2 e2 hP => ?_)
      refine Ok.cb e2 ?_
      exact Ok.ilet (tail M2 hP)
    refine Ok.ite (fun _ => ?_) (fun _ => ?_)
    · refine Ok.pos (inB_o hj hL2 (d := 1) (by decide)) ?_
      refine Ok_cb2 (Ah_of (c_next (by decide) hI)) (fun r r' M1 M2 e2 hP => ?_)
      refine Ok.pos (inB_o hj hL2 (d := 1) (by decide)) ?_
      refine Ok.cb e2 ?_
      exact Ok.ilet (tail M2 hP)
    refine Ok.ite (fun _ => ?_) (fun _ => ?_)
    · refine Ok.pos (inB_o hj hL2 (d := 1) (by decide)) ?_
      refine Ok.pos (inB_o hj hL2 (d := 2) (by decide)) ?_
      refine Ok.pos (inB_o hj hL2 (d := 3) (by decide)) ?_
      refine Ok.pos (inB_o hj hL2 (d := 4) (by decide)) ?_
      refine Ok_cb2 (Ah_of (c_team (by decide) hI)) (fun r r' M1 M2 e2 hP => ?_)
      refine Ok.pos (inB_o hj hL2 (d := 1) (by decide)) ?_
      refine Ok.pos (inB_o hj hL2 (d := 2) (by decide)) ?_
      refine Ok.pos (inB_o hj hL2 (d := 3) (by decide)) ?_
      refine Ok.pos (inB_o hj hL2 (d := 4) (by decide)) ?_
      refine Ok.cb e2 ?_
      exact Ok.ilet (tail M2 hP)
    refine Ok.ite (fun _ => ?_) (fun _ => ?_)
    · refine Ok.pos (inB_o hj hL2 (d := 1) (by decide)) ?_
      refine Ok_cb2 (Ah_of (c_film hI)) (fun r r' M1 M2 e2 hP => ?_)
      refine Ok.pos (inB_o hj hL2 (d := 1) (by decide)) ?_
      refine Ok.cb e2 ?_
      exact Ok.ilet (tail M2 hP)
    refine Ok.ite (fun _ => ?_) (fun _ => ?_)
    · refine Ok.pos (inB_o hj hL2 (d := 1) (by decide)) ?_
      refine Ok_cb2 (Ah_of (c_judge (by decide) hI)) (fun r r' M1 M2 e2 hP => ?_)
      refine Ok.pos (inB_o hj hL2 (d := 1) (by decide)) ?_
      refine Ok.cb e2 ?_
      exact Ok.ilet (tail M2 hP)
    refine Ok.ite (fun _ => ?_) (fun _ => ?_)
    · refine Ok_cb2 (Ah_of (c_image (by decide) hI)) (fun r r' M1 M2 e2 hP => ?_)
      refine Ok.cb e2 ?_
      exact Ok.ilet (tail M2 hP)
    refine Ok.ite (fun _ => ?_) (fun _ => ?_)
    · refine Ok_cb' (c_restore (by decide) hI) (fun r M1 M2 e2 hP => ?_)
      refine Ok.cb e2 ?_
      refine Ok.pos rfl ?_
      exact Ok.ilet (tail M2 hP)
    refine Ok.ite (fun _ => ?_) (fun _ => ?_)
    · refine Ok.pos (inB_o hj hL2 (d := 1) (by decide)) ?_
      refine Ok_cb2 (c_count (by decide) hI) (fun r r' M1 M2 e2 hP => ?_)
      refine Ok.pos (inB_o hj hL2 (d := 1) (by decide)) ?_
      refine Ok.cb e2 ?_
      exact Ok.ilet (tail M2 hP)
    exact Ok.ilet (tail M hI)
theorem law_pure (xs : Nat → Int32) (L : Nat) (hL : L ≤ 2560) : ∃ (n : Nat) (M : Mem), sz_law_18 n L xs 0 80 n 0 M0 = some (1, M) := by
  obtain ⟨M, h⟩ := law_loop (xs := xs) hL 5000 0 M0 (by omega) (by omega) IV_0
  exact ⟨5000, M, h⟩
