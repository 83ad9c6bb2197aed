theorem off_le {L k : Nat} (h : ¬ (Int32.ofNat L - (5 : Int32) < nI k)) (hL : L < 2 ^ 30) (hk : k < 2 ^ 30) : k + 5 ≤ L := by
  have h1 : ¬ (nI L - nI 5 < nI k) := h
  rw [Int32.lt_iff_toInt_lt, pk_sub_toInt hL (by decide), nI_toInt (by omega)] at h1
  omega
theorem Ok_cb' {A B : Mem → Option Res} {M : Mem} {P : Mem → Prop} {F : Int32 → Mem → Option Res} (h : Ag M P A B) (k : ∀ r M1 M2, B M1 = some (r, M2) → P M2 → Ok (F r M1)) : Ok (cb (A M) F) := by
  obtain ⟨r, M1, M2, h1, h2, h3⟩ := h
  exact Ok.cb h1 (k r M1 M2 h2 h3)

set_option maxRecDepth 100000 in
set_option maxHeartbeats 4000000 in
theorem law_loop {xs : Nat → Int32} {L : Nat} (hL : L ≤ 5) : ∀ (f j : Nat) (M : Mem), 5 * j ≤ L → L < 5 * (j + f) → (j = 0 → M = M0) → Ok (sz_law_18 300 L xs 0 80 f (nI (5 * j)) M) := by
  intro f
  induction f with
  | zero =>
    intro j M h1 h2 hI
    omega
  | succ f ih =>
    intro j M h1 h2 hI
    rw [sz_law_18]
    refine Ok.ite (fun _ => Ok.ret) (fun hx => ?_)
    have hL2 : L < 2 ^ 30 := by omega
    have hj : 5 * j + 5 ≤ L := off_le hx hL2 (by omega)
    have tail : ∀ M2 : Mem, True → Ok (sz_law_18 300 L xs 0 80 f (nI (5 * j) + 5) M2) := by
      intro M2 hI2
      have e : nI (5 * j) + 5 = nI (5 * (j + 1)) := nI_add (5 * j) 5
      rw [e]
      exact ih (j + 1) M2 (by omega) (by omega) (fun h => by omega)
    obtain rfl : j = 0 := by omega
    obtain rfl := hI rfl
    refine Ok.pos (inB_0 hj hL2) ?_
    refine Ok.ite (fun _ => ?_) (fun _ => ?_)
    · refine Ok.pos (inB_o hj hL2 (d := 1) (by decide)) ?_
      refine Ok.pos (inB_o hj hL2 (d := 2) (by decide)) ?_
      refine Ok.pos (inB_o hj hL2 (d := 3) (by decide)) ?_
      refine Ok_cb' (B_feed _ _) (fun r M1 M2 e2 hP => ?_)
      refine Ok.pos (inB_o hj hL2 (d := 1) (by decide)) ?_
      refine Ok.pos (inB_o hj hL2 (d := 2) (by decide)) ?_
      refine Ok.pos (inB_o hj hL2 (d := 3) (by decide)) ?_
      refine Ok.cb e2 ?_
      refine Ok.pos rfl ?_
      exact Ok.ilet (tail M2 trivial)
    refine Ok.ite (fun _ => ?_) (fun _ => ?_)
    · refine Ok_cb' (B_party) (fun r M1 M2 e2 hP => ?_)
      refine Ok.cb e2 ?_
      refine Ok.pos rfl ?_
      exact Ok.ilet (tail M2 trivial)
    refine Ok.ite (fun _ => ?_) (fun _ => ?_)
    · refine Ok.pos (inB_o hj hL2 (d := 1) (by decide)) ?_
      refine Ok_cb' (B_chair _) (fun r M1 M2 e2 hP => ?_)
      refine Ok.pos (inB_o hj hL2 (d := 1) (by decide)) ?_
      refine Ok.cb e2 ?_
      refine Ok.pos rfl ?_
      exact Ok.ilet (tail M2 trivial)
    refine Ok.ite (fun _ => ?_) (fun _ => ?_)
    · refine Ok.pos (inB_o hj hL2 (d := 1) (by decide)) ?_
      refine Ok.pos (inB_o hj hL2 (d := 2) (by decide)) ?_
      refine Ok.pos (inB_o hj hL2 (d := 3) (by decide)) ?_
      refine Ok_cb' (B_walker _ _ _) (fun r M1 M2 e2 hP => ?_)
      refine Ok.pos (inB_o hj hL2 (d := 1) (by decide)) ?_
      refine Ok.pos (inB_o hj hL2 (d := 2) (by decide)) ?_
      refine Ok.pos (inB_o hj hL2 (d := 3) (by decide)) ?_
      refine Ok.cb e2 ?_
      refine Ok.pos rfl ?_
      exact Ok.ilet (tail M2 trivial)
    refine Ok.ite (fun _ => ?_) (fun _ => ?_)
    · refine Ok.pos (inB_o hj hL2 (d := 1) (by decide)) ?_
      refine Ok.pos (inB_o hj hL2 (d := 2) (by decide)) ?_
      refine Ok.pos (inB_o hj hL2 (d := 3) (by decide)) ?_
      refine Ok_cb' (B_set _ _ _) (fun r M1 M2 e2 hP => ?_)
      refine Ok.pos (inB_o hj hL2 (d := 1) (by decide)) ?_
      refine Ok.pos (inB_o hj hL2 (d := 2) (by decide)) ?_
      refine Ok.pos (inB_o hj hL2 (d := 3) (by decide)) ?_
      refine Ok.cb e2 ?_
      refine Ok.pos rfl ?_
      exact Ok.ilet (tail M2 trivial)
    refine Ok.ite (fun _ => ?_) (fun _ => ?_)
    · refine Ok.pos (inB_o hj hL2 (d := 1) (by decide)) ?_
      refine Ok.pos (inB_o hj hL2 (d := 2) (by decide)) ?_
      refine Ok_cb' (B_player _ _) (fun r M1 M2 e2 hP => ?_)
      refine Ok.pos (inB_o hj hL2 (d := 1) (by decide)) ?_
      refine Ok.pos (inB_o hj hL2 (d := 2) (by decide)) ?_
      refine Ok.cb e2 ?_
      refine Ok.pos rfl ?_
      exact Ok.ilet (tail M2 trivial)
    refine Ok.ite (fun _ => ?_) (fun _ => ?_)
    · refine Ok.pos (inB_o hj hL2 (d := 1) (by decide)) ?_
      refine Ok_cb' (B_form _) (fun r M1 M2 e2 hP => ?_)
      refine Ok.pos (inB_o hj hL2 (d := 1) (by decide)) ?_
      refine Ok.cb e2 ?_
      refine Ok.pos rfl ?_
      exact Ok.ilet (tail M2 trivial)
    refine Ok.ite (fun _ => ?_) (fun _ => ?_)
    · refine Ok.pos (inB_o hj hL2 (d := 1) (by decide)) ?_
      refine Ok_cb' (B_seed _) (fun r M1 M2 e2 hP => ?_)
      refine Ok.pos (inB_o hj hL2 (d := 1) (by decide)) ?_
      refine Ok.cb e2 ?_
      refine Ok.pos rfl ?_
      exact Ok.ilet (tail M2 trivial)
    refine Ok.ite (fun _ => ?_) (fun _ => ?_)
    · refine Ok.pos (inB_o hj hL2 (d := 1) (by decide)) ?_
      refine Ok.pos (inB_o hj hL2 (d := 2) (by decide)) ?_
      refine Ok_cb' (B_of _ _) (fun r M1 M2 e2 hP => ?_)
      refine Ok.pos (inB_o hj hL2 (d := 1) (by decide)) ?_
      refine Ok.pos (inB_o hj hL2 (d := 2) (by decide)) ?_
      refine Ok.cb e2 ?_
      refine Ok.pos rfl ?_
      exact Ok.ilet (tail M2 trivial)
    refine Ok.ite (fun _ => ?_) (fun _ => ?_)
    · refine Ok.pos (inB_o hj hL2 (d := 1) (by decide)) ?_
      refine Ok_cb' (B_has _) (fun r M1 M2 e2 hP => ?_)
      refine Ok.pos (inB_o hj hL2 (d := 1) (by decide)) ?_
      refine Ok.cb e2 ?_
      refine Ok.pos rfl ?_
      exact Ok.ilet (tail M2 trivial)
    refine Ok.ite (fun _ => ?_) (fun _ => ?_)
    · refine Ok.pos (inB_o hj hL2 (d := 1) (by decide)) ?_
      refine Ok.pos (inB_o hj hL2 (d := 2) (by decide)) ?_
      refine Ok_cb' (B_haste _ _) (fun r M1 M2 e2 hP => ?_)
      refine Ok.pos (inB_o hj hL2 (d := 1) (by decide)) ?_
      refine Ok.pos (inB_o hj hL2 (d := 2) (by decide)) ?_
      refine Ok.cb e2 ?_
      refine Ok.pos rfl ?_
      exact Ok.ilet (tail M2 trivial)
    refine Ok.ite (fun _ => ?_) (fun _ => ?_)
    · refine Ok.pos (inB_o hj hL2 (d := 1) (by decide)) ?_
      refine Ok_cb' (B_go _) (fun r M1 M2 e2 hP => ?_)
      refine Ok.pos (inB_o hj hL2 (d := 1) (by decide)) ?_
      refine Ok.cb e2 ?_
      refine Ok.pos rfl ?_
      exact Ok.ilet (tail M2 trivial)
    refine Ok.ite (fun _ => ?_) (fun _ => ?_)
    · refine Ok_cb' (B_stop) (fun r M1 M2 e2 hP => ?_)
      refine Ok.cb e2 ?_
      refine Ok.pos rfl ?_
      exact Ok.ilet (tail M2 trivial)
    refine Ok.ite (fun _ => ?_) (fun _ => ?_)
    · refine Ok.pos (inB_o hj hL2 (d := 1) (by decide)) ?_
      refine Ok_cb' (B_sits _) (fun r M1 M2 e2 hP => ?_)
      refine Ok.pos (inB_o hj hL2 (d := 1) (by decide)) ?_
      refine Ok.cb e2 ?_
      refine Ok.pos rfl ?_
      exact Ok.ilet (tail M2 trivial)
    refine Ok.ite (fun _ => ?_) (fun _ => ?_)
    · refine Ok.pos (inB_o hj hL2 (d := 1) (by decide)) ?_
      refine Ok_cb' (B_would _) (fun r M1 M2 e2 hP => ?_)
      refine Ok.pos (inB_o hj hL2 (d := 1) (by decide)) ?_
      refine Ok.cb e2 ?_
      refine Ok.pos rfl ?_
      exact Ok.ilet (tail M2 trivial)
    refine Ok.ite (fun _ => ?_) (fun _ => ?_)
    · refine Ok.pos (inB_o hj hL2 (d := 1) (by decide)) ?_
      refine Ok.pos (inB_o hj hL2 (d := 2) (by decide)) ?_
      refine Ok_cb' (B_odds _ _) (fun r M1 M2 e2 hP => ?_)
      refine Ok.pos (inB_o hj hL2 (d := 1) (by decide)) ?_
      refine Ok.pos (inB_o hj hL2 (d := 2) (by decide)) ?_
      refine Ok.cb e2 ?_
      refine Ok.pos rfl ?_
      exact Ok.ilet (tail M2 trivial)
    refine Ok.ite (fun _ => ?_) (fun _ => ?_)
    · refine Ok.pos (inB_o hj hL2 (d := 1) (by decide)) ?_
      refine Ok_cb' (B_fair _) (fun r M1 M2 e2 hP => ?_)
      refine Ok.pos (inB_o hj hL2 (d := 1) (by decide)) ?_
      refine Ok.cb e2 ?_
      refine Ok.pos rfl ?_
      exact Ok.ilet (tail M2 trivial)
    refine Ok.ite (fun _ => ?_) (fun _ => ?_)
    · refine Ok.pos (inB_o hj hL2 (d := 1) (by decide)) ?_
      refine Ok.pos (inB_o hj hL2 (d := 2) (by decide)) ?_
      refine Ok_cb' (B_bestSlow _ _) (fun r M1 M2 e2 hP => ?_)
      refine Ok.pos (inB_o hj hL2 (d := 1) (by decide)) ?_
      refine Ok.pos (inB_o hj hL2 (d := 2) (by decide)) ?_
      refine Ok.cb e2 ?_
      refine Ok.pos rfl ?_
      exact Ok.ilet (tail M2 trivial)
    refine Ok.ite (fun _ => ?_) (fun _ => ?_)
    · refine Ok.pos (inB_o hj hL2 (d := 1) (by decide)) ?_
      refine Ok.pos (inB_o hj hL2 (d := 2) (by decide)) ?_
      refine Ok_cb' (B_cheat _ _) (fun r M1 M2 e2 hP => ?_)
      refine Ok.pos (inB_o hj hL2 (d := 1) (by decide)) ?_
      refine Ok.pos (inB_o hj hL2 (d := 2) (by decide)) ?_
      refine Ok.cb e2 ?_
      refine Ok.pos rfl ?_
      exact Ok.ilet (tail M2 trivial)
    refine Ok.ite (fun _ => ?_) (fun _ => ?_)
    · refine Ok.pos (inB_o hj hL2 (d := 1) (by decide)) ?_
      refine Ok_cb' (B_lasts _) (fun r M1 M2 e2 hP => ?_)
      refine Ok.pos (inB_o hj hL2 (d := 1) (by decide)) ?_
      refine Ok.cb e2 ?_
      refine Ok.pos rfl ?_
      exact Ok.ilet (tail M2 trivial)
    refine Ok.ite (fun _ => ?_) (fun _ => ?_)
    · refine Ok.pos (inB_o hj hL2 (d := 1) (by decide)) ?_
      refine Ok.pos (inB_o hj hL2 (d := 2) (by decide)) ?_
      refine Ok.pos (inB_o hj hL2 (d := 3) (by decide)) ?_
      refine Ok_cb' (B_wins _ _ _) (fun r M1 M2 e2 hP => ?_)
      refine Ok.pos (inB_o hj hL2 (d := 1) (by decide)) ?_
      refine Ok.pos (inB_o hj hL2 (d := 2) (by decide)) ?_
      refine Ok.pos (inB_o hj hL2 (d := 3) (by decide)) ?_
      refine Ok.cb e2 ?_
      refine Ok.pos rfl ?_
      exact Ok.ilet (tail M2 trivial)
    refine Ok.ite (fun _ => ?_) (fun _ => ?_)
    · refine Ok.pos (inB_o hj hL2 (d := 1) (by decide)) ?_
      refine Ok.pos (inB_o hj hL2 (d := 2) (by decide)) ?_
      refine Ok_cb' (B_fairest _ _) (fun r M1 M2 e2 hP => ?_)
      refine Ok.pos (inB_o hj hL2 (d := 1) (by decide)) ?_
      refine Ok.pos (inB_o hj hL2 (d := 2) (by decide)) ?_
      refine Ok.cb e2 ?_
      refine Ok.pos rfl ?_
      exact Ok.ilet (tail M2 trivial)
    refine Ok.ite (fun _ => ?_) (fun _ => ?_)
    · refine Ok_cb' (B_shortest) (fun r M1 M2 e2 hP => ?_)
      refine Ok.cb e2 ?_
      refine Ok.pos rfl ?_
      exact Ok.ilet (tail M2 trivial)
    refine Ok.ite (fun _ => ?_) (fun _ => ?_)
    · refine Ok.pos (inB_o hj hL2 (d := 1) (by decide)) ?_
      refine Ok_cb' (B_row _) (fun r M1 M2 e2 hP => ?_)
      refine Ok.pos (inB_o hj hL2 (d := 1) (by decide)) ?_
      refine Ok.cb e2 ?_
      refine Ok.pos rfl ?_
      exact Ok.ilet (tail M2 trivial)
    refine Ok.ite (fun _ => ?_) (fun _ => ?_)
    · refine Ok_cb' (B_could) (fun r M1 M2 e2 hP => ?_)
      refine Ok.cb e2 ?_
      refine Ok.pos rfl ?_
      exact Ok.ilet (tail M2 trivial)
    refine Ok.ite (fun _ => ?_) (fun _ => ?_)
    · refine Ok.pos (inB_o hj hL2 (d := 1) (by decide)) ?_
      refine Ok_cb' (B_next _) (fun r M1 M2 e2 hP => ?_)
      refine Ok.pos (inB_o hj hL2 (d := 1) (by decide)) ?_
      refine Ok.cb e2 ?_
      refine Ok.pos rfl ?_
      exact Ok.ilet (tail M2 trivial)
    refine Ok.ite (fun _ => ?_) (fun _ => ?_)
    · refine Ok.pos (inB_o hj hL2 (d := 1) (by decide)) ?_
      refine Ok.pos (inB_o hj hL2 (d := 2) (by decide)) ?_
      refine Ok.pos (inB_o hj hL2 (d := 3) (by decide)) ?_
      refine Ok.pos (inB_o hj hL2 (d := 4) (by decide)) ?_
      refine Ok_cb' (B_team _ _ _ _) (fun r M1 M2 e2 hP => ?_)
      refine Ok.pos (inB_o hj hL2 (d := 1) (by decide)) ?_
      refine Ok.pos (inB_o hj hL2 (d := 2) (by decide)) ?_
      refine Ok.pos (inB_o hj hL2 (d := 3) (by decide)) ?_
      refine Ok.pos (inB_o hj hL2 (d := 4) (by decide)) ?_
      refine Ok.cb e2 ?_
      refine Ok.pos rfl ?_
      exact Ok.ilet (tail M2 trivial)
    refine Ok.ite (fun _ => ?_) (fun _ => ?_)
    · refine Ok.pos (inB_o hj hL2 (d := 1) (by decide)) ?_
      refine Ok_cb' (B_film _) (fun r M1 M2 e2 hP => ?_)
      refine Ok.pos (inB_o hj hL2 (d := 1) (by decide)) ?_
      refine Ok.cb e2 ?_
      refine Ok.pos rfl ?_
      exact Ok.ilet (tail M2 trivial)
    refine Ok.ite (fun _ => ?_) (fun _ => ?_)
    · refine Ok.pos (inB_o hj hL2 (d := 1) (by decide)) ?_
      refine Ok_cb' (B_judge _) (fun r M1 M2 e2 hP => ?_)
      refine Ok.pos (inB_o hj hL2 (d := 1) (by decide)) ?_
      refine Ok.cb e2 ?_
      refine Ok.pos rfl ?_
      exact Ok.ilet (tail M2 trivial)
    refine Ok.ite (fun _ => ?_) (fun _ => ?_)
    · refine Ok_cb' (B_image) (fun r M1 M2 e2 hP => ?_)
      refine Ok.cb e2 ?_
      refine Ok.pos rfl ?_
      exact Ok.ilet (tail M2 trivial)
    refine Ok.ite (fun _ => ?_) (fun _ => ?_)
    · refine Ok_cb' (B_restore) (fun r M1 M2 e2 hP => ?_)
      refine Ok.cb e2 ?_
      refine Ok.pos rfl ?_
      exact Ok.ilet (tail M2 trivial)
    refine Ok.ite (fun _ => ?_) (fun _ => ?_)
    · refine Ok.pos (inB_o hj hL2 (d := 1) (by decide)) ?_
      refine Ok_cb' (B_count _) (fun r M1 M2 e2 hP => ?_)
      refine Ok.pos (inB_o hj hL2 (d := 1) (by decide)) ?_
      refine Ok.cb e2 ?_
      refine Ok.pos rfl ?_
      exact Ok.ilet (tail M2 trivial)
    exact Ok.ilet (tail M0 trivial)
theorem law_pure (xs : Nat → Int32) (L : Nat) (hL : L ≤ 5) : ∃ (n : Nat) (M : Mem), sz_law_18 n L xs 0 80 n 0 M0 = some (1, M) := by
  obtain ⟨M, h⟩ := law_loop (xs := xs) hL 300 0 M0 (by omega) (by omega) (fun _ => rfl)
  exact ⟨300, M, h⟩
