abbrev rm8_lasts : Room := { frames := 6, cells := 0, slots := 0, locals := 135 }
def s8_lasts (n : Nat) (o0 : Nat) (x1 : Int32) (M : Mem) : Option Res := if x1 < 0 then (cb (s8_refuse o0 (2 : Int32) M) (fun r2 M1 => some (r2, M1))) else (if x1 ≤ (2 : Int32) then (cb (s2_canGoOn n (link o0 1) M) (fun r4 M3 => if r4 = 0 then (cb (s8_refuse o0 (3 : Int32) M3) (fun r6 M5 => some (r6, M5))) else (cb (s0_partyAhead n (link o0 0) x1 M3) (fun r8 M7 => some (r8, M7))))) else (cb (s8_refuse o0 (2 : Int32) M) (fun r10 M9 => some (r10, M9))))
set_option maxRecDepth 100000 in
set_option maxHeartbeats 4000000 in
theorem b8_lasts {w : WE} {g : GT} (C : CT w g RX8 cX8_lasts rm8_lasts 2) (RT : RTi w g cX8_lasts .int) (n : Nat) (o0 : Nat) (h0 : typ o0 = 8) (x1 : Int32) (M : Mem) : J w g (s8_lasts n o0 x1 M) M 0 [(0, .ref (wa w o0)), (1, .int x1)] [] := by
  rw [s8_lasts]
  refine J_iload_n C dX8_lasts_0 rfl 1 rfl ?_
  refine J_if_lt (tgt := 9) C dX8_lasts_1 (by decide) (fun _ => ?_) (fun _ => ?_)
  · refine J_aload_n C dX8_lasts_9 rfl 0 rfl ?_
    refine J_iconst C dX8_lasts_10 kci_2 ?_
    refine J_cvi (As := [.int (2 : Int32)]) C (c8_refuse (gl g) w o0 h0 (2 : Int32) M) (gd_v W2_66 W2_68 WP_0 W1_1 W2_69) rfl (by decide) (hdX8_refuse) h0 (by decide) (cl_8) rfl (Nat.le_of_ble_eq_true rfl) dX8_lasts_11 rfl (fun r2 M1 => ?_)
    exact J_iret C RT rfl dX8_lasts_14
  · refine J_iload_n C dX8_lasts_4 rfl 1 rfl ?_
    refine J_iconst C dX8_lasts_5 kci_2 ?_
    refine J_icmp_le (tgt := 15) C dX8_lasts_6 (by decide) (fun _ => ?_) (fun _ => ?_)
    · refine J_aload_n C dX8_lasts_15 rfl 0 rfl ?_
      refine J_getr C fk8_1 W2_38 h0 dX8_lasts_16 ?_
      refine J_cvi (As := []) C (c2_canGoOn (gl g) w n (link o0 1) (tl_8_1 h0) M) (gd_v W3_101 W3_102 W3_103 W1_3 W3_104) rfl (by decide) (hdX2_canGoOn) (tl_8_1 h0) (by decide) (cl_2) rfl (Nat.le_of_ble_eq_true rfl) dX8_lasts_19 rfl (fun r4 M3 => ?_)
      refine J_if_eq (tgt := 36) C dX8_lasts_22 (by decide) (fun _ => ?_) (fun _ => ?_)
      · refine J_aload_n C dX8_lasts_36 rfl 0 rfl ?_
        refine J_iconst C dX8_lasts_37 kci_3 ?_
        refine J_cvi (As := [.int (3 : Int32)]) C (c8_refuse (gl g) w o0 h0 (3 : Int32) M3) (gd_v W2_66 W2_68 WP_0 W1_1 W2_69) rfl (by decide) (hdX8_refuse) h0 (by decide) (cl_8) rfl (Nat.le_of_ble_eq_true rfl) dX8_lasts_38 rfl (fun r6 M5 => ?_)
        exact J_iret C RT rfl dX8_lasts_41
      · refine J_aload_n C dX8_lasts_25 rfl 0 rfl ?_
        refine J_getr C fk8_0 W2_37 h0 dX8_lasts_26 ?_
        refine J_iload_n C dX8_lasts_29 rfl 1 rfl ?_
        refine J_cvi (As := [.int x1]) C (c0_partyAhead (gl g) w n (link o0 0) (tl_8_0 h0) x1 M3) (gd_v W4_41 W4_42 W4_43 W1_2 W4_44) rfl (by decide) (hdX0_partyAhead) (tl_8_0 h0) (by decide) (cl_0) rfl (Nat.le_of_ble_eq_true rfl) dX8_lasts_30 rfl (fun r8 M7 => ?_)
        refine J_goto (tgt := 41) C dX8_lasts_33 (by decide) ?_
        exact J_iret C RT rfl dX8_lasts_41
    · refine J_aload_n C dX8_lasts_9 rfl 0 rfl ?_
      refine J_iconst C dX8_lasts_10 kci_2 ?_
      refine J_cvi (As := [.int (2 : Int32)]) C (c8_refuse (gl g) w o0 h0 (2 : Int32) M) (gd_v W2_66 W2_68 WP_0 W1_1 W2_69) rfl (by decide) (hdX8_refuse) h0 (by decide) (cl_8) rfl (Nat.le_of_ble_eq_true rfl) dX8_lasts_11 rfl (fun r10 M9 => ?_)
      exact J_iret C RT rfl dX8_lasts_14
theorem c8_lasts (l : Launch) (w : WE) (n : Nat) (o0 : Nat) (h0 : typ o0 = 8) (x1 : Int32) (M : Mem) : MC l w yX8_lasts (wz yX8_lasts cX8_lasts 2 (some .int)) rm8_lasts [.ref (wa w o0), .int x1] (s8_lasts n o0 x1 M) M :=
  mc_of_J (own := RX8) rfl (by decide) rfl rfl (Nat.le_of_ble_eq_true rfl) (fun _ _ C RT => b8_lasts C RT n o0 h0 x1 M)
theorem hdX8_lasts : yX8_lasts.cls = RX8 ∧ yOK yX8_lasts 1 := ⟨rfl, by decide, by decide, by decide⟩
abbrev rm8_whyNotSeeds : Room := { frames := 3, cells := 0, slots := 0, locals := 63 }
def s8_whyNotSeeds (n : Nat) (o0 : Nat) (x1 : Int32) (M : Mem) : Option Res := cb (s8_whyNotWithin x1 (1 : Int32) (20 : Int32) M) (fun r2 M1 => if r2 = 0 then (cb (s2_canGoOn n (link o0 1) M1) (fun r4 M3 => if r4 = 0 then (some ((3 : Int32), M3)) else (some (r2, M3)))) else (some (r2, M1)))
set_option maxRecDepth 100000 in
set_option maxHeartbeats 4000000 in
theorem b8_whyNotSeeds {w : WE} {g : GT} (C : CT w g RX8 cX8_whyNotSeeds rm8_whyNotSeeds 3) (RT : RTi w g cX8_whyNotSeeds .int) (n : Nat) (o0 : Nat) (h0 : typ o0 = 8) (x1 : Int32) (M : Mem) : J w g (s8_whyNotSeeds n o0 x1 M) M 0 [(0, .ref (wa w o0)), (1, .int x1)] [] := by
  rw [s8_whyNotSeeds]
  refine J_iload_n C dX8_whyNotSeeds_0 rfl 1 rfl ?_
  refine J_iconst C dX8_whyNotSeeds_1 kci_1 ?_
  refine J_bipush C dX8_whyNotSeeds_2 kcb_20 ?_
  refine J_csi (As := [.int x1, .int (1 : Int32), .int (20 : Int32)]) (dm := 0) C (c8_whyNotWithin (gl g) w x1 (1 : Int32) (20 : Int32) M) (gd_s W3_66 W2_203 W1_1 W2_204) rfl (by decide) (hdX8_whyNotWithin.2) rfl (Nat.le_of_ble_eq_true rfl) dX8_whyNotSeeds_4 rfl (fun r2 M1 => ?_)
  refine J_istore_n (lv' := [(2, .int r2), (0, .ref (wa w o0)), (1, .int x1)]) C dX8_whyNotSeeds_7 rfl (by decide) rfl ?_
  refine J_iload_n C dX8_whyNotSeeds_8 rfl 0 rfl ?_
  refine J_if_ne (tgt := 26) C dX8_whyNotSeeds_9 (by decide) (fun _ => ?_) (fun _ => ?_)
  · refine J_iload_n C dX8_whyNotSeeds_26 rfl 0 rfl ?_
    exact J_iret C RT rfl dX8_whyNotSeeds_27
  · refine J_aload_n C dX8_whyNotSeeds_12 rfl 1 rfl ?_
    refine J_getr C fk8_1 W2_38 h0 dX8_whyNotSeeds_13 ?_
    refine J_cvi (As := []) C (c2_canGoOn (gl g) w n (link o0 1) (tl_8_1 h0) M1) (gd_v W3_101 W3_102 W3_103 W1_3 W3_104) rfl (by decide) (hdX2_canGoOn) (tl_8_1 h0) (by decide) (cl_2) rfl (Nat.le_of_ble_eq_true rfl) dX8_whyNotSeeds_16 rfl (fun r4 M3 => ?_)
    refine J_if_ne (tgt := 26) C dX8_whyNotSeeds_19 (by decide) (fun _ => ?_) (fun _ => ?_)
    · refine J_iload_n C dX8_whyNotSeeds_26 rfl 0 rfl ?_
      exact J_iret C RT rfl dX8_whyNotSeeds_27
    · refine J_iconst C dX8_whyNotSeeds_22 kci_3 ?_
      refine J_goto (tgt := 27) C dX8_whyNotSeeds_23 (by decide) ?_
      exact J_iret C RT rfl dX8_whyNotSeeds_27
theorem c8_whyNotSeeds (l : Launch) (w : WE) (n : Nat) (o0 : Nat) (h0 : typ o0 = 8) (x1 : Int32) (M : Mem) : MC l w yX8_whyNotSeeds (wz yX8_whyNotSeeds cX8_whyNotSeeds 3 (some .int)) rm8_whyNotSeeds [.ref (wa w o0), .int x1] (s8_whyNotSeeds n o0 x1 M) M :=
  mc_of_J (own := RX8) rfl (by decide) rfl rfl (Nat.le_of_ble_eq_true rfl) (fun _ _ C RT => b8_whyNotSeeds C RT n o0 h0 x1 M)
theorem hdX8_whyNotSeeds : yX8_whyNotSeeds.cls = RX8 ∧ yOK yX8_whyNotSeeds 1 := ⟨rfl, by decide, by decide, by decide⟩
abbrev rm8_wins : Room := { frames := 6, cells := 0, slots := 0, locals := 139 }
def s8_wins_20 (n : Nat) (o0 : Nat) (x1 : Int32) (x2 : Int32) (x3 : Int32) (t0 : Int32) (M : Mem) : Option Res := if t0 = 0 then (cb (s0_timesWinner n (link o0 0) x1 x2 x3 M) (fun r4 M3 => some (r4, M3))) else (cb (s8_refuse o0 t0 M) (fun r6 M5 => some (r6, M5)))
set_option maxRecDepth 100000 in
set_option maxHeartbeats 4000000 in
theorem b8_wins_20 {w : WE} {g : GT} (C : CT w g RX8 cX8_wins rm8_wins 5) (RT : RTi w g cX8_wins .int) (n : Nat) (o0 : Nat) (h0 : typ o0 = 8) (x1 : Int32) (x2 : Int32) (x3 : Int32) (t0 : Int32) (M : Mem) : J w g (s8_wins_20 n o0 x1 x2 x3 t0 M) M 20 [(0, .ref (wa w o0)), (1, .int x1), (2, .int x2), (3, .int x3)] [.int t0] := by
  rw [s8_wins_20]
  refine J_istore (lv' := [(4, .int t0), (0, .ref (wa w o0)), (1, .int x1), (2, .int x2), (3, .int x3)]) C dX8_wins_20 (by decide) rfl ?_
  refine J_iload C dX8_wins_22 0 rfl ?_
  refine J_if_eq (tgt := 36) C dX8_wins_24 (by decide) (fun _ => ?_) (fun _ => ?_)
  · refine J_aload_n C dX8_wins_36 rfl 1 rfl ?_
    refine J_getr C fk8_0 W2_37 h0 dX8_wins_37 ?_
    refine J_iload_n C dX8_wins_40 rfl 2 rfl ?_
    refine J_iload_n C dX8_wins_41 rfl 3 rfl ?_
    refine J_iload_n C dX8_wins_42 rfl 4 rfl ?_
    refine J_cvi (As := [.int x1, .int x2, .int x3]) C (c0_timesWinner (gl g) w n (link o0 0) (tl_8_0 h0) x1 x2 x3 M) (gd_v W4_63 W4_64 W4_65 W1_2 W4_66) rfl (by decide) (hdX0_timesWinner) (tl_8_0 h0) (by decide) (cl_0) rfl (Nat.le_of_ble_eq_true rfl) dX8_wins_43 rfl (fun r4 M3 => ?_)
    exact J_iret C RT rfl dX8_wins_46
  · refine J_aload_n C dX8_wins_27 rfl 1 rfl ?_
    refine J_iload C dX8_wins_28 0 rfl ?_
    refine J_cvi (As := [.int t0]) C (c8_refuse (gl g) w o0 h0 t0 M) (gd_v W2_66 W2_68 WP_0 W1_1 W2_69) rfl (by decide) (hdX8_refuse) h0 (by decide) (cl_8) rfl (Nat.le_of_ble_eq_true rfl) dX8_wins_30 rfl (fun r6 M5 => ?_)
    refine J_goto (tgt := 46) C dX8_wins_33 (by decide) ?_
    exact J_iret C RT rfl dX8_wins_46
def s8_wins (n : Nat) (o0 : Nat) (x1 : Int32) (x2 : Int32) (x3 : Int32) (M : Mem) : Option Res := cb (s2_knows (link o0 1) x1 M) (fun r2 M1 => if r2 = 0 then (s8_wins_20 n o0 x1 x2 x3 (1 : Int32) M1) else (cb (s8_whyNotSeeds n o0 x2 M1) (fun r8 M7 => s8_wins_20 n o0 x1 x2 x3 r8 M7)))
set_option maxRecDepth 100000 in
set_option maxHeartbeats 4000000 in
theorem b8_wins {w : WE} {g : GT} (C : CT w g RX8 cX8_wins rm8_wins 5) (RT : RTi w g cX8_wins .int) (n : Nat) (o0 : Nat) (h0 : typ o0 = 8) (x1 : Int32) (x2 : Int32) (x3 : Int32) (M : Mem) : J w g (s8_wins n o0 x1 x2 x3 M) M 0 [(0, .ref (wa w o0)), (1, .int x1), (2, .int x2), (3, .int x3)] [] := by
  rw [s8_wins]
  refine J_aload_n C dX8_wins_0 rfl 0 rfl ?_
  refine J_getr C fk8_1 W2_38 h0 dX8_wins_1 ?_
  refine J_iload_n C dX8_wins_4 rfl 1 rfl ?_
  refine J_cvi (As := [.int x1]) C (c2_knows (gl g) w (link o0 1) (tl_8_1 h0) x1 M) (gd_v W3_43 W3_44 W3_45 W1_3 W3_46) rfl (by decide) (hdX2_knows) (tl_8_1 h0) (by decide) (cl_2) rfl (Nat.le_of_ble_eq_true rfl) dX8_wins_5 rfl (fun r2 M1 => ?_)
  refine J_if_eq (tgt := 19) C dX8_wins_8 (by decide) (fun _ => ?_) (fun _ => ?_)
  · refine J_iconst C dX8_wins_19 kci_1 ?_
    exact b8_wins_20 C RT n o0 h0 x1 x2 x3 (1 : Int32) M1
  · refine J_aload_n C dX8_wins_11 rfl 0 rfl ?_
    refine J_iload_n C dX8_wins_12 rfl 2 rfl ?_
    refine J_cvi (As := [.int x2]) C (c8_whyNotSeeds (gl g) w n o0 h0 x2 M1) (gd_v W4_59 W4_61 WP_23 W1_1 W4_62) rfl (by decide) (hdX8_whyNotSeeds) h0 (by decide) (cl_8) rfl (Nat.le_of_ble_eq_true rfl) dX8_wins_13 rfl (fun r8 M7 => ?_)
    refine J_goto (tgt := 20) C dX8_wins_16 (by decide) ?_
    exact b8_wins_20 C RT n o0 h0 x1 x2 x3 r8 M7
theorem c8_wins (l : Launch) (w : WE) (n : Nat) (o0 : Nat) (h0 : typ o0 = 8) (x1 : Int32) (x2 : Int32) (x3 : Int32) (M : Mem) : MC l w yX8_wins (wz yX8_wins cX8_wins 5 (some .int)) rm8_wins [.ref (wa w o0), .int x1, .int x2, .int x3] (s8_wins n o0 x1 x2 x3 M) M :=
  mc_of_J (own := RX8) rfl (by decide) rfl rfl (Nat.le_of_ble_eq_true rfl) (fun _ _ C RT => b8_wins C RT n o0 h0 x1 x2 x3 M)
theorem hdX8_wins : yX8_wins.cls = RX8 ∧ yOK yX8_wins 3 := ⟨rfl, by decide, by decide, by decide⟩
abbrev rm8_fairest : Room := { frames := 6, cells := 0, slots := 0, locals := 143 }
def s8_fairest (n : Nat) (o0 : Nat) (x1 : Int32) (x2 : Int32) (M : Mem) : Option Res := cb (s8_whyNotSeeds n o0 x1 M) (fun r2 M1 => if r2 = 0 then (cb (s0_formOfMostWinners n (link o0 0) x1 x2 M1) (fun r4 M3 => some (r4, M3))) else (cb (s8_refuse o0 r2 M1) (fun r6 M5 => some (r6, M5))))
set_option maxRecDepth 100000 in
set_option maxHeartbeats 4000000 in
theorem b8_fairest {w : WE} {g : GT} (C : CT w g RX8 cX8_fairest rm8_fairest 4) (RT : RTi w g cX8_fairest .int) (n : Nat) (o0 : Nat) (h0 : typ o0 = 8) (x1 : Int32) (x2 : Int32) (M : Mem) : J w g (s8_fairest n o0 x1 x2 M) M 0 [(0, .ref (wa w o0)), (1, .int x1), (2, .int x2)] [] := by
  rw [s8_fairest]
  refine J_aload_n C dX8_fairest_0 rfl 0 rfl ?_
  refine J_iload_n C dX8_fairest_1 rfl 1 rfl ?_
  refine J_cvi (As := [.int x1]) C (c8_whyNotSeeds (gl g) w n o0 h0 x1 M) (gd_v W4_59 W4_61 WP_23 W1_1 W4_62) rfl (by decide) (hdX8_whyNotSeeds) h0 (by decide) (cl_8) rfl (Nat.le_of_ble_eq_true rfl) dX8_fairest_2 rfl (fun r2 M1 => ?_)
  refine J_istore_n (lv' := [(3, .int r2), (0, .ref (wa w o0)), (1, .int x1), (2, .int x2)]) C dX8_fairest_5 rfl (by decide) rfl ?_
  refine J_iload_n C dX8_fairest_6 rfl 0 rfl ?_
  refine J_if_eq (tgt := 18) C dX8_fairest_7 (by decide) (fun _ => ?_) (fun _ => ?_)
  · refine J_aload_n C dX8_fairest_18 rfl 1 rfl ?_
    refine J_getr C fk8_0 W2_37 h0 dX8_fairest_19 ?_
    refine J_iload_n C dX8_fairest_22 rfl 2 rfl ?_
    refine J_iload_n C dX8_fairest_23 rfl 3 rfl ?_
    refine J_cvi (As := [.int x1, .int x2]) C (c0_formOfMostWinners (gl g) w n (link o0 0) (tl_8_0 h0) x1 x2 M1) (gd_v W4_71 W4_72 W4_73 W1_2 W4_74) rfl (by decide) (hdX0_formOfMostWinners) (tl_8_0 h0) (by decide) (cl_0) rfl (Nat.le_of_ble_eq_true rfl) dX8_fairest_24 rfl (fun r4 M3 => ?_)
    exact J_iret C RT rfl dX8_fairest_27
  · refine J_aload_n C dX8_fairest_10 rfl 1 rfl ?_
    refine J_iload_n C dX8_fairest_11 rfl 0 rfl ?_
    refine J_cvi (As := [.int r2]) C (c8_refuse (gl g) w o0 h0 r2 M1) (gd_v W2_66 W2_68 WP_0 W1_1 W2_69) rfl (by decide) (hdX8_refuse) h0 (by decide) (cl_8) rfl (Nat.le_of_ble_eq_true rfl) dX8_fairest_12 rfl (fun r6 M5 => ?_)
    refine J_goto (tgt := 27) C dX8_fairest_15 (by decide) ?_
    exact J_iret C RT rfl dX8_fairest_27
theorem c8_fairest (l : Launch) (w : WE) (n : Nat) (o0 : Nat) (h0 : typ o0 = 8) (x1 : Int32) (x2 : Int32) (M : Mem) : MC l w yX8_fairest (wz yX8_fairest cX8_fairest 4 (some .int)) rm8_fairest [.ref (wa w o0), .int x1, .int x2] (s8_fairest n o0 x1 x2 M) M :=
  mc_of_J (own := RX8) rfl (by decide) rfl rfl (Nat.le_of_ble_eq_true rfl) (fun _ _ C RT => b8_fairest C RT n o0 h0 x1 x2 M)
theorem hdX8_fairest : yX8_fairest.cls = RX8 ∧ yOK yX8_fairest 2 := ⟨rfl, by decide, by decide, by decide⟩
abbrev rm8_shortest : Room := { frames := 6, cells := 0, slots := 0, locals := 137 }
def s8_shortest (n : Nat) (o0 : Nat) (M : Mem) : Option Res := cb (s2_canGoOn n (link o0 1) M) (fun r2 M1 => if r2 = 0 then (cb (s8_refuse o0 (3 : Int32) M1) (fun r4 M3 => some (r4, M3))) else (cb (s0_kindOfFewestTenths n (link o0 0) M1) (fun r6 M5 => some (r6, M5))))
set_option maxRecDepth 100000 in
set_option maxHeartbeats 4000000 in
theorem b8_shortest {w : WE} {g : GT} (C : CT w g RX8 cX8_shortest rm8_shortest 1) (RT : RTi w g cX8_shortest .int) (n : Nat) (o0 : Nat) (h0 : typ o0 = 8) (M : Mem) : J w g (s8_shortest n o0 M) M 0 [(0, .ref (wa w o0))] [] := by
  rw [s8_shortest]
  refine J_aload_n C dX8_shortest_0 rfl 0 rfl ?_
  refine J_getr C fk8_1 W2_38 h0 dX8_shortest_1 ?_
  refine J_cvi (As := []) C (c2_canGoOn (gl g) w n (link o0 1) (tl_8_1 h0) M) (gd_v W3_101 W3_102 W3_103 W1_3 W3_104) rfl (by decide) (hdX2_canGoOn) (tl_8_1 h0) (by decide) (cl_2) rfl (Nat.le_of_ble_eq_true rfl) dX8_shortest_4 rfl (fun r2 M1 => ?_)
  refine J_if_eq (tgt := 20) C dX8_shortest_7 (by decide) (fun _ => ?_) (fun _ => ?_)
  · refine J_aload_n C dX8_shortest_20 rfl 0 rfl ?_
    refine J_iconst C dX8_shortest_21 kci_3 ?_
    refine J_cvi (As := [.int (3 : Int32)]) C (c8_refuse (gl g) w o0 h0 (3 : Int32) M1) (gd_v W2_66 W2_68 WP_0 W1_1 W2_69) rfl (by decide) (hdX8_refuse) h0 (by decide) (cl_8) rfl (Nat.le_of_ble_eq_true rfl) dX8_shortest_22 rfl (fun r4 M3 => ?_)
    exact J_iret C RT rfl dX8_shortest_25
  · refine J_aload_n C dX8_shortest_10 rfl 0 rfl ?_
    refine J_getr C fk8_0 W2_37 h0 dX8_shortest_11 ?_
    refine J_cvi (As := []) C (c0_kindOfFewestTenths (gl g) w n (link o0 0) (tl_8_0 h0) M1) (gd_v W4_88 W4_89 W4_90 W1_2 W4_91) rfl (by decide) (hdX0_kindOfFewestTenths) (tl_8_0 h0) (by decide) (cl_0) rfl (Nat.le_of_ble_eq_true rfl) dX8_shortest_14 rfl (fun r6 M5 => ?_)
    refine J_goto (tgt := 25) C dX8_shortest_17 (by decide) ?_
    exact J_iret C RT rfl dX8_shortest_25
theorem c8_shortest (l : Launch) (w : WE) (n : Nat) (o0 : Nat) (h0 : typ o0 = 8) (M : Mem) : MC l w yX8_shortest (wz yX8_shortest cX8_shortest 1 (some .int)) rm8_shortest [.ref (wa w o0)] (s8_shortest n o0 M) M :=
  mc_of_J (own := RX8) rfl (by decide) rfl rfl (Nat.le_of_ble_eq_true rfl) (fun _ _ C RT => b8_shortest C RT n o0 h0 M)
theorem hdX8_shortest : yX8_shortest.cls = RX8 ∧ yOK yX8_shortest 0 := ⟨rfl, by decide, by decide, by decide⟩
abbrev rm8_row : Room := { frames := 2, cells := 0, slots := 0, locals := 41 }
def s8_row_26 (n : Nat) (o0 : Nat) (x1 : Int32) (x2 : Int32) (M : Mem) : Option Res := if x2 = 0 then (cb (s1_append (link o0 3) x1 M) (fun r4 M3 => some (r4, M3))) else (cb (s8_refuse o0 x2 M) (fun r6 M5 => some (r6, M5)))
set_option maxRecDepth 100000 in
set_option maxHeartbeats 4000000 in
theorem b8_row_26 {w : WE} {g : GT} (C : CT w g RX8 cX8_row rm8_row 3) (RT : RTi w g cX8_row .int) (n : Nat) (o0 : Nat) (h0 : typ o0 = 8) (x1 : Int32) (x2 : Int32) (M : Mem) : J w g (s8_row_26 n o0 x1 x2 M) M 26 [(0, .ref (wa w o0)), (1, .int x1), (2, .int x2)] [] := by
  rw [s8_row_26]
  refine J_iload_n C dX8_row_26 rfl 2 rfl ?_
  refine J_if_eq (tgt := 38) C dX8_row_27 (by decide) (fun _ => ?_) (fun _ => ?_)
  · refine J_aload_n C dX8_row_38 rfl 0 rfl ?_
    refine J_getr C fk8_3 W2_40 h0 dX8_row_39 ?_
    refine J_iload_n C dX8_row_42 rfl 1 rfl ?_
    refine J_cvi (As := [.int x1]) C (c1_append (gl g) w (link o0 3) (tl_8_3 h0) x1 M) (gd_v W4_101 W4_102 W4_103 W1_8 W4_104) rfl (by decide) (hdX1_append) (tl_8_3 h0) (by decide) (cl_1) rfl (Nat.le_of_ble_eq_true rfl) dX8_row_43 rfl (fun r4 M3 => ?_)
    exact J_iret C RT rfl dX8_row_46
  · refine J_aload_n C dX8_row_30 rfl 0 rfl ?_
    refine J_iload_n C dX8_row_31 rfl 2 rfl ?_
    refine J_cvi (As := [.int x2]) C (c8_refuse (gl g) w o0 h0 x2 M) (gd_v W2_66 W2_68 WP_0 W1_1 W2_69) rfl (by decide) (hdX8_refuse) h0 (by decide) (cl_8) rfl (Nat.le_of_ble_eq_true rfl) dX8_row_32 rfl (fun r6 M5 => ?_)
    refine J_goto (tgt := 46) C dX8_row_35 (by decide) ?_
    exact J_iret C RT rfl dX8_row_46
def s8_row (n : Nat) (o0 : Nat) (x1 : Int32) (M : Mem) : Option Res := cb (s8_whyNotWithin x1 (1 : Int32) (300 : Int32) M) (fun r2 M1 => if r2 = 0 then (cb (s1_isFull (link o0 3) M1) (fun r8 M7 => if r8 = 0 then (s8_row_26 n o0 x1 r2 M7) else (s8_row_26 n o0 x1 (6 : Int32) M7))) else (s8_row_26 n o0 x1 r2 M1))
set_option maxRecDepth 100000 in
set_option maxHeartbeats 4000000 in
theorem b8_row {w : WE} {g : GT} (C : CT w g RX8 cX8_row rm8_row 3) (RT : RTi w g cX8_row .int) (n : Nat) (o0 : Nat) (h0 : typ o0 = 8) (x1 : Int32) (M : Mem) : J w g (s8_row n o0 x1 M) M 0 [(0, .ref (wa w o0)), (1, .int x1)] [] := by
  rw [s8_row]
  refine J_iload_n C dX8_row_0 rfl 1 rfl ?_
  refine J_iconst C dX8_row_1 kci_1 ?_
  refine J_sipush C dX8_row_2 kcs_300 ?_
  refine J_csi (As := [.int x1, .int (1 : Int32), .int (300 : Int32)]) (dm := 0) C (c8_whyNotWithin (gl g) w x1 (1 : Int32) (300 : Int32) M) (gd_s W3_66 W2_203 W1_1 W2_204) rfl (by decide) (hdX8_whyNotWithin.2) rfl (Nat.le_of_ble_eq_true rfl) dX8_row_5 rfl (fun r2 M1 => ?_)
  refine J_istore_n (lv' := [(2, .int r2), (0, .ref (wa w o0)), (1, .int x1)]) C dX8_row_8 rfl (by decide) rfl ?_
  refine J_iload_n C dX8_row_9 rfl 0 rfl ?_
  refine J_if_ne (tgt := 26) C dX8_row_10 (by decide) (fun _ => ?_) (fun _ => ?_)
  · refine J_lv [1, 2, 0] rfl ?_
    exact b8_row_26 C RT n o0 h0 x1 r2 M1
  · refine J_aload_n C dX8_row_13 rfl 1 rfl ?_
    refine J_getr C fk8_3 W2_40 h0 dX8_row_14 ?_
    refine J_cvi (As := []) C (c1_isFull (gl g) w (link o0 3) (tl_8_3 h0) M1) (gd_v W4_97 W4_98 W4_99 W1_8 W4_100) rfl (by decide) (hdX1_isFull) (tl_8_3 h0) (by decide) (cl_1) rfl (Nat.le_of_ble_eq_true rfl) dX8_row_17 rfl (fun r8 M7 => ?_)
    refine J_if_eq (tgt := 26) C dX8_row_20 (by decide) (fun _ => ?_) (fun _ => ?_)
    · refine J_lv [1, 2, 0] rfl ?_
      exact b8_row_26 C RT n o0 h0 x1 r2 M7
    · refine J_bipush C dX8_row_23 kcb_6 ?_
      refine J_istore_n (lv' := [(2, .int (6 : Int32)), (0, .ref (wa w o0)), (1, .int x1)]) C dX8_row_25 rfl (by decide) rfl ?_
      refine J_lv [1, 2, 0] rfl ?_
      exact b8_row_26 C RT n o0 h0 x1 (6 : Int32) M7
theorem c8_row (l : Launch) (w : WE) (n : Nat) (o0 : Nat) (h0 : typ o0 = 8) (x1 : Int32) (M : Mem) : MC l w yX8_row (wz yX8_row cX8_row 3 (some .int)) rm8_row [.ref (wa w o0), .int x1] (s8_row n o0 x1 M) M :=
  mc_of_J (own := RX8) rfl (by decide) rfl rfl (Nat.le_of_ble_eq_true rfl) (fun _ _ C RT => b8_row C RT n o0 h0 x1 M)
theorem hdX8_row : yX8_row.cls = RX8 ∧ yOK yX8_row 1 := ⟨rfl, by decide, by decide, by decide⟩
abbrev rm8_couldAllBeBy : Room := { frames := 1, cells := 0, slots := 0, locals := 22 }
def s8_couldAllBeBy_4 (n : Nat) (o0 : Nat) (x1 : Int32) : Nat → Int32 → Int32 → Mem → Option Res
  | 0, _, _, _ => none
  | f + 1, x2, x3, M => if (M (link o0 3) 1) ≤ x3 then (if bz x2 then some (x2, M) else none) else (if x2 = 0 then (ilet (x3 + 1) (fun v1 => s8_couldAllBeBy_4 n o0 x1 f (0 : Int32) v1 M)) else (cb (s1_at (link o0 3) x3 M) (fun r3 M2 => cb (s3_couldStop (link (link o0 1) 1) x1 r3 M2) (fun r5 M4 => if r5 = 0 then (ilet (x3 + 1) (fun v6 => s8_couldAllBeBy_4 n o0 x1 f (0 : Int32) v6 M4)) else (ilet (x3 + 1) (fun v7 => s8_couldAllBeBy_4 n o0 x1 f (1 : Int32) v7 M4))))))
set_option maxRecDepth 100000 in
set_option maxHeartbeats 4000000 in
theorem b8_couldAllBeBy_4 {w : WE} {g : GT} (C : CT w g RX8 cX8_couldAllBeBy rm8_couldAllBeBy 4) (RT : RTi w g cX8_couldAllBeBy .boolean) (n : Nat) (o0 : Nat) (h0 : typ o0 = 8) (x1 : Int32) : ∀ (f : Nat) (x2 : Int32) (x3 : Int32) (M : Mem), J w g (s8_couldAllBeBy_4 n o0 x1 f x2 x3 M) M 4 [(0, .ref (wa w o0)), (1, .int x1), (2, .int x2), (3, .int x3)] [] := by
  intro f
  induction f with
  | zero =>
    intro x2 x3 M
    rw [s8_couldAllBeBy_4]
    exact J_none
  | succ f ih =>
    intro x2 x3 M
    rw [s8_couldAllBeBy_4]
    refine J_iload_n C dX8_couldAllBeBy_4 rfl 3 rfl ?_
    refine J_aload_n C dX8_couldAllBeBy_5 rfl 0 rfl ?_
    refine J_getr C fk8_3 W2_40 h0 dX8_couldAllBeBy_6 ?_
    refine J_geti C fk1_1 W2_3 (tl_8_3 h0) dX8_couldAllBeBy_9 ?_
    refine J_icmp_ge (tgt := 53) C dX8_couldAllBeBy_12 (by decide) (fun _ => ?_) (fun _ => ?_)
    · refine J_iload_n C dX8_couldAllBeBy_53 rfl 2 rfl ?_
      exact J_zret C RT dX8_couldAllBeBy_54
    · refine J_iload_n C dX8_couldAllBeBy_15 rfl 2 rfl ?_
      refine J_if_eq (tgt := 45) C dX8_couldAllBeBy_16 (by decide) (fun _ => ?_) (fun _ => ?_)
      · refine J_iconst C dX8_couldAllBeBy_45 kci_0 ?_
        refine J_istore_n (lv' := [(2, .int (0 : Int32)), (0, .ref (wa w o0)), (1, .int x1), (3, .int x3)]) C dX8_couldAllBeBy_46 rfl (by decide) rfl ?_
        refine J_iinc (lw := fun v1 => [(3, .int v1), (2, .int (0 : Int32)), (0, .ref (wa w o0)), (1, .int x1)]) (X := x3 + 1) C dX8_couldAllBeBy_47 (q := 3) rfl (by rw [kci_1]) (by decide) (fun _ => rfl) (fun v1 => ?_)
        refine J_goto (tgt := 4) C dX8_couldAllBeBy_50 (by decide) ?_
        refine J_lv [2, 3, 1, 0] rfl ?_
        exact ih (0 : Int32) v1 M
      · refine J_aload_n C dX8_couldAllBeBy_19 rfl 0 rfl ?_
        refine J_getr C fk8_1 W2_38 h0 dX8_couldAllBeBy_20 ?_
        refine J_getr C fk2_1 W1_168 (tl_8_1 h0) dX8_couldAllBeBy_23 ?_
        refine J_iload_n C dX8_couldAllBeBy_26 rfl 1 rfl ?_
        refine J_aload_n C dX8_couldAllBeBy_27 rfl 0 rfl ?_
        refine J_getr C fk8_3 W2_40 h0 dX8_couldAllBeBy_28 ?_
        refine J_iload_n C dX8_couldAllBeBy_31 rfl 3 rfl ?_
        refine J_cvi (As := [.int x3]) C (c1_at (gl g) w (link o0 3) (tl_8_3 h0) x3 M) (gd_v W4_114 W4_115 W4_116 W1_8 W4_117) rfl (by decide) (hdX1_at) (tl_8_3 h0) (by decide) (cl_1) rfl (Nat.le_of_ble_eq_true rfl) dX8_couldAllBeBy_32 rfl (fun r3 M2 => ?_)
        refine J_cvi (As := [.int x1, .int r3]) C (c3_couldStop (gl g) w (link (link o0 1) 1) (tl_2_1 (tl_8_1 h0)) x1 r3 M2) (gd_v W4_118 W4_119 W4_120 W1_5 W4_121) rfl (by decide) (hdX3_couldStop) (tl_2_1 (tl_8_1 h0)) (by decide) (cl_3) rfl (Nat.le_of_ble_eq_true rfl) dX8_couldAllBeBy_35 rfl (fun r5 M4 => ?_)
        refine J_if_eq (tgt := 45) C dX8_couldAllBeBy_38 (by decide) (fun _ => ?_) (fun _ => ?_)
        · refine J_iconst C dX8_couldAllBeBy_45 kci_0 ?_
          refine J_istore_n (lv' := [(2, .int (0 : Int32)), (0, .ref (wa w o0)), (1, .int x1), (3, .int x3)]) C dX8_couldAllBeBy_46 rfl (by decide) rfl ?_
          refine J_iinc (lw := fun v6 => [(3, .int v6), (2, .int (0 : Int32)), (0, .ref (wa w o0)), (1, .int x1)]) (X := x3 + 1) C dX8_couldAllBeBy_47 (q := 3) rfl (by rw [kci_1]) (by decide) (fun _ => rfl) (fun v6 => ?_)
          refine J_goto (tgt := 4) C dX8_couldAllBeBy_50 (by decide) ?_
          refine J_lv [2, 3, 1, 0] rfl ?_
          exact ih (0 : Int32) v6 M4
        · refine J_iconst C dX8_couldAllBeBy_41 kci_1 ?_
          refine J_goto (tgt := 46) C dX8_couldAllBeBy_42 (by decide) ?_
          refine J_istore_n (lv' := [(2, .int (1 : Int32)), (0, .ref (wa w o0)), (1, .int x1), (3, .int x3)]) C dX8_couldAllBeBy_46 rfl (by decide) rfl ?_
          refine J_iinc (lw := fun v7 => [(3, .int v7), (2, .int (1 : Int32)), (0, .ref (wa w o0)), (1, .int x1)]) (X := x3 + 1) C dX8_couldAllBeBy_47 (q := 3) rfl (by rw [kci_1]) (by decide) (fun _ => rfl) (fun v7 => ?_)
          refine J_goto (tgt := 4) C dX8_couldAllBeBy_50 (by decide) ?_
          refine J_lv [2, 3, 1, 0] rfl ?_
          exact ih (1 : Int32) v7 M4
def s8_couldAllBeBy (n : Nat) (o0 : Nat) (x1 : Int32) (M : Mem) : Option Res := s8_couldAllBeBy_4 n o0 x1 n (1 : Int32) (0 : Int32) M
set_option maxRecDepth 100000 in
set_option maxHeartbeats 4000000 in
theorem b8_couldAllBeBy {w : WE} {g : GT} (C : CT w g RX8 cX8_couldAllBeBy rm8_couldAllBeBy 4) (RT : RTi w g cX8_couldAllBeBy .boolean) (n : Nat) (o0 : Nat) (h0 : typ o0 = 8) (x1 : Int32) (M : Mem) : J w g (s8_couldAllBeBy n o0 x1 M) M 0 [(0, .ref (wa w o0)), (1, .int x1)] [] := by
  rw [s8_couldAllBeBy]
  refine J_iconst C dX8_couldAllBeBy_0 kci_1 ?_
  refine J_istore_n (lv' := [(2, .int (1 : Int32)), (0, .ref (wa w o0)), (1, .int x1)]) C dX8_couldAllBeBy_1 rfl (by decide) rfl ?_
  refine J_iconst C dX8_couldAllBeBy_2 kci_0 ?_
  refine J_istore_n (lv' := [(3, .int (0 : Int32)), (2, .int (1 : Int32)), (0, .ref (wa w o0)), (1, .int x1)]) C dX8_couldAllBeBy_3 rfl (by decide) rfl ?_
  refine J_lv [2, 3, 1, 0] rfl ?_
  exact b8_couldAllBeBy_4 C RT n o0 h0 x1 n (1 : Int32) (0 : Int32) M
theorem c8_couldAllBeBy (l : Launch) (w : WE) (n : Nat) (o0 : Nat) (h0 : typ o0 = 8) (x1 : Int32) (M : Mem) : MC l w yX8_couldAllBeBy (wz yX8_couldAllBeBy cX8_couldAllBeBy 4 (some .boolean)) rm8_couldAllBeBy [.ref (wa w o0), .int x1] (s8_couldAllBeBy n o0 x1 M) M :=
  mc_of_J (own := RX8) rfl (by decide) rfl rfl (Nat.le_of_ble_eq_true rfl) (fun _ _ C RT => b8_couldAllBeBy C RT n o0 h0 x1 M)
theorem hdX8_couldAllBeBy : yX8_couldAllBeBy.cls = RX8 ∧ yOK yX8_couldAllBeBy 1 := ⟨rfl, by decide, by decide, by decide⟩
abbrev rm8_could : Room := { frames := 2, cells := 0, slots := 0, locals := 45 }
def s8_could_4 (n : Nat) (o0 : Nat) : Nat → Int32 → Int32 → Mem → Option Res
  | 0, _, _, _ => none
  | f + 1, x1, x2, M => if (5 : Int32) ≤ x2 then (some (x1, M)) else (cb (s8_couldAllBeBy n o0 x2 M) (fun r2 M1 => if r2 = 0 then (ilet (x2 + 1) (fun v3 => s8_could_4 n o0 f x1 v3 M1)) else (ilet (x1 ||| ((1 : Int32) <<< (x2 &&& 31))) (fun v4 => ilet (x2 + 1) (fun v5 => s8_could_4 n o0 f v4 v5 M1)))))
set_option maxRecDepth 100000 in
set_option maxHeartbeats 4000000 in
theorem b8_could_4 {w : WE} {g : GT} (C : CT w g RX8 cX8_could rm8_could 3) (RT : RTi w g cX8_could .int) (n : Nat) (o0 : Nat) (h0 : typ o0 = 8) : ∀ (f : Nat) (x1 : Int32) (x2 : Int32) (M : Mem), J w g (s8_could_4 n o0 f x1 x2 M) M 4 [(0, .ref (wa w o0)), (1, .int x1), (2, .int x2)] [] := by
  intro f
  induction f with
  | zero =>
    intro x1 x2 M
    rw [s8_could_4]
    exact J_none
  | succ f ih =>
    intro x1 x2 M
    rw [s8_could_4]
    refine J_iload_n C dX8_could_4 rfl 2 rfl ?_
    refine J_iconst C dX8_could_5 kci_5 ?_
    refine J_icmp_ge (tgt := 29) C dX8_could_6 (by decide) (fun _ => ?_) (fun _ => ?_)
    · refine J_iload_n C dX8_could_29 rfl 1 rfl ?_
      exact J_iret C RT rfl dX8_could_30
    · refine J_aload_n C dX8_could_9 rfl 0 rfl ?_
      refine J_iload_n C dX8_could_10 rfl 2 rfl ?_
      refine J_cvi (As := [.int x2]) C (c8_couldAllBeBy (gl g) w n o0 h0 x2 M) (gd_v W4_110 W4_112 WP_24 W1_1 W4_113) rfl (by decide) (hdX8_couldAllBeBy) h0 (by decide) (cl_8) rfl (Nat.le_of_ble_eq_true rfl) dX8_could_11 rfl (fun r2 M1 => ?_)
      refine J_if_eq (tgt := 23) C dX8_could_14 (by decide) (fun _ => ?_) (fun _ => ?_)
      · refine J_iinc (lw := fun v3 => [(2, .int v3), (0, .ref (wa w o0)), (1, .int x1)]) (X := x2 + 1) C dX8_could_23 (q := 2) rfl (by rw [kci_1]) (by decide) (fun _ => rfl) (fun v3 => ?_)
        refine J_goto (tgt := 4) C dX8_could_26 (by decide) ?_
        refine J_lv [1, 2, 0] rfl ?_
        exact ih x1 v3 M1
      · refine J_iload_n C dX8_could_17 rfl 1 rfl ?_
        refine J_iconst C dX8_could_18 kci_1 ?_
        refine J_iload_n C dX8_could_19 rfl 2 rfl ?_
        refine J_ishl C dX8_could_20 ?_
        refine J_ior C dX8_could_21 ?_
        refine J_ilet (fun v4 => ?_)
        refine J_istore_n (lv' := [(1, .int v4), (0, .ref (wa w o0)), (2, .int x2)]) C dX8_could_22 rfl (by decide) rfl ?_
        refine J_iinc (lw := fun v5 => [(2, .int v5), (1, .int v4), (0, .ref (wa w o0))]) (X := x2 + 1) C dX8_could_23 (q := 2) rfl (by rw [kci_1]) (by decide) (fun _ => rfl) (fun v5 => ?_)
        refine J_goto (tgt := 4) C dX8_could_26 (by decide) ?_
        refine J_lv [2, 1, 0] rfl ?_
        exact ih v4 v5 M1
def s8_could (n : Nat) (o0 : Nat) (M : Mem) : Option Res := s8_could_4 n o0 n (0 : Int32) (0 : Int32) M
set_option maxRecDepth 100000 in
set_option maxHeartbeats 4000000 in
theorem b8_could {w : WE} {g : GT} (C : CT w g RX8 cX8_could rm8_could 3) (RT : RTi w g cX8_could .int) (n : Nat) (o0 : Nat) (h0 : typ o0 = 8) (M : Mem) : J w g (s8_could n o0 M) M 0 [(0, .ref (wa w o0))] [] := by
  rw [s8_could]
  refine J_iconst C dX8_could_0 kci_0 ?_
  refine J_istore_n (lv' := [(1, .int (0 : Int32)), (0, .ref (wa w o0))]) C dX8_could_1 rfl (by decide) rfl ?_
  refine J_iconst C dX8_could_2 kci_0 ?_
  refine J_istore_n (lv' := [(2, .int (0 : Int32)), (1, .int (0 : Int32)), (0, .ref (wa w o0))]) C dX8_could_3 rfl (by decide) rfl ?_
  refine J_lv [2, 1, 0] rfl ?_
  exact b8_could_4 C RT n o0 h0 n (0 : Int32) (0 : Int32) M
theorem c8_could (l : Launch) (w : WE) (n : Nat) (o0 : Nat) (h0 : typ o0 = 8) (M : Mem) : MC l w yX8_could (wz yX8_could cX8_could 3 (some .int)) rm8_could [.ref (wa w o0)] (s8_could n o0 M) M :=
  mc_of_J (own := RX8) rfl (by decide) rfl rfl (Nat.le_of_ble_eq_true rfl) (fun _ _ C RT => b8_could C RT n o0 h0 M)
theorem hdX8_could : yX8_could.cls = RX8 ∧ yOK yX8_could 0 := ⟨rfl, by decide, by decide, by decide⟩
abbrev rm8_next : Room := { frames := 1, cells := 0, slots := 0, locals := 23 }
def s8_next_25 (n : Nat) (o0 : Nat) (x1 : Int32) (x2 : Int32) (M : Mem) : Option Res := if x2 = 0 then (cb (s1_hundredthsUpTo n (link o0 3) x1 M) (fun r4 M3 => mlet (mset M3 (link o0 3) 1 (0 : Int32)) (fun M5 => some (r4, M5)))) else (cb (s8_refuse o0 x2 M) (fun r7 M6 => some (r7, M6)))
set_option maxRecDepth 100000 in
set_option maxHeartbeats 4000000 in
theorem b8_next_25 {w : WE} {g : GT} (C : CT w g RX8 cX8_next rm8_next 4) (RT : RTi w g cX8_next .int) (n : Nat) (o0 : Nat) (h0 : typ o0 = 8) (x1 : Int32) (x2 : Int32) (M : Mem) : J w g (s8_next_25 n o0 x1 x2 M) M 25 [(0, .ref (wa w o0)), (1, .int x1), (2, .int x2)] [] := by
  rw [s8_next_25]
  refine J_iload_n C dX8_next_25 rfl 2 rfl ?_
  refine J_if_eq (tgt := 35) C dX8_next_26 (by decide) (fun _ => ?_) (fun _ => ?_)
  · refine J_aload_n C dX8_next_35 rfl 0 rfl ?_
    refine J_getr C fk8_3 W2_40 h0 dX8_next_36 ?_
    refine J_iload_n C dX8_next_39 rfl 1 rfl ?_
    refine J_cvi (As := [.int x1]) C (c1_hundredthsUpTo (gl g) w n (link o0 3) (tl_8_3 h0) x1 M) (gd_v W4_126 W4_127 W4_128 W1_8 W4_129) rfl (by decide) (hdX1_hundredthsUpTo) (tl_8_3 h0) (by decide) (cl_1) rfl (Nat.le_of_ble_eq_true rfl) dX8_next_40 rfl (fun r4 M3 => ?_)
    refine J_istore_n (lv' := [(3, .int r4), (0, .ref (wa w o0)), (1, .int x1), (2, .int x2)]) C dX8_next_43 rfl (by decide) rfl ?_
    refine J_aload_n C dX8_next_44 rfl 1 rfl ?_
    refine J_getr C fk8_3 W2_40 h0 dX8_next_45 ?_
    refine J_iconst C dX8_next_48 kci_0 ?_
    refine J_puti C fk1_1 W2_3 fp1_1 (tl_8_3 h0) dX8_next_49 ?_
    refine J_mlet (fun M5 => ?_)
    refine J_iload_n C dX8_next_52 rfl 0 rfl ?_
    exact J_iret C RT rfl dX8_next_53
  · refine J_aload_n C dX8_next_29 rfl 0 rfl ?_
    refine J_iload_n C dX8_next_30 rfl 2 rfl ?_
    refine J_cvi (As := [.int x2]) C (c8_refuse (gl g) w o0 h0 x2 M) (gd_v W2_66 W2_68 WP_0 W1_1 W2_69) rfl (by decide) (hdX8_refuse) h0 (by decide) (cl_8) rfl (Nat.le_of_ble_eq_true rfl) dX8_next_31 rfl (fun r7 M6 => ?_)
    exact J_iret C RT rfl dX8_next_34
def s8_next (n : Nat) (o0 : Nat) (x1 : Int32) (M : Mem) : Option Res := cb (s8_whyNotWithin x1 (1 : Int32) (300 : Int32) M) (fun r2 M1 => if r2 = 0 then (if (M1 (link o0 3) 1) = 0 then (s8_next_25 n o0 x1 (3 : Int32) M1) else (s8_next_25 n o0 x1 r2 M1)) else (s8_next_25 n o0 x1 r2 M1))
set_option maxRecDepth 100000 in
set_option maxHeartbeats 4000000 in
theorem b8_next {w : WE} {g : GT} (C : CT w g RX8 cX8_next rm8_next 4) (RT : RTi w g cX8_next .int) (n : Nat) (o0 : Nat) (h0 : typ o0 = 8) (x1 : Int32) (M : Mem) : J w g (s8_next n o0 x1 M) M 0 [(0, .ref (wa w o0)), (1, .int x1)] [] := by
  rw [s8_next]
  refine J_iload_n C dX8_next_0 rfl 1 rfl ?_
  refine J_iconst C dX8_next_1 kci_1 ?_
  refine J_sipush C dX8_next_2 kcs_300 ?_
  refine J_csi (As := [.int x1, .int (1 : Int32), .int (300 : Int32)]) (dm := 0) C (c8_whyNotWithin (gl g) w x1 (1 : Int32) (300 : Int32) M) (gd_s W3_66 W2_203 W1_1 W2_204) rfl (by decide) (hdX8_whyNotWithin.2) rfl (Nat.le_of_ble_eq_true rfl) dX8_next_5 rfl (fun r2 M1 => ?_)
  refine J_istore_n (lv' := [(2, .int r2), (0, .ref (wa w o0)), (1, .int x1)]) C dX8_next_8 rfl (by decide) rfl ?_
  refine J_iload_n C dX8_next_9 rfl 0 rfl ?_
  refine J_if_ne (tgt := 25) C dX8_next_10 (by decide) (fun _ => ?_) (fun _ => ?_)
  · refine J_lv [1, 2, 0] rfl ?_
    exact b8_next_25 C RT n o0 h0 x1 r2 M1
  · refine J_aload_n C dX8_next_13 rfl 1 rfl ?_
    refine J_getr C fk8_3 W2_40 h0 dX8_next_14 ?_
    refine J_geti C fk1_1 W2_3 (tl_8_3 h0) dX8_next_17 ?_
    refine J_if_ne (tgt := 25) C dX8_next_20 (by decide) (fun _ => ?_) (fun _ => ?_)
    · refine J_lv [1, 2, 0] rfl ?_
      exact b8_next_25 C RT n o0 h0 x1 r2 M1
    · refine J_iconst C dX8_next_23 kci_3 ?_
      refine J_istore_n (lv' := [(2, .int (3 : Int32)), (0, .ref (wa w o0)), (1, .int x1)]) C dX8_next_24 rfl (by decide) rfl ?_
      refine J_lv [1, 2, 0] rfl ?_
      exact b8_next_25 C RT n o0 h0 x1 (3 : Int32) M1
theorem c8_next (l : Launch) (w : WE) (n : Nat) (o0 : Nat) (h0 : typ o0 = 8) (x1 : Int32) (M : Mem) : MC l w yX8_next (wz yX8_next cX8_next 4 (some .int)) rm8_next [.ref (wa w o0), .int x1] (s8_next n o0 x1 M) M :=
  mc_of_J (own := RX8) rfl (by decide) rfl rfl (Nat.le_of_ble_eq_true rfl) (fun _ _ C RT => b8_next C RT n o0 h0 x1 M)
theorem hdX8_next : yX8_next.cls = RX8 ∧ yOK yX8_next 1 := ⟨rfl, by decide, by decide, by decide⟩
abbrev rm8_team : Room := { frames := 5, cells := 0, slots := 0, locals := 121 }
def s8_team (n : Nat) (o0 : Nat) (x1 : Int32) (x2 : Int32) (x3 : Int32) (x4 : Int32) (M : Mem) : Option Res := if x1 = x2 then (cb (s8_refuse o0 (1 : Int32) M) (fun r2 M1 => some (r2, M1))) else (cb (s2_knowsIn (link o0 1) x1 M) (fun r4 M3 => if r4 = 0 then (cb (s8_refuse o0 (1 : Int32) M3) (fun r6 M5 => some (r6, M5))) else (cb (s2_knowsIn (link o0 1) x2 M3) (fun r8 M7 => if r8 = 0 then (cb (s8_refuse o0 (1 : Int32) M7) (fun r22 M21 => some (r22, M21))) else (if x4 < 0 then (cb (s8_refuse o0 (2 : Int32) M7) (fun r10 M9 => some (r10, M9))) else (if x4 ≤ (1 : Int32) then (cb (s8_whyNotWithin x3 (1 : Int32) (200 : Int32) M7) (fun r12 M11 => if r12 = 0 then (if x4 = 0 then (cb (s0_teamGain n (link o0 0) x1 x2 x3 M11) (fun r16 M15 => some (r16, M15))) else (cb (s0_sitsWhenHeld n (link o0 0) x1 x2 x3 M11) (fun r14 M13 => some (r14, M13)))) else (cb (s8_refuse o0 r12 M11) (fun r18 M17 => some (r18, M17))))) else (cb (s8_refuse o0 (2 : Int32) M7) (fun r20 M19 => some (r20, M19)))))))))
set_option maxRecDepth 100000 in
set_option maxHeartbeats 4000000 in
theorem b8_team {w : WE} {g : GT} (C : CT w g RX8 cX8_team rm8_team 6) (RT : RTi w g cX8_team .int) (n : Nat) (o0 : Nat) (h0 : typ o0 = 8) (x1 : Int32) (x2 : Int32) (x3 : Int32) (x4 : Int32) (M : Mem) : J w g (s8_team n o0 x1 x2 x3 x4 M) M 0 [(0, .ref (wa w o0)), (1, .int x1), (2, .int x2), (3, .int x3), (4, .int x4)] [] := by
  rw [s8_team]
  refine J_iload_n C dX8_team_0 rfl 1 rfl ?_
  refine J_iload_n C dX8_team_1 rfl 2 rfl ?_
  refine J_icmp_eq (tgt := 27) C dX8_team_2 (by decide) (fun _ => ?_) (fun _ => ?_)
  · refine J_aload_n C dX8_team_27 rfl 0 rfl ?_
    refine J_iconst C dX8_team_28 kci_1 ?_
    refine J_cvi (As := [.int (1 : Int32)]) C (c8_refuse (gl g) w o0 h0 (1 : Int32) M) (gd_v W2_66 W2_68 WP_0 W1_1 W2_69) rfl (by decide) (hdX8_refuse) h0 (by decide) (cl_8) rfl (Nat.le_of_ble_eq_true rfl) dX8_team_29 rfl (fun r2 M1 => ?_)
    exact J_iret C RT rfl dX8_team_32
  · refine J_aload_n C dX8_team_5 rfl 0 rfl ?_
    refine J_getr C fk8_1 W2_38 h0 dX8_team_6 ?_
    refine J_iload_n C dX8_team_9 rfl 1 rfl ?_
    refine J_cvi (As := [.int x1]) C (c2_knowsIn (gl g) w (link o0 1) (tl_8_1 h0) x1 M) (gd_v W3_212 W3_110 W3_111 W1_3 W3_112) rfl (by decide) (hdX2_knowsIn) (tl_8_1 h0) (by decide) (cl_2) rfl (Nat.le_of_ble_eq_true rfl) dX8_team_10 rfl (fun r4 M3 => ?_)
    refine J_if_eq (tgt := 27) C dX8_team_13 (by decide) (fun _ => ?_) (fun _ => ?_)
    · refine J_aload_n C dX8_team_27 rfl 0 rfl ?_
      refine J_iconst C dX8_team_28 kci_1 ?_
      refine J_cvi (As := [.int (1 : Int32)]) C (c8_refuse (gl g) w o0 h0 (1 : Int32) M3) (gd_v W2_66 W2_68 WP_0 W1_1 W2_69) rfl (by decide) (hdX8_refuse) h0 (by decide) (cl_8) rfl (Nat.le_of_ble_eq_true rfl) dX8_team_29 rfl (fun r6 M5 => ?_)
      exact J_iret C RT rfl dX8_team_32
    · refine J_aload_n C dX8_team_16 rfl 0 rfl ?_
      refine J_getr C fk8_1 W2_38 h0 dX8_team_17 ?_
      refine J_iload_n C dX8_team_20 rfl 2 rfl ?_
      refine J_cvi (As := [.int x2]) C (c2_knowsIn (gl g) w (link o0 1) (tl_8_1 h0) x2 M3) (gd_v W3_212 W3_110 W3_111 W1_3 W3_112) rfl (by decide) (hdX2_knowsIn) (tl_8_1 h0) (by decide) (cl_2) rfl (Nat.le_of_ble_eq_true rfl) dX8_team_21 rfl (fun r8 M7 => ?_)
      refine J_if_ne (tgt := 33) C dX8_team_24 (by decide) (fun _ => ?_) (fun _ => ?_)
      · refine J_iload C dX8_team_33 4 rfl ?_
        refine J_if_lt (tgt := 44) C dX8_team_35 (by decide) (fun _ => ?_) (fun _ => ?_)
        · refine J_aload_n C dX8_team_44 rfl 0 rfl ?_
          refine J_iconst C dX8_team_45 kci_2 ?_
          refine J_cvi (As := [.int (2 : Int32)]) C (c8_refuse (gl g) w o0 h0 (2 : Int32) M7) (gd_v W2_66 W2_68 WP_0 W1_1 W2_69) rfl (by decide) (hdX8_refuse) h0 (by decide) (cl_8) rfl (Nat.le_of_ble_eq_true rfl) dX8_team_46 rfl (fun r10 M9 => ?_)
          exact J_iret C RT rfl dX8_team_49
        · refine J_iload C dX8_team_38 4 rfl ?_
          refine J_iconst C dX8_team_40 kci_1 ?_
          refine J_icmp_le (tgt := 50) C dX8_team_41 (by decide) (fun _ => ?_) (fun _ => ?_)
          · refine J_iload_n C dX8_team_50 rfl 3 rfl ?_
            refine J_iconst C dX8_team_51 kci_1 ?_
            refine J_sipush C dX8_team_52 kcs_200 ?_
            refine J_csi (As := [.int x3, .int (1 : Int32), .int (200 : Int32)]) (dm := 0) C (c8_whyNotWithin (gl g) w x3 (1 : Int32) (200 : Int32) M7) (gd_s W3_66 W2_203 W1_1 W2_204) rfl (by decide) (hdX8_whyNotWithin.2) rfl (Nat.le_of_ble_eq_true rfl) dX8_team_55 rfl (fun r12 M11 => ?_)
            refine J_istore (lv' := [(5, .int r12), (0, .ref (wa w o0)), (1, .int x1), (2, .int x2), (3, .int x3), (4, .int x4)]) C dX8_team_58 (by decide) rfl ?_
            refine J_iload C dX8_team_60 0 rfl ?_
            refine J_if_eq (tgt := 72) C dX8_team_62 (by decide) (fun _ => ?_) (fun _ => ?_)
            · refine J_iload C dX8_team_72 5 rfl ?_
              refine J_if_ne (tgt := 90) C dX8_team_74 (by decide) (fun _ => ?_) (fun _ => ?_)
              · refine J_aload_n C dX8_team_90 rfl 1 rfl ?_
                refine J_getr C fk8_0 W2_37 h0 dX8_team_91 ?_
                refine J_iload_n C dX8_team_94 rfl 2 rfl ?_
                refine J_iload_n C dX8_team_95 rfl 3 rfl ?_
                refine J_iload_n C dX8_team_96 rfl 4 rfl ?_
                refine J_cvi (As := [.int x1, .int x2, .int x3]) C (c0_sitsWhenHeld (gl g) w n (link o0 0) (tl_8_0 h0) x1 x2 x3 M11) (gd_v W4_138 W4_139 W4_140 W1_2 W4_141) rfl (by decide) (hdX0_sitsWhenHeld) (tl_8_0 h0) (by decide) (cl_0) rfl (Nat.le_of_ble_eq_true rfl) dX8_team_97 rfl (fun r14 M13 => ?_)
                exact J_iret C RT rfl dX8_team_100
              · refine J_aload_n C dX8_team_77 rfl 1 rfl ?_
                refine J_getr C fk8_0 W2_37 h0 dX8_team_78 ?_
                refine J_iload_n C dX8_team_81 rfl 2 rfl ?_
                refine J_iload_n C dX8_team_82 rfl 3 rfl ?_
                refine J_iload_n C dX8_team_83 rfl 4 rfl ?_
                refine J_cvi (As := [.int x1, .int x2, .int x3]) C (c0_teamGain (gl g) w n (link o0 0) (tl_8_0 h0) x1 x2 x3 M11) (gd_v W4_134 W4_135 W4_136 W1_2 W4_137) rfl (by decide) (hdX0_teamGain) (tl_8_0 h0) (by decide) (cl_0) rfl (Nat.le_of_ble_eq_true rfl) dX8_team_84 rfl (fun r16 M15 => ?_)
                refine J_goto (tgt := 100) C dX8_team_87 (by decide) ?_
                exact J_iret C RT rfl dX8_team_100
            · refine J_aload_n C dX8_team_65 rfl 1 rfl ?_
              refine J_iload C dX8_team_66 0 rfl ?_
              refine J_cvi (As := [.int r12]) C (c8_refuse (gl g) w o0 h0 r12 M11) (gd_v W2_66 W2_68 WP_0 W1_1 W2_69) rfl (by decide) (hdX8_refuse) h0 (by decide) (cl_8) rfl (Nat.le_of_ble_eq_true rfl) dX8_team_68 rfl (fun r18 M17 => ?_)
              exact J_iret C RT rfl dX8_team_71
          · refine J_aload_n C dX8_team_44 rfl 0 rfl ?_
            refine J_iconst C dX8_team_45 kci_2 ?_
            refine J_cvi (As := [.int (2 : Int32)]) C (c8_refuse (gl g) w o0 h0 (2 : Int32) M7) (gd_v W2_66 W2_68 WP_0 W1_1 W2_69) rfl (by decide) (hdX8_refuse) h0 (by decide) (cl_8) rfl (Nat.le_of_ble_eq_true rfl) dX8_team_46 rfl (fun r20 M19 => ?_)
            exact J_iret C RT rfl dX8_team_49
      · refine J_aload_n C dX8_team_27 rfl 0 rfl ?_
        refine J_iconst C dX8_team_28 kci_1 ?_
        refine J_cvi (As := [.int (1 : Int32)]) C (c8_refuse (gl g) w o0 h0 (1 : Int32) M7) (gd_v W2_66 W2_68 WP_0 W1_1 W2_69) rfl (by decide) (hdX8_refuse) h0 (by decide) (cl_8) rfl (Nat.le_of_ble_eq_true rfl) dX8_team_29 rfl (fun r22 M21 => ?_)
        exact J_iret C RT rfl dX8_team_32
theorem c8_team (l : Launch) (w : WE) (n : Nat) (o0 : Nat) (h0 : typ o0 = 8) (x1 : Int32) (x2 : Int32) (x3 : Int32) (x4 : Int32) (M : Mem) : MC l w yX8_team (wz yX8_team cX8_team 6 (some .int)) rm8_team [.ref (wa w o0), .int x1, .int x2, .int x3, .int x4] (s8_team n o0 x1 x2 x3 x4 M) M :=
  mc_of_J (own := RX8) rfl (by decide) rfl rfl (Nat.le_of_ble_eq_true rfl) (fun _ _ C RT => b8_team C RT n o0 h0 x1 x2 x3 x4 M)
theorem hdX8_team : yX8_team.cls = RX8 ∧ yOK yX8_team 4 := ⟨rfl, by decide, by decide, by decide⟩
abbrev rm8_film : Room := { frames := 2, cells := 0, slots := 0, locals := 41 }
def s8_film (o0 : Nat) (x1 : Int32) (M : Mem) : Option Res := cb (s4_isPlace (link (link o0 1) 0) x1 M) (fun r2 M1 => if r2 = 0 then (cb (s8_refuse o0 (1 : Int32) M1) (fun r10 M9 => some (r10, M9))) else (cb (s1_isFull (link o0 4) M1) (fun r4 M3 => if r4 = 0 then (cb (s1_append (link o0 4) x1 M3) (fun r6 M5 => some (r6, M5))) else (cb (s8_refuse o0 (6 : Int32) M3) (fun r8 M7 => some (r8, M7))))))
set_option maxRecDepth 100000 in
set_option maxHeartbeats 4000000 in
theorem b8_film {w : WE} {g : GT} (C : CT w g RX8 cX8_film rm8_film 2) (RT : RTi w g cX8_film .int) (o0 : Nat) (h0 : typ o0 = 8) (x1 : Int32) (M : Mem) : J w g (s8_film o0 x1 M) M 0 [(0, .ref (wa w o0)), (1, .int x1)] [] := by
  rw [s8_film]
  refine J_aload_n C dX8_film_0 rfl 0 rfl ?_
  refine J_getr C fk8_1 W2_38 h0 dX8_film_1 ?_
  refine J_getr C fk2_0 W1_164 (tl_8_1 h0) dX8_film_4 ?_
  refine J_iload_n C dX8_film_7 rfl 1 rfl ?_
  refine J_cvi (As := [.int x1]) C (c4_isPlace (gl g) w (link (link o0 1) 0) (tl_2_0 (tl_8_1 h0)) x1 M) (gd_v W3_83 W2_214 W2_215 W1_4 W2_216) rfl (by decide) (hdX4_isPlace) (tl_2_0 (tl_8_1 h0)) (by decide) (cl_4) rfl (Nat.le_of_ble_eq_true rfl) dX8_film_8 rfl (fun r2 M1 => ?_)
  refine J_if_ne (tgt := 20) C dX8_film_11 (by decide) (fun _ => ?_) (fun _ => ?_)
  · refine J_aload_n C dX8_film_20 rfl 0 rfl ?_
    refine J_getr C fk8_4 W2_41 h0 dX8_film_21 ?_
    refine J_cvi (As := []) C (c1_isFull (gl g) w (link o0 4) (tl_8_4 h0) M1) (gd_v W4_97 W4_98 W4_99 W1_8 W4_100) rfl (by decide) (hdX1_isFull) (tl_8_4 h0) (by decide) (cl_1) rfl (Nat.le_of_ble_eq_true rfl) dX8_film_24 rfl (fun r4 M3 => ?_)
    refine J_if_eq (tgt := 39) C dX8_film_27 (by decide) (fun _ => ?_) (fun _ => ?_)
    · refine J_aload_n C dX8_film_39 rfl 0 rfl ?_
      refine J_getr C fk8_4 W2_41 h0 dX8_film_40 ?_
      refine J_iload_n C dX8_film_43 rfl 1 rfl ?_
      refine J_cvi (As := [.int x1]) C (c1_append (gl g) w (link o0 4) (tl_8_4 h0) x1 M3) (gd_v W4_101 W4_102 W4_103 W1_8 W4_104) rfl (by decide) (hdX1_append) (tl_8_4 h0) (by decide) (cl_1) rfl (Nat.le_of_ble_eq_true rfl) dX8_film_44 rfl (fun r6 M5 => ?_)
      exact J_iret C RT rfl dX8_film_47
    · refine J_aload_n C dX8_film_30 rfl 0 rfl ?_
      refine J_bipush C dX8_film_31 kcb_6 ?_
      refine J_cvi (As := [.int (6 : Int32)]) C (c8_refuse (gl g) w o0 h0 (6 : Int32) M3) (gd_v W2_66 W2_68 WP_0 W1_1 W2_69) rfl (by decide) (hdX8_refuse) h0 (by decide) (cl_8) rfl (Nat.le_of_ble_eq_true rfl) dX8_film_33 rfl (fun r8 M7 => ?_)
      refine J_goto (tgt := 47) C dX8_film_36 (by decide) ?_
      exact J_iret C RT rfl dX8_film_47
  · refine J_aload_n C dX8_film_14 rfl 0 rfl ?_
    refine J_iconst C dX8_film_15 kci_1 ?_
    refine J_cvi (As := [.int (1 : Int32)]) C (c8_refuse (gl g) w o0 h0 (1 : Int32) M1) (gd_v W2_66 W2_68 WP_0 W1_1 W2_69) rfl (by decide) (hdX8_refuse) h0 (by decide) (cl_8) rfl (Nat.le_of_ble_eq_true rfl) dX8_film_16 rfl (fun r10 M9 => ?_)
    exact J_iret C RT rfl dX8_film_19
theorem c8_film (l : Launch) (w : WE) (o0 : Nat) (h0 : typ o0 = 8) (x1 : Int32) (M : Mem) : MC l w yX8_film (wz yX8_film cX8_film 2 (some .int)) rm8_film [.ref (wa w o0), .int x1] (s8_film o0 x1 M) M :=
  mc_of_J (own := RX8) rfl (by decide) rfl rfl (Nat.le_of_ble_eq_true rfl) (fun _ _ C RT => b8_film C RT o0 h0 x1 M)
theorem hdX8_film : yX8_film.cls = RX8 ∧ yOK yX8_film 1 := ⟨rfl, by decide, by decide, by decide⟩
abbrev rm8_judge : Room := { frames := 4, cells := 0, slots := 0, locals := 106 }
def s8_judge (n : Nat) (o0 : Nat) (x1 : Int32) (M : Mem) : Option Res := cb (s2_knowsIn (link o0 1) x1 M) (fun r2 M1 => if r2 = 0 then (cb (s8_refuse o0 (1 : Int32) M1) (fun r7 M6 => some (r7, M6))) else (cb (s0_firstWrong n (link o0 0) x1 (link o0 4) M1) (fun r4 M3 => mlet (mset M3 (link o0 4) 1 (0 : Int32)) (fun M5 => some (r4, M5)))))
set_option maxRecDepth 100000 in
set_option maxHeartbeats 4000000 in
theorem b8_judge {w : WE} {g : GT} (C : CT w g RX8 cX8_judge rm8_judge 3) (RT : RTi w g cX8_judge .int) (n : Nat) (o0 : Nat) (h0 : typ o0 = 8) (x1 : Int32) (M : Mem) : J w g (s8_judge n o0 x1 M) M 0 [(0, .ref (wa w o0)), (1, .int x1)] [] := by
  rw [s8_judge]
  refine J_aload_n C dX8_judge_0 rfl 0 rfl ?_
  refine J_getr C fk8_1 W2_38 h0 dX8_judge_1 ?_
  refine J_iload_n C dX8_judge_4 rfl 1 rfl ?_
  refine J_cvi (As := [.int x1]) C (c2_knowsIn (gl g) w (link o0 1) (tl_8_1 h0) x1 M) (gd_v W3_212 W3_110 W3_111 W1_3 W3_112) rfl (by decide) (hdX2_knowsIn) (tl_8_1 h0) (by decide) (cl_2) rfl (Nat.le_of_ble_eq_true rfl) dX8_judge_5 rfl (fun r2 M1 => ?_)
  refine J_if_ne (tgt := 17) C dX8_judge_8 (by decide) (fun _ => ?_) (fun _ => ?_)
  · refine J_aload_n C dX8_judge_17 rfl 0 rfl ?_
    refine J_getr C fk8_0 W2_37 h0 dX8_judge_18 ?_
    refine J_iload_n C dX8_judge_21 rfl 1 rfl ?_
    refine J_aload_n C dX8_judge_22 rfl 0 rfl ?_
    refine J_getr C fk8_4 W2_41 h0 dX8_judge_23 ?_
    refine J_cvi (As := [.int x1, .ref (wa w (link o0 4))]) C (c0_firstWrong (gl g) w n (link o0 0) (tl_8_0 h0) x1 (link o0 4) (tl_8_4 h0) M1) (gd_v W4_152 W4_153 W4_154 W1_2 W4_155) rfl (by decide) (hdX0_firstWrong) (tl_8_0 h0) (by decide) (cl_0) rfl (Nat.le_of_ble_eq_true rfl) dX8_judge_26 rfl (fun r4 M3 => ?_)
    refine J_istore_n (lv' := [(2, .int r4), (0, .ref (wa w o0)), (1, .int x1)]) C dX8_judge_29 rfl (by decide) rfl ?_
    refine J_aload_n C dX8_judge_30 rfl 1 rfl ?_
    refine J_getr C fk8_4 W2_41 h0 dX8_judge_31 ?_
    refine J_iconst C dX8_judge_34 kci_0 ?_
    refine J_puti C fk1_1 W2_3 fp1_1 (tl_8_4 h0) dX8_judge_35 ?_
    refine J_mlet (fun M5 => ?_)
    refine J_iload_n C dX8_judge_38 rfl 0 rfl ?_
    exact J_iret C RT rfl dX8_judge_39
  · refine J_aload_n C dX8_judge_11 rfl 0 rfl ?_
    refine J_iconst C dX8_judge_12 kci_1 ?_
    refine J_cvi (As := [.int (1 : Int32)]) C (c8_refuse (gl g) w o0 h0 (1 : Int32) M1) (gd_v W2_66 W2_68 WP_0 W1_1 W2_69) rfl (by decide) (hdX8_refuse) h0 (by decide) (cl_8) rfl (Nat.le_of_ble_eq_true rfl) dX8_judge_13 rfl (fun r7 M6 => ?_)
    exact J_iret C RT rfl dX8_judge_16
theorem c8_judge (l : Launch) (w : WE) (n : Nat) (o0 : Nat) (h0 : typ o0 = 8) (x1 : Int32) (M : Mem) : MC l w yX8_judge (wz yX8_judge cX8_judge 3 (some .int)) rm8_judge [.ref (wa w o0), .int x1] (s8_judge n o0 x1 M) M :=
  mc_of_J (own := RX8) rfl (by decide) rfl rfl (Nat.le_of_ble_eq_true rfl) (fun _ _ C RT => b8_judge C RT n o0 h0 x1 M)
theorem hdX8_judge : yX8_judge.cls = RX8 ∧ yOK yX8_judge 1 := ⟨rfl, by decide, by decide, by decide⟩
abbrev rm8_image : Room := { frames := 3, cells := 0, slots := 0, locals := 83 }
def s8_image (n : Nat) (o0 : Nat) (M : Mem) : Option Res := cb (s2_become n (link o0 2) (link o0 1) M) (fun _ M1 => mlet (mset M1 o0 7 (1 : Int32)) (fun M3 => some (M3 (link o0 2) 5, M3)))
set_option maxRecDepth 100000 in
set_option maxHeartbeats 4000000 in
theorem b8_image {w : WE} {g : GT} (C : CT w g RX8 cX8_image rm8_image 1) (RT : RTi w g cX8_image .int) (n : Nat) (o0 : Nat) (h0 : typ o0 = 8) (M : Mem) : J w g (s8_image n o0 M) M 0 [(0, .ref (wa w o0))] [] := by
  rw [s8_image]
  refine J_aload_n C dX8_image_0 rfl 0 rfl ?_
  refine J_getr C fk8_2 W2_39 h0 dX8_image_1 ?_
  refine J_aload_n C dX8_image_4 rfl 0 rfl ?_
  refine J_getr C fk8_1 W2_38 h0 dX8_image_5 ?_
  refine J_cvv (As := [.ref (wa w (link o0 1))]) C (c2_become (gl g) w n (link o0 2) (tl_8_2 h0) (link o0 1) (tl_8_1 h0) M) (gd_v W4_161 W2_171 W2_172 W1_3 W2_173) rfl (by decide) (hdX2_become) (tl_8_2 h0) (by decide) (cl_2) rfl (Nat.le_of_ble_eq_true rfl) dX8_image_8 rfl (fun r2 M1 => ?_)
  refine J_aload_n C dX8_image_11 rfl 0 rfl ?_
  refine J_iconst C dX8_image_12 kci_1 ?_
  refine J_putzc C (by decide) fk8_7 W2_44 fp8_7 h0 dX8_image_13 ?_
  refine J_mlet (fun M3 => ?_)
  refine J_aload_n C dX8_image_16 rfl 0 rfl ?_
  refine J_getr C fk8_2 W2_39 h0 dX8_image_17 ?_
  refine J_geti C fk2_5 W1_182 (tl_8_2 h0) dX8_image_20 ?_
  exact J_iret C RT rfl dX8_image_23
theorem c8_image (l : Launch) (w : WE) (n : Nat) (o0 : Nat) (h0 : typ o0 = 8) (M : Mem) : MC l w yX8_image (wz yX8_image cX8_image 1 (some .int)) rm8_image [.ref (wa w o0)] (s8_image n o0 M) M :=
  mc_of_J (own := RX8) rfl (by decide) rfl rfl (Nat.le_of_ble_eq_true rfl) (fun _ _ C RT => b8_image C RT n o0 h0 M)
theorem hdX8_image : yX8_image.cls = RX8 ∧ yOK yX8_image 0 := ⟨rfl, by decide, by decide, by decide⟩
abbrev rm8_restore : Room := { frames := 3, cells := 0, slots := 0, locals := 83 }
def s8_restore (n : Nat) (o0 : Nat) (M : Mem) : Option Res := if (M o0 7) = 0 then (cb (s8_refuse o0 (3 : Int32) M) (fun r4 M3 => some (r4, M3))) else (cb (s2_become n (link o0 1) (link o0 2) M) (fun _ M1 => some (M1 (link o0 1) 5, M1)))
set_option maxRecDepth 100000 in
set_option maxHeartbeats 4000000 in
theorem b8_restore {w : WE} {g : GT} (C : CT w g RX8 cX8_restore rm8_restore 1) (RT : RTi w g cX8_restore .int) (n : Nat) (o0 : Nat) (h0 : typ o0 = 8) (M : Mem) : J w g (s8_restore n o0 M) M 0 [(0, .ref (wa w o0))] [] := by
  rw [s8_restore]
  refine J_aload_n C dX8_restore_0 rfl 0 rfl ?_
  refine J_geti C fk8_7 W2_44 h0 dX8_restore_1 ?_
  refine J_if_ne (tgt := 13) C dX8_restore_4 (by decide) (fun _ => ?_) (fun _ => ?_)
  · refine J_aload_n C dX8_restore_13 rfl 0 rfl ?_
    refine J_getr C fk8_1 W2_38 h0 dX8_restore_14 ?_
    refine J_aload_n C dX8_restore_17 rfl 0 rfl ?_
    refine J_getr C fk8_2 W2_39 h0 dX8_restore_18 ?_
    refine J_cvv (As := [.ref (wa w (link o0 2))]) C (c2_become (gl g) w n (link o0 1) (tl_8_1 h0) (link o0 2) (tl_8_2 h0) M) (gd_v W4_161 W2_171 W2_172 W1_3 W2_173) rfl (by decide) (hdX2_become) (tl_8_1 h0) (by decide) (cl_2) rfl (Nat.le_of_ble_eq_true rfl) dX8_restore_21 rfl (fun r2 M1 => ?_)
    refine J_aload_n C dX8_restore_24 rfl 0 rfl ?_
    refine J_getr C fk8_1 W2_38 h0 dX8_restore_25 ?_
    refine J_geti C fk2_5 W1_182 (tl_8_1 h0) dX8_restore_28 ?_
    exact J_iret C RT rfl dX8_restore_31
  · refine J_aload_n C dX8_restore_7 rfl 0 rfl ?_
    refine J_iconst C dX8_restore_8 kci_3 ?_
    refine J_cvi (As := [.int (3 : Int32)]) C (c8_refuse (gl g) w o0 h0 (3 : Int32) M) (gd_v W2_66 W2_68 WP_0 W1_1 W2_69) rfl (by decide) (hdX8_refuse) h0 (by decide) (cl_8) rfl (Nat.le_of_ble_eq_true rfl) dX8_restore_9 rfl (fun r4 M3 => ?_)
    exact J_iret C RT rfl dX8_restore_12
theorem c8_restore (l : Launch) (w : WE) (n : Nat) (o0 : Nat) (h0 : typ o0 = 8) (M : Mem) : MC l w yX8_restore (wz yX8_restore cX8_restore 1 (some .int)) rm8_restore [.ref (wa w o0)] (s8_restore n o0 M) M :=
  mc_of_J (own := RX8) rfl (by decide) rfl rfl (Nat.le_of_ble_eq_true rfl) (fun _ _ C RT => b8_restore C RT n o0 h0 M)
theorem hdX8_restore : yX8_restore.cls = RX8 ∧ yOK yX8_restore 0 := ⟨rfl, by decide, by decide, by decide⟩
abbrev rm8_count : Room := { frames := 2, cells := 0, slots := 0, locals := 43 }
def s8_count_22 (n : Nat) (o0 : Nat) (x1 : Int32) (M : Mem) : Option Res := if x1 = 0 then (some (M (link (link o0 1) 0) 0, M)) else (if x1 = 1 then (some (M (link (link o0 1) 0) 1, M)) else (if x1 = 2 then (some (M (link o0 1) 5, M)) else (if x1 = 3 then (cb (s2_countIn n (link o0 1) M) (fun r2 M1 => some (r2, M1))) else (if x1 = 4 then (some (M (link o0 1) 7, M)) else (if x1 = 5 then (some (M (link o0 1) 8, M)) else (if x1 = 6 then (some (M (link o0 3) 1, M)) else (if x1 = 7 then (some (M (link o0 4) 1, M)) else (if x1 = 8 then (some (M (link o0 5) 4, M)) else (some ((-9 : Int32), M))))))))))
set_option maxRecDepth 100000 in
set_option maxHeartbeats 4000000 in
theorem b8_count_22 {w : WE} {g : GT} (C : CT w g RX8 cX8_count rm8_count 2) (RT : RTi w g cX8_count .int) (n : Nat) (o0 : Nat) (h0 : typ o0 = 8) (x1 : Int32) (M : Mem) : J w g (s8_count_22 n o0 x1 M) M 22 [(0, .ref (wa w o0)), (1, .int x1)] [] := by
  rw [s8_count_22]
  refine J_iload_n C dX8_count_22 rfl 1 rfl ?_
  refine J_ite (fun hc0 => ?_) (fun hc0 => ?_)
  · refine J_tsin (tgt := 72) C dX8_count_23 (by rw [hc0]; decide) (by rw [hc0]; decide) (off := 49) (by rw [hc0]; rfl) (by decide) ?_
    refine J_aload_n C dX8_count_72 rfl 0 rfl ?_
    refine J_getr C fk8_1 W2_38 h0 dX8_count_73 ?_
    refine J_getr C fk2_0 W1_164 (tl_8_1 h0) dX8_count_76 ?_
    refine J_geti C fk4_0 W1_47 (tl_2_0 (tl_8_1 h0)) dX8_count_79 ?_
    exact J_iret C RT rfl dX8_count_82
  · refine J_ite (fun hc1 => ?_) (fun hc1 => ?_)
    · refine J_tsin (tgt := 83) C dX8_count_23 (by rw [hc1]; decide) (by rw [hc1]; decide) (off := 60) (by rw [hc1]; rfl) (by decide) ?_
      refine J_aload_n C dX8_count_83 rfl 0 rfl ?_
      refine J_getr C fk8_1 W2_38 h0 dX8_count_84 ?_
      refine J_getr C fk2_0 W1_164 (tl_8_1 h0) dX8_count_87 ?_
      refine J_geti C fk4_1 W1_52 (tl_2_0 (tl_8_1 h0)) dX8_count_90 ?_
      exact J_iret C RT rfl dX8_count_93
    · refine J_ite (fun hc2 => ?_) (fun hc2 => ?_)
      · refine J_tsin (tgt := 94) C dX8_count_23 (by rw [hc2]; decide) (by rw [hc2]; decide) (off := 71) (by rw [hc2]; rfl) (by decide) ?_
        refine J_aload_n C dX8_count_94 rfl 0 rfl ?_
        refine J_getr C fk8_1 W2_38 h0 dX8_count_95 ?_
        refine J_geti C fk2_5 W1_182 (tl_8_1 h0) dX8_count_98 ?_
        exact J_iret C RT rfl dX8_count_101
      · refine J_ite (fun hc3 => ?_) (fun hc3 => ?_)
        · refine J_tsin (tgt := 102) C dX8_count_23 (by rw [hc3]; decide) (by rw [hc3]; decide) (off := 79) (by rw [hc3]; rfl) (by decide) ?_
          refine J_aload_n C dX8_count_102 rfl 0 rfl ?_
          refine J_getr C fk8_1 W2_38 h0 dX8_count_103 ?_
          refine J_cvi (As := []) C (c2_countIn (gl g) w n (link o0 1) (tl_8_1 h0) M) (gd_v W4_170 W3_106 W3_107 W1_3 W3_108) rfl (by decide) (hdX2_countIn) (tl_8_1 h0) (by decide) (cl_2) rfl (Nat.le_of_ble_eq_true rfl) dX8_count_106 rfl (fun r2 M1 => ?_)
          exact J_iret C RT rfl dX8_count_109
        · refine J_ite (fun hc4 => ?_) (fun hc4 => ?_)
          · refine J_tsin (tgt := 110) C dX8_count_23 (by rw [hc4]; decide) (by rw [hc4]; decide) (off := 87) (by rw [hc4]; rfl) (by decide) ?_
            refine J_aload_n C dX8_count_110 rfl 0 rfl ?_
            refine J_getr C fk8_1 W2_38 h0 dX8_count_111 ?_
            refine J_geti C fk2_7 W1_188 (tl_8_1 h0) dX8_count_114 ?_
            exact J_iret C RT rfl dX8_count_117
          · refine J_ite (fun hc5 => ?_) (fun hc5 => ?_)
            · refine J_tsin (tgt := 118) C dX8_count_23 (by rw [hc5]; decide) (by rw [hc5]; decide) (off := 95) (by rw [hc5]; rfl) (by decide) ?_
              refine J_aload_n C dX8_count_118 rfl 0 rfl ?_
              refine J_getr C fk8_1 W2_38 h0 dX8_count_119 ?_
              refine J_geti C fk2_8 W1_190 (tl_8_1 h0) dX8_count_122 ?_
              exact J_iret C RT rfl dX8_count_125
            · refine J_ite (fun hc6 => ?_) (fun hc6 => ?_)
              · refine J_tsin (tgt := 126) C dX8_count_23 (by rw [hc6]; decide) (by rw [hc6]; decide) (off := 103) (by rw [hc6]; rfl) (by decide) ?_
                refine J_aload_n C dX8_count_126 rfl 0 rfl ?_
                refine J_getr C fk8_3 W2_40 h0 dX8_count_127 ?_
                refine J_geti C fk1_1 W2_3 (tl_8_3 h0) dX8_count_130 ?_
                exact J_iret C RT rfl dX8_count_133
              · refine J_ite (fun hc7 => ?_) (fun hc7 => ?_)
                · refine J_tsin (tgt := 134) C dX8_count_23 (by rw [hc7]; decide) (by rw [hc7]; decide) (off := 111) (by rw [hc7]; rfl) (by decide) ?_
                  refine J_aload_n C dX8_count_134 rfl 0 rfl ?_
                  refine J_getr C fk8_4 W2_41 h0 dX8_count_135 ?_
                  refine J_geti C fk1_1 W2_3 (tl_8_4 h0) dX8_count_138 ?_
                  exact J_iret C RT rfl dX8_count_141
                · refine J_ite (fun hc8 => ?_) (fun hc8 => ?_)
                  · refine J_tsin (tgt := 142) C dX8_count_23 (by rw [hc8]; decide) (by rw [hc8]; decide) (off := 119) (by rw [hc8]; rfl) (by decide) ?_
                    refine J_aload_n C dX8_count_142 rfl 0 rfl ?_
                    refine J_getr C fk8_5 W2_42 h0 dX8_count_143 ?_
                    refine J_geti C fk6_4 W2_20 (tl_8_5 h0) dX8_count_146 ?_
                    exact J_iret C RT rfl dX8_count_149
                  · refine J_tsout (tgt := 150) C dX8_count_23 (by have q0 := lv_neT hc0 (a := 0) rfl; have q1 := lv_neT hc1 (a := 1) rfl; have q2 := lv_neT hc2 (a := 2) rfl; have q3 := lv_neT hc3 (a := 3) rfl; have q4 := lv_neT hc4 (a := 4) rfl; have q5 := lv_neT hc5 (a := 5) rfl; have q6 := lv_neT hc6 (a := 6) rfl; have q7 := lv_neT hc7 (a := 7) rfl; have q8 := lv_neT hc8 (a := 8) rfl; omega) (by decide) ?_
                    refine J_bipush C dX8_count_150 kcb_m9 ?_
                    exact J_iret C RT rfl dX8_count_152
def s8_count (n : Nat) (o0 : Nat) (x1 : Int32) (M : Mem) : Option Res := if x1 < (11 : Int32) then (s8_count_22 n o0 x1 M) else (if (16 : Int32) < x1 then (s8_count_22 n o0 x1 M) else (if inB (x1 - (10 : Int32)) (alen (link o0 6)) then some (M (link o0 6) (x1 - (10 : Int32)).toNatClampNeg, M) else none))
set_option maxRecDepth 100000 in
set_option maxHeartbeats 4000000 in
theorem b8_count {w : WE} {g : GT} (C : CT w g RX8 cX8_count rm8_count 2) (RT : RTi w g cX8_count .int) (n : Nat) (o0 : Nat) (h0 : typ o0 = 8) (x1 : Int32) (M : Mem) : J w g (s8_count n o0 x1 M) M 0 [(0, .ref (wa w o0)), (1, .int x1)] [] := by
  rw [s8_count]
  refine J_iload_n C dX8_count_0 rfl 1 rfl ?_
  refine J_bipush C dX8_count_1 kcb_11 ?_
  refine J_icmp_lt (tgt := 22) C dX8_count_3 (by decide) (fun _ => ?_) (fun _ => ?_)
  · exact b8_count_22 C RT n o0 h0 x1 M
  · refine J_iload_n C dX8_count_6 rfl 1 rfl ?_
    refine J_bipush C dX8_count_7 kcb_16 ?_
    refine J_icmp_gt (tgt := 22) C dX8_count_9 (by decide) (fun _ => ?_) (fun _ => ?_)
    · exact b8_count_22 C RT n o0 h0 x1 M
    · refine J_aload_n C dX8_count_12 rfl 0 rfl ?_
      refine J_getr C fk8_6 W2_43 h0 dX8_count_13 ?_
      refine J_iload_n C dX8_count_16 rfl 1 rfl ?_
      refine J_bipush C dX8_count_17 kcb_10 ?_
      refine J_isub C dX8_count_19 ?_
      refine J_aload_ C (tl_8_6 h0) dX8_count_20 ?_
      exact J_iret C RT rfl dX8_count_21
theorem c8_count (l : Launch) (w : WE) (n : Nat) (o0 : Nat) (h0 : typ o0 = 8) (x1 : Int32) (M : Mem) : MC l w yX8_count (wz yX8_count cX8_count 2 (some .int)) rm8_count [.ref (wa w o0), .int x1] (s8_count n o0 x1 M) M :=
  mc_of_J (own := RX8) rfl (by decide) rfl rfl (Nat.le_of_ble_eq_true rfl) (fun _ _ C RT => b8_count C RT n o0 h0 x1 M)
theorem hdX8_count : yX8_count.cls = RX8 ∧ yOK yX8_count 1 := ⟨rfl, by decide, by decide, by decide⟩
abbrev rm9_no : Room := { frames := 0, cells := 0, slots := 0, locals := 0 }
def s9_no (o0 : Nat) (x1 : Int32) (M : Mem) : Option Res := if inB (-x1) (alen (link o0 0)) then if inB (-x1) (alen (link o0 0)) then mlet (mset M (link o0 0) (-x1).toNatClampNeg ((M (link o0 0) (-x1).toNatClampNeg) + (1 : Int32))) (fun M1 => some (x1, M1)) else none else none
set_option maxRecDepth 100000 in
set_option maxHeartbeats 4000000 in
theorem b9_no {w : WE} {g : GT} (C : CT w g RX9 cX9_no rm9_no 2) (RT : RTi w g cX9_no .int) (o0 : Nat) (h0 : typ o0 = 9) (x1 : Int32) (M : Mem) : J w g (s9_no o0 x1 M) M 0 [(0, .ref (wa w o0)), (1, .int x1)] [] := by
  rw [s9_no]
  refine J_aload_n C dX9_no_0 rfl 0 rfl ?_
  refine J_getr C fk9_0 W4_177 h0 dX9_no_1 ?_
  refine J_iload_n C dX9_no_4 rfl 1 rfl ?_
  refine J_ineg C dX9_no_5 ?_
  refine J_dup2 C rfl rfl dX9_no_6 ?_
  refine J_aload_ C (tl_9_0 h0) dX9_no_7 ?_
  refine J_iconst C dX9_no_8 kci_1 ?_
  refine J_iadd C dX9_no_9 ?_
  refine J_iastore C (tl_9_0 h0) dX9_no_10 ?_
  refine J_mlet (fun M1 => ?_)
  refine J_iload_n C dX9_no_11 rfl 1 rfl ?_
  exact J_iret C RT rfl dX9_no_12
theorem c9_no (l : Launch) (w : WE) (o0 : Nat) (h0 : typ o0 = 9) (x1 : Int32) (M : Mem) : MC l w yX9_no (wz yX9_no cX9_no 2 (some .int)) rm9_no [.ref (wa w o0), .int x1] (s9_no o0 x1 M) M :=
  mc_of_J (own := RX9) rfl (by decide) rfl rfl (Nat.le_of_ble_eq_true rfl) (fun _ _ C RT => b9_no C RT o0 h0 x1 M)
theorem hdX9_no : yX9_no.cls = RX9 ∧ yOK yX9_no 1 := ⟨rfl, by decide, by decide, by decide⟩
abbrev rm9_isIn : Room := { frames := 0, cells := 0, slots := 0, locals := 0 }
def s9_isIn (x0 : Int32) (x1 : Int32) (x2 : Int32) (M : Mem) : Option Res := if x0 < x1 then (some ((0 : Int32), M)) else (if x2 < x0 then (some ((0 : Int32), M)) else (some ((1 : Int32), M)))
set_option maxRecDepth 100000 in
set_option maxHeartbeats 4000000 in
theorem b9_isIn {w : WE} {g : GT} (C : CT w g RX9 cX9_isIn rm9_isIn 3) (RT : RTi w g cX9_isIn .boolean) (x0 : Int32) (x1 : Int32) (x2 : Int32) (M : Mem) : J w g (s9_isIn x0 x1 x2 M) M 0 [(0, .int x0), (1, .int x1), (2, .int x2)] [] := by
  rw [s9_isIn]
  refine J_iload_n C dX9_isIn_0 rfl 0 rfl ?_
  refine J_iload_n C dX9_isIn_1 rfl 1 rfl ?_
  refine J_icmp_lt (tgt := 14) C dX9_isIn_2 (by decide) (fun _ => ?_) (fun _ => ?_)
  · refine J_iconst C dX9_isIn_14 kci_0 ?_
    exact J_iret C RT (by decide) dX9_isIn_15
  · refine J_iload_n C dX9_isIn_5 rfl 0 rfl ?_
    refine J_iload_n C dX9_isIn_6 rfl 2 rfl ?_
    refine J_icmp_gt (tgt := 14) C dX9_isIn_7 (by decide) (fun _ => ?_) (fun _ => ?_)
    · refine J_iconst C dX9_isIn_14 kci_0 ?_
      exact J_iret C RT (by decide) dX9_isIn_15
    · refine J_iconst C dX9_isIn_10 kci_1 ?_
      refine J_goto (tgt := 15) C dX9_isIn_11 (by decide) ?_
      exact J_iret C RT (by decide) dX9_isIn_15
theorem c9_isIn (l : Launch) (w : WE) (x0 : Int32) (x1 : Int32) (x2 : Int32) (M : Mem) : MC l w yX9_isIn (wz yX9_isIn cX9_isIn 3 (some .boolean)) rm9_isIn [.int x0, .int x1, .int x2] (s9_isIn x0 x1 x2 M) M :=
  mc_of_J (own := RX9) rfl (by decide) rfl rfl (Nat.le_of_ble_eq_true rfl) (fun _ _ C RT => b9_isIn C RT x0 x1 x2 M)
theorem hdX9_isIn : yX9_isIn.cls = RX9 ∧ yOK yX9_isIn 3 := ⟨rfl, by decide, by decide, by decide⟩
abbrev rm9_bound : Room := { frames := 0, cells := 0, slots := 0, locals := 0 }
def s9_bound (x0 : Int32) (x1 : Int32) (x2 : Int32) (M : Mem) : Option Res := if x1 ≤ x0 then (if x0 ≤ x2 then (some ((0 : Int32), M)) else (some ((-6 : Int32), M))) else (some ((-4 : Int32), M))
set_option maxRecDepth 100000 in
set_option maxHeartbeats 4000000 in
theorem b9_bound {w : WE} {g : GT} (C : CT w g RX9 cX9_bound rm9_bound 3) (RT : RTi w g cX9_bound .int) (x0 : Int32) (x1 : Int32) (x2 : Int32) (M : Mem) : J w g (s9_bound x0 x1 x2 M) M 0 [(0, .int x0), (1, .int x1), (2, .int x2)] [] := by
  rw [s9_bound]
  refine J_iload_n C dX9_bound_0 rfl 0 rfl ?_
  refine J_iload_n C dX9_bound_1 rfl 1 rfl ?_
  refine J_icmp_ge (tgt := 10) C dX9_bound_2 (by decide) (fun _ => ?_) (fun _ => ?_)
  · refine J_iload_n C dX9_bound_10 rfl 0 rfl ?_
    refine J_iload_n C dX9_bound_11 rfl 2 rfl ?_
    refine J_icmp_le (tgt := 20) C dX9_bound_12 (by decide) (fun _ => ?_) (fun _ => ?_)
    · refine J_iconst C dX9_bound_20 kci_0 ?_
      exact J_iret C RT rfl dX9_bound_21
    · refine J_bipush C dX9_bound_15 kcb_m6 ?_
      refine J_goto (tgt := 21) C dX9_bound_17 (by decide) ?_
      exact J_iret C RT rfl dX9_bound_21
  · refine J_bipush C dX9_bound_5 kcb_m4 ?_
    refine J_goto (tgt := 21) C dX9_bound_7 (by decide) ?_
    exact J_iret C RT rfl dX9_bound_21
theorem c9_bound (l : Launch) (w : WE) (x0 : Int32) (x1 : Int32) (x2 : Int32) (M : Mem) : MC l w yX9_bound (wz yX9_bound cX9_bound 3 (some .int)) rm9_bound [.int x0, .int x1, .int x2] (s9_bound x0 x1 x2 M) M :=
  mc_of_J (own := RX9) rfl (by decide) rfl rfl (Nat.le_of_ble_eq_true rfl) (fun _ _ C RT => b9_bound C RT x0 x1 x2 M)
theorem hdX9_bound : yX9_bound.cls = RX9 ∧ yOK yX9_bound 3 := ⟨rfl, by decide, by decide, by decide⟩
