abbrev rm9_odds : Room := { frames := 6, cells := 0, slots := 0, locals := 140 }
def s9_odds (n : Nat) (o0 : Nat) (x1 : Int32) (x2 : Int32) (M : Mem) : Option Res := cb (s9_notOdds o0 x1 x2 M) (fun r2 M1 => if r2 = 0 then (cb (s9_oddsOf n o0 x1 x2 M1) (fun r4 M3 => some (r4, M3))) else (cb (s9_no o0 r2 M1) (fun r6 M5 => some (r6, M5))))
set_option maxRecDepth 100000 in
set_option maxHeartbeats 4000000 in
theorem b9_odds {w : WE} {g : GT} (C : CT w g RX9 cX9_odds rm9_odds 4) (RT : RTi w g cX9_odds .int) (n : Nat) (o0 : Nat) (h0 : typ o0 = 9) (x1 : Int32) (x2 : Int32) (M : Mem) : J w g (s9_odds n o0 x1 x2 M) M 0 [(0, .ref (wa w o0)), (1, .int x1), (2, .int x2)] [] := by
  rw [s9_odds]
  refine J_aload_n C dX9_odds_0 rfl 0 rfl ?_
  refine J_iload_n C dX9_odds_1 rfl 1 rfl ?_
  refine J_iload_n C dX9_odds_2 rfl 2 rfl ?_
  refine J_cvi (As := [.int x1, .int x2]) C (c9_notOdds (gl g) w o0 h0 x1 x2 M) (gd_v W6_36 W6_38 WP_58 W1_10 W6_39) rfl (by decide) (hdX9_notOdds) h0 (by decide) (cl_9) rfl (Nat.le_of_ble_eq_true rfl) dX9_odds_3 rfl (fun r2 M1 => ?_)
  refine J_istore_n (lv' := [(3, .int r2), (0, .ref (wa w o0)), (1, .int x1), (2, .int x2)]) C dX9_odds_6 rfl (by decide) rfl ?_
  refine J_iload_n C dX9_odds_7 rfl 0 rfl ?_
  refine J_if_eq (tgt := 19) C dX9_odds_8 (by decide) (fun _ => ?_) (fun _ => ?_)
  · refine J_aload_n C dX9_odds_19 rfl 1 rfl ?_
    refine J_iload_n C dX9_odds_20 rfl 2 rfl ?_
    refine J_iload_n C dX9_odds_21 rfl 3 rfl ?_
    refine J_cvi (As := [.int x1, .int x2]) C (c9_oddsOf (gl g) w n o0 h0 x1 x2 M1) (gd_v W6_40 W6_42 WP_59 W1_10 W6_43) rfl (by decide) (hdX9_oddsOf) h0 (by decide) (cl_9) rfl (Nat.le_of_ble_eq_true rfl) dX9_odds_22 rfl (fun r4 M3 => ?_)
    exact J_iret C RT rfl dX9_odds_25
  · refine J_aload_n C dX9_odds_11 rfl 1 rfl ?_
    refine J_iload_n C dX9_odds_12 rfl 0 rfl ?_
    refine J_cvi (As := [.int r2]) C (c9_no (gl g) w o0 h0 r2 M1) (gd_v W5_78 W5_80 WP_26 W1_10 W5_81) rfl (by decide) (hdX9_no) h0 (by decide) (cl_9) rfl (Nat.le_of_ble_eq_true rfl) dX9_odds_13 rfl (fun r6 M5 => ?_)
    refine J_goto (tgt := 25) C dX9_odds_16 (by decide) ?_
    exact J_iret C RT rfl dX9_odds_25
theorem c9_odds (l : Launch) (w : WE) (n : Nat) (o0 : Nat) (h0 : typ o0 = 9) (x1 : Int32) (x2 : Int32) (M : Mem) : MC l w yX9_odds (wz yX9_odds cX9_odds 4 (some .int)) rm9_odds [.ref (wa w o0), .int x1, .int x2] (s9_odds n o0 x1 x2 M) M :=
  mc_of_J (own := RX9) rfl (by decide) rfl rfl (Nat.le_of_ble_eq_true rfl) (fun _ _ C RT => b9_odds C RT n o0 h0 x1 x2 M)
theorem hdX9_odds : yX9_odds.cls = RX9 ∧ yOK yX9_odds 2 := ⟨rfl, by decide, by decide, by decide⟩
abbrev rm9_fair : Room := { frames := 5, cells := 0, slots := 0, locals := 118 }
def s9_fair_84 (n : Nat) (k34 : Int32 → Int32 → Int32 → Mem → Option Res) (o0 : Nat) (x3 : Int32) (x5 : Int32) (t0 : Int32) (M : Mem) : Option Res := if inB x5 (alen (link o0 34)) then if (M (link o0 34) x5.toNatClampNeg) ≤ x3 then (ilet (x5 + 1) (fun v5 => k34 x3 t0 v5 M)) else (if inB x5 (alen (link o0 34)) then ilet (M (link o0 34) x5.toNatClampNeg) (fun v6 => ilet (x5 + 1) (fun v7 => k34 v6 t0 v7 M)) else none) else none
set_option maxRecDepth 100000 in
set_option maxHeartbeats 4000000 in
theorem b9_fair_84 {w : WE} {g : GT} (C : CT w g RX9 cX9_fair rm9_fair 6) (RT : RTi w g cX9_fair .int) (n : Nat) (k34 : Int32 → Int32 → Int32 → Mem → Option Res) (o0 : Nat) (h0 : typ o0 = 9) (x3 : Int32) (x5 : Int32) (t0 : Int32) (hk34 : ∀ (z3 : Int32) (z4 : Int32) (z5 : Int32) (M : Mem), J w g (k34 z3 z4 z5 M) M 34 [(0, .ref (wa w o0)), (3, .int z3), (4, .int z4), (5, .int z5)] []) (M : Mem) : J w g (s9_fair_84 n k34 o0 x3 x5 t0 M) M 84 [(0, .ref (wa w o0)), (3, .int x3), (5, .int x5)] [.int t0] := by
  rw [s9_fair_84]
  refine J_istore (lv' := [(4, .int t0), (0, .ref (wa w o0)), (3, .int x3), (5, .int x5)]) C dX9_fair_84 (by decide) rfl ?_
  refine J_aload_n C dX9_fair_86 rfl 1 rfl ?_
  refine J_getr C fk9_34 W4_211 h0 dX9_fair_87 ?_
  refine J_iload C dX9_fair_90 3 rfl ?_
  refine J_aload_ C (tl_9_34 h0) dX9_fair_92 ?_
  refine J_iload_n C dX9_fair_93 rfl 2 rfl ?_
  refine J_icmp_le (tgt := 107) C dX9_fair_94 (by decide) (fun _ => ?_) (fun _ => ?_)
  · refine J_iload_n C dX9_fair_107 rfl 2 rfl ?_
    refine J_istore_n (lv' := [(3, .int x3), (4, .int t0), (0, .ref (wa w o0)), (5, .int x5)]) C dX9_fair_108 rfl (by decide) rfl ?_
    refine J_iinc (lw := fun v5 => [(5, .int v5), (3, .int x3), (4, .int t0), (0, .ref (wa w o0))]) (X := x5 + 1) C dX9_fair_109 (q := 3) rfl (by rw [kci_1]) (by decide) (fun _ => rfl) (fun v5 => ?_)
    refine J_goto (tgt := 34) C dX9_fair_112 (by decide) ?_
    refine J_lv [3, 1, 2, 0] rfl ?_
    exact hk34 x3 t0 v5 M
  · refine J_aload_n C dX9_fair_97 rfl 1 rfl ?_
    refine J_getr C fk9_34 W4_211 h0 dX9_fair_98 ?_
    refine J_iload C dX9_fair_101 3 rfl ?_
    refine J_aload_ C (tl_9_34 h0) dX9_fair_103 ?_
    refine J_goto (tgt := 108) C dX9_fair_104 (by decide) ?_
    refine J_ilet (fun v6 => ?_)
    refine J_istore_n (lv' := [(3, .int v6), (4, .int t0), (0, .ref (wa w o0)), (5, .int x5)]) C dX9_fair_108 rfl (by decide) rfl ?_
    refine J_iinc (lw := fun v7 => [(5, .int v7), (3, .int v6), (4, .int t0), (0, .ref (wa w o0))]) (X := x5 + 1) C dX9_fair_109 (q := 3) rfl (by rw [kci_1]) (by decide) (fun _ => rfl) (fun v7 => ?_)
    refine J_goto (tgt := 34) C dX9_fair_112 (by decide) ?_
    refine J_lv [3, 1, 2, 0] rfl ?_
    exact hk34 v6 t0 v7 M
def s9_fair_72 (n : Nat) (k34 : Int32 → Int32 → Int32 → Mem → Option Res) (o0 : Nat) (x3 : Int32) (x5 : Int32) (M : Mem) : Option Res := if inB x5 (alen (link o0 34)) then s9_fair_84 n k34 o0 x3 x5 (M (link o0 34) x5.toNatClampNeg) M else none
set_option maxRecDepth 100000 in
set_option maxHeartbeats 4000000 in
theorem b9_fair_72 {w : WE} {g : GT} (C : CT w g RX9 cX9_fair rm9_fair 6) (RT : RTi w g cX9_fair .int) (n : Nat) (k34 : Int32 → Int32 → Int32 → Mem → Option Res) (o0 : Nat) (h0 : typ o0 = 9) (x3 : Int32) (x5 : Int32) (hk34 : ∀ (z3 : Int32) (z4 : Int32) (z5 : Int32) (M : Mem), J w g (k34 z3 z4 z5 M) M 34 [(0, .ref (wa w o0)), (3, .int z3), (4, .int z4), (5, .int z5)] []) (M : Mem) : J w g (s9_fair_72 n k34 o0 x3 x5 M) M 72 [(0, .ref (wa w o0)), (3, .int x3), (5, .int x5)] [] := by
  rw [s9_fair_72]
  refine J_aload_n C dX9_fair_72 rfl 0 rfl ?_
  refine J_getr C fk9_34 W4_211 h0 dX9_fair_73 ?_
  refine J_iload C dX9_fair_76 2 rfl ?_
  refine J_aload_ C (tl_9_34 h0) dX9_fair_78 ?_
  refine J_goto (tgt := 84) C dX9_fair_79 (by decide) ?_
  exact b9_fair_84 C RT n k34 o0 h0 x3 x5 (M (link o0 34) x5.toNatClampNeg) hk34 M
def s9_fair_34 (n : Nat) (o0 : Nat) : Nat → Int32 → Int32 → Int32 → Mem → Option Res
  | 0, _, _, _, _ => none
  | f + 1, x3, x4, x5, M => if (M o0 12) ≤ x5 then (if 0 ≤ x3 then (some (x3 - x4, M)) else (some ((0 : Int32), M))) else (if inB x5 (alen (link o0 4)) then if (M (link o0 4) x5.toNatClampNeg) = 0 then (ilet (x5 + 1) (fun v8 => s9_fair_34 n o0 f x3 x4 v8 M)) else (if x3 < 0 then (s9_fair_72 n (s9_fair_34 n o0 f) o0 x3 x5 M) else (if inB x5 (alen (link o0 34)) then if x4 ≤ (M (link o0 34) x5.toNatClampNeg) then (s9_fair_84 n (s9_fair_34 n o0 f) o0 x3 x5 x4 M) else (s9_fair_72 n (s9_fair_34 n o0 f) o0 x3 x5 M) else none)) else none)
set_option maxRecDepth 100000 in
set_option maxHeartbeats 4000000 in
theorem b9_fair_34 {w : WE} {g : GT} (C : CT w g RX9 cX9_fair rm9_fair 6) (RT : RTi w g cX9_fair .int) (n : Nat) (o0 : Nat) (h0 : typ o0 = 9) : ∀ (f : Nat) (x3 : Int32) (x4 : Int32) (x5 : Int32) (M : Mem), J w g (s9_fair_34 n o0 f x3 x4 x5 M) M 34 [(0, .ref (wa w o0)), (3, .int x3), (4, .int x4), (5, .int x5)] [] := by
  intro f
  induction f with
  | zero =>
    intro x3 x4 x5 M
    rw [s9_fair_34]
    exact J_none
  | succ f ih =>
    intro x3 x4 x5 M
    rw [s9_fair_34]
    refine J_iload C dX9_fair_34 3 rfl ?_
    refine J_aload_n C dX9_fair_36 rfl 0 rfl ?_
    refine J_geti C fk9_12 W4_189 h0 dX9_fair_37 ?_
    refine J_icmp_ge (tgt := 115) C dX9_fair_40 (by decide) (fun _ => ?_) (fun _ => ?_)
    · refine J_iload_n C dX9_fair_115 rfl 1 rfl ?_
      refine J_if_ge (tgt := 123) C dX9_fair_116 (by decide) (fun _ => ?_) (fun _ => ?_)
      · refine J_iload_n C dX9_fair_123 rfl 1 rfl ?_
        refine J_iload C dX9_fair_124 2 rfl ?_
        refine J_isub C dX9_fair_126 ?_
        exact J_iret C RT rfl dX9_fair_127
      · refine J_iconst C dX9_fair_119 kci_0 ?_
        refine J_goto (tgt := 127) C dX9_fair_120 (by decide) ?_
        exact J_iret C RT rfl dX9_fair_127
    · refine J_aload_n C dX9_fair_43 rfl 0 rfl ?_
      refine J_getr C fk9_4 W4_181 h0 dX9_fair_44 ?_
      refine J_iload C dX9_fair_47 3 rfl ?_
      refine J_aload_ C (tl_9_4 h0) dX9_fair_49 ?_
      refine J_if_ne (tgt := 56) C dX9_fair_50 (by decide) (fun _ => ?_) (fun _ => ?_)
      · refine J_iload_n C dX9_fair_56 rfl 1 rfl ?_
        refine J_if_lt (tgt := 72) C dX9_fair_57 (by decide) (fun _ => ?_) (fun _ => ?_)
        · refine J_lv [0, 1, 3] rfl ?_
          exact b9_fair_72 C RT n (s9_fair_34 n o0 f) o0 h0 x3 x5 ih M
        · refine J_aload_n C dX9_fair_60 rfl 0 rfl ?_
          refine J_getr C fk9_34 W4_211 h0 dX9_fair_61 ?_
          refine J_iload C dX9_fair_64 3 rfl ?_
          refine J_aload_ C (tl_9_34 h0) dX9_fair_66 ?_
          refine J_iload C dX9_fair_67 2 rfl ?_
          refine J_icmp_ge (tgt := 82) C dX9_fair_69 (by decide) (fun _ => ?_) (fun _ => ?_)
          · refine J_iload C dX9_fair_82 2 rfl ?_
            refine J_lv [0, 1, 3] rfl ?_
            exact b9_fair_84 C RT n (s9_fair_34 n o0 f) o0 h0 x3 x5 x4 ih M
          · refine J_lv [0, 1, 3] rfl ?_
            exact b9_fair_72 C RT n (s9_fair_34 n o0 f) o0 h0 x3 x5 ih M
      · refine J_goto (tgt := 109) C dX9_fair_53 (by decide) ?_
        refine J_iinc (lw := fun v8 => [(5, .int v8), (0, .ref (wa w o0)), (3, .int x3), (4, .int x4)]) (X := x5 + 1) C dX9_fair_109 (q := 3) rfl (by rw [kci_1]) (by decide) (fun _ => rfl) (fun v8 => ?_)
        refine J_goto (tgt := 34) C dX9_fair_112 (by decide) ?_
        refine J_lv [1, 2, 3, 0] rfl ?_
        exact ih x3 x4 v8 M
def s9_fair (n : Nat) (o0 : Nat) (x1 : Int32) (M : Mem) : Option Res := cb (s9_bound x1 (1 : Int32) (200 : Int32) M) (fun r2 M1 => if r2 = 0 then (cb (s9_findOdds n o0 x1 (-1 : Int32) (-1 : Int32) M1) (fun _ M3 => s9_fair_34 n o0 n (-1 : Int32) (0 : Int32) (0 : Int32) M3)) else (cb (s9_no o0 r2 M1) (fun r10 M9 => some (r10, M9))))
set_option maxRecDepth 100000 in
set_option maxHeartbeats 4000000 in
theorem b9_fair {w : WE} {g : GT} (C : CT w g RX9 cX9_fair rm9_fair 6) (RT : RTi w g cX9_fair .int) (n : Nat) (o0 : Nat) (h0 : typ o0 = 9) (x1 : Int32) (M : Mem) : J w g (s9_fair n o0 x1 M) M 0 [(0, .ref (wa w o0)), (1, .int x1)] [] := by
  rw [s9_fair]
  refine J_iload_n C dX9_fair_0 rfl 1 rfl ?_
  refine J_iconst C dX9_fair_1 kci_1 ?_
  refine J_sipush C dX9_fair_2 kcs_200 ?_
  refine J_csi (As := [.int x1, .int (1 : Int32), .int (200 : Int32)]) (dm := 0) C (c9_bound (gl g) w x1 (1 : Int32) (200 : Int32) M) (gd_s W5_97 W5_98 W1_10 W5_99) rfl (by decide) (hdX9_bound.2) rfl (Nat.le_of_ble_eq_true rfl) dX9_fair_5 rfl (fun r2 M1 => ?_)
  refine J_istore_n (lv' := [(2, .int r2), (0, .ref (wa w o0)), (1, .int x1)]) C dX9_fair_8 rfl (by decide) rfl ?_
  refine J_iload_n C dX9_fair_9 rfl 0 rfl ?_
  refine J_if_eq (tgt := 19) C dX9_fair_10 (by decide) (fun _ => ?_) (fun _ => ?_)
  · refine J_aload_n C dX9_fair_19 rfl 1 rfl ?_
    refine J_iload_n C dX9_fair_20 rfl 2 rfl ?_
    refine J_iconst C dX9_fair_21 kci_m1 ?_
    refine J_iconst C dX9_fair_22 kci_m1 ?_
    refine J_cvv (As := [.int x1, .int (-1 : Int32), .int (-1 : Int32)]) C (c9_findOdds (gl g) w n o0 h0 x1 (-1 : Int32) (-1 : Int32) M1) (gd_v W6_44 W6_46 WP_60 W1_10 W6_47) rfl (by decide) (hdX9_findOdds) h0 (by decide) (cl_9) rfl (Nat.le_of_ble_eq_true rfl) dX9_fair_23 rfl (fun r4 M3 => ?_)
    refine J_iconst C dX9_fair_26 kci_m1 ?_
    refine J_istore_n (lv' := [(3, .int (-1 : Int32)), (2, .int r2), (0, .ref (wa w o0)), (1, .int x1)]) C dX9_fair_27 rfl (by decide) rfl ?_
    refine J_iconst C dX9_fair_28 kci_0 ?_
    refine J_istore (lv' := [(4, .int (0 : Int32)), (3, .int (-1 : Int32)), (2, .int r2), (0, .ref (wa w o0)), (1, .int x1)]) C dX9_fair_29 (by decide) rfl ?_
    refine J_iconst C dX9_fair_31 kci_0 ?_
    refine J_istore (lv' := [(5, .int (0 : Int32)), (4, .int (0 : Int32)), (3, .int (-1 : Int32)), (2, .int r2), (0, .ref (wa w o0)), (1, .int x1)]) C dX9_fair_32 (by decide) rfl ?_
    refine J_lv [4, 2, 1, 0] rfl ?_
    exact b9_fair_34 C RT n o0 h0 n (-1 : Int32) (0 : Int32) (0 : Int32) M3
  · refine J_aload_n C dX9_fair_13 rfl 1 rfl ?_
    refine J_iload_n C dX9_fair_14 rfl 0 rfl ?_
    refine J_cvi (As := [.int r2]) C (c9_no (gl g) w o0 h0 r2 M1) (gd_v W5_78 W5_80 WP_26 W1_10 W5_81) rfl (by decide) (hdX9_no) h0 (by decide) (cl_9) rfl (Nat.le_of_ble_eq_true rfl) dX9_fair_15 rfl (fun r10 M9 => ?_)
    exact J_iret C RT rfl dX9_fair_18
theorem c9_fair (l : Launch) (w : WE) (n : Nat) (o0 : Nat) (h0 : typ o0 = 9) (x1 : Int32) (M : Mem) : MC l w yX9_fair (wz yX9_fair cX9_fair 6 (some .int)) rm9_fair [.ref (wa w o0), .int x1] (s9_fair n o0 x1 M) M :=
  mc_of_J (own := RX9) rfl (by decide) rfl rfl (Nat.le_of_ble_eq_true rfl) (fun _ _ C RT => b9_fair C RT n o0 h0 x1 M)
theorem hdX9_fair : yX9_fair.cls = RX9 ∧ yOK yX9_fair 1 := ⟨rfl, by decide, by decide, by decide⟩
abbrev rm9_oddsBy : Room := { frames := 6, cells := 0, slots := 0, locals := 140 }
def s9_oddsBy (n : Nat) (o0 : Nat) (x1 : Int32) (x2 : Int32) (x3 : Int32) (M : Mem) : Option Res := if inB x1 (alen (link o0 7)) then ilet (M (link o0 7) x1.toNatClampNeg) (fun v1 => if inB x1 (alen (link o0 7)) then mlet (mset M (link o0 7) x1.toNatClampNeg x2) (fun M2 => cb (s9_oddsOf n o0 x1 x3 M2) (fun r4 M3 => if inB x1 (alen (link o0 7)) then mlet (mset M3 (link o0 7) x1.toNatClampNeg v1) (fun M5 => some (r4, M5)) else none)) else none) else none
set_option maxRecDepth 100000 in
set_option maxHeartbeats 4000000 in
theorem b9_oddsBy {w : WE} {g : GT} (C : CT w g RX9 cX9_oddsBy rm9_oddsBy 6) (RT : RTi w g cX9_oddsBy .int) (n : Nat) (o0 : Nat) (h0 : typ o0 = 9) (x1 : Int32) (x2 : Int32) (x3 : Int32) (M : Mem) : J w g (s9_oddsBy n o0 x1 x2 x3 M) M 0 [(0, .ref (wa w o0)), (1, .int x1), (2, .int x2), (3, .int x3)] [] := by
  rw [s9_oddsBy]
  refine J_aload_n C dX9_oddsBy_0 rfl 0 rfl ?_
  refine J_getr C fk9_7 W4_184 h0 dX9_oddsBy_1 ?_
  refine J_iload_n C dX9_oddsBy_4 rfl 1 rfl ?_
  refine J_aload_ C (tl_9_7 h0) dX9_oddsBy_5 ?_
  refine J_ilet (fun v1 => ?_)
  refine J_istore (lv' := [(4, .int v1), (0, .ref (wa w o0)), (1, .int x1), (2, .int x2), (3, .int x3)]) C dX9_oddsBy_6 (by decide) rfl ?_
  refine J_aload_n C dX9_oddsBy_8 rfl 1 rfl ?_
  refine J_getr C fk9_7 W4_184 h0 dX9_oddsBy_9 ?_
  refine J_iload_n C dX9_oddsBy_12 rfl 2 rfl ?_
  refine J_iload_n C dX9_oddsBy_13 rfl 3 rfl ?_
  refine J_iastore C (tl_9_7 h0) dX9_oddsBy_14 ?_
  refine J_mlet (fun M2 => ?_)
  refine J_aload_n C dX9_oddsBy_15 rfl 1 rfl ?_
  refine J_iload_n C dX9_oddsBy_16 rfl 2 rfl ?_
  refine J_iload_n C dX9_oddsBy_17 rfl 4 rfl ?_
  refine J_cvi (As := [.int x1, .int x3]) C (c9_oddsOf (gl g) w n o0 h0 x1 x3 M2) (gd_v W6_40 W6_42 WP_59 W1_10 W6_43) rfl (by decide) (hdX9_oddsOf) h0 (by decide) (cl_9) rfl (Nat.le_of_ble_eq_true rfl) dX9_oddsBy_18 rfl (fun r4 M3 => ?_)
  refine J_istore (lv' := [(5, .int r4), (4, .int v1), (0, .ref (wa w o0)), (1, .int x1), (2, .int x2), (3, .int x3)]) C dX9_oddsBy_21 (by decide) rfl ?_
  refine J_aload_n C dX9_oddsBy_23 rfl 2 rfl ?_
  refine J_getr C fk9_7 W4_184 h0 dX9_oddsBy_24 ?_
  refine J_iload_n C dX9_oddsBy_27 rfl 3 rfl ?_
  refine J_iload C dX9_oddsBy_28 1 rfl ?_
  refine J_iastore C (tl_9_7 h0) dX9_oddsBy_30 ?_
  refine J_mlet (fun M5 => ?_)
  refine J_iload C dX9_oddsBy_31 0 rfl ?_
  exact J_iret C RT rfl dX9_oddsBy_33
theorem c9_oddsBy (l : Launch) (w : WE) (n : Nat) (o0 : Nat) (h0 : typ o0 = 9) (x1 : Int32) (x2 : Int32) (x3 : Int32) (M : Mem) : MC l w yX9_oddsBy (wz yX9_oddsBy cX9_oddsBy 6 (some .int)) rm9_oddsBy [.ref (wa w o0), .int x1, .int x2, .int x3] (s9_oddsBy n o0 x1 x2 x3 M) M :=
  mc_of_J (own := RX9) rfl (by decide) rfl rfl (Nat.le_of_ble_eq_true rfl) (fun _ _ C RT => b9_oddsBy C RT n o0 h0 x1 x2 x3 M)
theorem hdX9_oddsBy : yX9_oddsBy.cls = RX9 ∧ yOK yX9_oddsBy 3 := ⟨rfl, by decide, by decide, by decide⟩
abbrev rm9_bestSlow : Room := { frames := 7, cells := 0, slots := 0, locals := 165 }
def s9_bestSlow_27 (n : Nat) (o0 : Nat) (x1 : Int32) (x2 : Int32) : Nat → Int32 → Int32 → Int32 → Mem → Option Res
  | 0, _, _, _, _ => none
  | f + 1, x4, x5, x6, M => if (100 : Int32) ≤ x6 then (some (x4, M)) else (cb (s9_oddsBy n o0 x1 x6 x2 M) (fun r4 M3 => if x5 < r4 then (ilet (x6 + 10) (fun v5 => s9_bestSlow_27 n o0 x1 x2 f x6 r4 v5 M3)) else (ilet (x6 + 10) (fun v6 => s9_bestSlow_27 n o0 x1 x2 f x4 x5 v6 M3))))
set_option maxRecDepth 100000 in
set_option maxHeartbeats 4000000 in
theorem b9_bestSlow_27 {w : WE} {g : GT} (C : CT w g RX9 cX9_bestSlow rm9_bestSlow 8) (RT : RTi w g cX9_bestSlow .int) (n : Nat) (o0 : Nat) (h0 : typ o0 = 9) (x1 : Int32) (x2 : Int32) : ∀ (f : Nat) (x4 : Int32) (x5 : Int32) (x6 : Int32) (M : Mem), J w g (s9_bestSlow_27 n o0 x1 x2 f x4 x5 x6 M) M 27 [(0, .ref (wa w o0)), (1, .int x1), (2, .int x2), (4, .int x4), (5, .int x5), (6, .int x6)] [] := by
  intro f
  induction f with
  | zero =>
    intro x4 x5 x6 M
    rw [s9_bestSlow_27]
    exact J_none
  | succ f ih =>
    intro x4 x5 x6 M
    rw [s9_bestSlow_27]
    refine J_iload C dX9_bestSlow_27 5 rfl ?_
    refine J_bipush C dX9_bestSlow_29 kcb_100 ?_
    refine J_icmp_ge (tgt := 68) C dX9_bestSlow_31 (by decide) (fun _ => ?_) (fun _ => ?_)
    · refine J_iload C dX9_bestSlow_68 3 rfl ?_
      exact J_iret C RT rfl dX9_bestSlow_70
    · refine J_aload_n C dX9_bestSlow_34 rfl 0 rfl ?_
      refine J_iload_n C dX9_bestSlow_35 rfl 1 rfl ?_
      refine J_iload C dX9_bestSlow_36 5 rfl ?_
      refine J_iload_n C dX9_bestSlow_38 rfl 2 rfl ?_
      refine J_cvi (As := [.int x1, .int x6, .int x2]) C (c9_oddsBy (gl g) w n o0 h0 x1 x6 x2 M) (gd_v W6_56 W6_58 WP_61 W1_10 W6_59) rfl (by decide) (hdX9_oddsBy) h0 (by decide) (cl_9) rfl (Nat.le_of_ble_eq_true rfl) dX9_bestSlow_39 rfl (fun r4 M3 => ?_)
      refine J_istore (lv' := [(7, .int r4), (0, .ref (wa w o0)), (1, .int x1), (2, .int x2), (4, .int x4), (5, .int x5), (6, .int x6)]) C dX9_bestSlow_42 (by decide) rfl ?_
      refine J_iload C dX9_bestSlow_44 0 rfl ?_
      refine J_iload C dX9_bestSlow_46 5 rfl ?_
      refine J_icmp_gt (tgt := 54) C dX9_bestSlow_48 (by decide) (fun _ => ?_) (fun _ => ?_)
      · refine J_iload C dX9_bestSlow_54 0 rfl ?_
        refine J_istore (lv' := [(5, .int r4), (7, .int r4), (0, .ref (wa w o0)), (1, .int x1), (2, .int x2), (4, .int x4), (6, .int x6)]) C dX9_bestSlow_56 (by decide) rfl ?_
        refine J_iload C dX9_bestSlow_58 6 rfl ?_
        refine J_istore (lv' := [(4, .int x6), (5, .int r4), (7, .int r4), (0, .ref (wa w o0)), (1, .int x1), (2, .int x2), (6, .int x6)]) C dX9_bestSlow_60 (by decide) rfl ?_
        refine J_iinc (lw := fun v5 => [(6, .int v5), (4, .int x6), (5, .int r4), (7, .int r4), (0, .ref (wa w o0)), (1, .int x1), (2, .int x2)]) (X := x6 + 10) C dX9_bestSlow_62 (q := 6) rfl (by rw [kci_10]) (by decide) (fun _ => rfl) (fun v5 => ?_)
        refine J_goto (tgt := 27) C dX9_bestSlow_65 (by decide) ?_
        refine J_lv [4, 5, 6, 1, 2, 0] rfl ?_
        exact ih x6 r4 v5 M3
      · refine J_goto (tgt := 62) C dX9_bestSlow_51 (by decide) ?_
        refine J_iinc (lw := fun v6 => [(6, .int v6), (7, .int r4), (0, .ref (wa w o0)), (1, .int x1), (2, .int x2), (4, .int x4), (5, .int x5)]) (X := x6 + 10) C dX9_bestSlow_62 (q := 6) rfl (by rw [kci_10]) (by decide) (fun _ => rfl) (fun v6 => ?_)
        refine J_goto (tgt := 27) C dX9_bestSlow_65 (by decide) ?_
        refine J_lv [2, 3, 4, 5, 6, 0] rfl ?_
        exact ih x4 x5 v6 M3
def s9_bestSlow (n : Nat) (o0 : Nat) (x1 : Int32) (x2 : Int32) (M : Mem) : Option Res := cb (s9_notOdds o0 x1 x2 M) (fun r2 M1 => if r2 = 0 then (s9_bestSlow_27 n o0 x1 x2 n (0 : Int32) (-1 : Int32) (10 : Int32) M1) else (cb (s9_no o0 r2 M1) (fun r8 M7 => some (r8, M7))))
set_option maxRecDepth 100000 in
set_option maxHeartbeats 4000000 in
theorem b9_bestSlow {w : WE} {g : GT} (C : CT w g RX9 cX9_bestSlow rm9_bestSlow 8) (RT : RTi w g cX9_bestSlow .int) (n : Nat) (o0 : Nat) (h0 : typ o0 = 9) (x1 : Int32) (x2 : Int32) (M : Mem) : J w g (s9_bestSlow n o0 x1 x2 M) M 0 [(0, .ref (wa w o0)), (1, .int x1), (2, .int x2)] [] := by
  rw [s9_bestSlow]
  refine J_aload_n C dX9_bestSlow_0 rfl 0 rfl ?_
  refine J_iload_n C dX9_bestSlow_1 rfl 1 rfl ?_
  refine J_iload_n C dX9_bestSlow_2 rfl 2 rfl ?_
  refine J_cvi (As := [.int x1, .int x2]) C (c9_notOdds (gl g) w o0 h0 x1 x2 M) (gd_v W6_36 W6_38 WP_58 W1_10 W6_39) rfl (by decide) (hdX9_notOdds) h0 (by decide) (cl_9) rfl (Nat.le_of_ble_eq_true rfl) dX9_bestSlow_3 rfl (fun r2 M1 => ?_)
  refine J_istore_n (lv' := [(3, .int r2), (0, .ref (wa w o0)), (1, .int x1), (2, .int x2)]) C dX9_bestSlow_6 rfl (by decide) rfl ?_
  refine J_iload_n C dX9_bestSlow_7 rfl 0 rfl ?_
  refine J_if_eq (tgt := 17) C dX9_bestSlow_8 (by decide) (fun _ => ?_) (fun _ => ?_)
  · refine J_iconst C dX9_bestSlow_17 kci_0 ?_
    refine J_istore (lv' := [(4, .int (0 : Int32)), (3, .int r2), (0, .ref (wa w o0)), (1, .int x1), (2, .int x2)]) C dX9_bestSlow_18 (by decide) rfl ?_
    refine J_iconst C dX9_bestSlow_20 kci_m1 ?_
    refine J_istore (lv' := [(5, .int (-1 : Int32)), (4, .int (0 : Int32)), (3, .int r2), (0, .ref (wa w o0)), (1, .int x1), (2, .int x2)]) C dX9_bestSlow_21 (by decide) rfl ?_
    refine J_bipush C dX9_bestSlow_23 kcb_10 ?_
    refine J_istore (lv' := [(6, .int (10 : Int32)), (5, .int (-1 : Int32)), (4, .int (0 : Int32)), (3, .int r2), (0, .ref (wa w o0)), (1, .int x1), (2, .int x2)]) C dX9_bestSlow_25 (by decide) rfl ?_
    refine J_lv [4, 5, 6, 2, 1, 0] rfl ?_
    exact b9_bestSlow_27 C RT n o0 h0 x1 x2 n (0 : Int32) (-1 : Int32) (10 : Int32) M1
  · refine J_aload_n C dX9_bestSlow_11 rfl 1 rfl ?_
    refine J_iload_n C dX9_bestSlow_12 rfl 0 rfl ?_
    refine J_cvi (As := [.int r2]) C (c9_no (gl g) w o0 h0 r2 M1) (gd_v W5_78 W5_80 WP_26 W1_10 W5_81) rfl (by decide) (hdX9_no) h0 (by decide) (cl_9) rfl (Nat.le_of_ble_eq_true rfl) dX9_bestSlow_13 rfl (fun r8 M7 => ?_)
    exact J_iret C RT rfl dX9_bestSlow_16
theorem c9_bestSlow (l : Launch) (w : WE) (n : Nat) (o0 : Nat) (h0 : typ o0 = 9) (x1 : Int32) (x2 : Int32) (M : Mem) : MC l w yX9_bestSlow (wz yX9_bestSlow cX9_bestSlow 8 (some .int)) rm9_bestSlow [.ref (wa w o0), .int x1, .int x2] (s9_bestSlow n o0 x1 x2 M) M :=
  mc_of_J (own := RX9) rfl (by decide) rfl rfl (Nat.le_of_ble_eq_true rfl) (fun _ _ C RT => b9_bestSlow C RT n o0 h0 x1 x2 M)
theorem hdX9_bestSlow : yX9_bestSlow.cls = RX9 ∧ yOK yX9_bestSlow 2 := ⟨rfl, by decide, by decide, by decide⟩
abbrev rm9_cheat : Room := { frames := 7, cells := 0, slots := 0, locals := 165 }
def s9_cheat_28 (n : Nat) (o0 : Nat) (x1 : Int32) (x2 : Int32) (x4 : Int32) : Nat → Int32 → Mem → Option Res
  | 0, _, _ => none
  | f + 1, x5, M => if (100 : Int32) ≤ x5 then (some ((0 : Int32), M)) else (cb (s9_oddsBy n o0 x1 x5 x2 M) (fun r6 M5 => if r6 ≤ x4 then (ilet (x5 + 10) (fun v7 => s9_cheat_28 n o0 x1 x2 x4 f v7 M5)) else (some (r6 - x4, M5))))
set_option maxRecDepth 100000 in
set_option maxHeartbeats 4000000 in
theorem b9_cheat_28 {w : WE} {g : GT} (C : CT w g RX9 cX9_cheat rm9_cheat 7) (RT : RTi w g cX9_cheat .int) (n : Nat) (o0 : Nat) (h0 : typ o0 = 9) (x1 : Int32) (x2 : Int32) (x4 : Int32) : ∀ (f : Nat) (x5 : Int32) (M : Mem), J w g (s9_cheat_28 n o0 x1 x2 x4 f x5 M) M 28 [(0, .ref (wa w o0)), (1, .int x1), (2, .int x2), (4, .int x4), (5, .int x5)] [] := by
  intro f
  induction f with
  | zero =>
    intro x5 M
    rw [s9_cheat_28]
    exact J_none
  | succ f ih =>
    intro x5 M
    rw [s9_cheat_28]
    refine J_iload C dX9_cheat_28 4 rfl ?_
    refine J_bipush C dX9_cheat_30 kcb_100 ?_
    refine J_icmp_ge (tgt := 64) C dX9_cheat_32 (by decide) (fun _ => ?_) (fun _ => ?_)
    · refine J_iconst C dX9_cheat_64 kci_0 ?_
      exact J_iret C RT rfl dX9_cheat_65
    · refine J_aload_n C dX9_cheat_35 rfl 0 rfl ?_
      refine J_iload_n C dX9_cheat_36 rfl 1 rfl ?_
      refine J_iload C dX9_cheat_37 4 rfl ?_
      refine J_iload_n C dX9_cheat_39 rfl 2 rfl ?_
      refine J_cvi (As := [.int x1, .int x5, .int x2]) C (c9_oddsBy (gl g) w n o0 h0 x1 x5 x2 M) (gd_v W6_56 W6_58 WP_61 W1_10 W6_59) rfl (by decide) (hdX9_oddsBy) h0 (by decide) (cl_9) rfl (Nat.le_of_ble_eq_true rfl) dX9_cheat_40 rfl (fun r6 M5 => ?_)
      refine J_istore (lv' := [(6, .int r6), (0, .ref (wa w o0)), (1, .int x1), (2, .int x2), (4, .int x4), (5, .int x5)]) C dX9_cheat_43 (by decide) rfl ?_
      refine J_iload C dX9_cheat_45 0 rfl ?_
      refine J_iload C dX9_cheat_47 4 rfl ?_
      refine J_icmp_le (tgt := 58) C dX9_cheat_49 (by decide) (fun _ => ?_) (fun _ => ?_)
      · refine J_iinc (lw := fun v7 => [(5, .int v7), (6, .int r6), (0, .ref (wa w o0)), (1, .int x1), (2, .int x2), (4, .int x4)]) (X := x5 + 10) C dX9_cheat_58 (q := 5) rfl (by rw [kci_10]) (by decide) (fun _ => rfl) (fun v7 => ?_)
        refine J_goto (tgt := 28) C dX9_cheat_61 (by decide) ?_
        refine J_lv [2, 3, 4, 5, 0] rfl ?_
        exact ih v7 M5
      · refine J_iload C dX9_cheat_52 0 rfl ?_
        refine J_iload C dX9_cheat_54 4 rfl ?_
        refine J_isub C dX9_cheat_56 ?_
        exact J_iret C RT rfl dX9_cheat_57
def s9_cheat (n : Nat) (o0 : Nat) (x1 : Int32) (x2 : Int32) (M : Mem) : Option Res := cb (s9_notOdds o0 x1 x2 M) (fun r2 M1 => if r2 = 0 then (cb (s9_oddsOf n o0 x1 x2 M1) (fun r4 M3 => s9_cheat_28 n o0 x1 x2 r4 n (1 : Int32) M3)) else (cb (s9_no o0 r2 M1) (fun r9 M8 => some (r9, M8))))
set_option maxRecDepth 100000 in
set_option maxHeartbeats 4000000 in
theorem b9_cheat {w : WE} {g : GT} (C : CT w g RX9 cX9_cheat rm9_cheat 7) (RT : RTi w g cX9_cheat .int) (n : Nat) (o0 : Nat) (h0 : typ o0 = 9) (x1 : Int32) (x2 : Int32) (M : Mem) : J w g (s9_cheat n o0 x1 x2 M) M 0 [(0, .ref (wa w o0)), (1, .int x1), (2, .int x2)] [] := by
  rw [s9_cheat]
  refine J_aload_n C dX9_cheat_0 rfl 0 rfl ?_
  refine J_iload_n C dX9_cheat_1 rfl 1 rfl ?_
  refine J_iload_n C dX9_cheat_2 rfl 2 rfl ?_
  refine J_cvi (As := [.int x1, .int x2]) C (c9_notOdds (gl g) w o0 h0 x1 x2 M) (gd_v W6_36 W6_38 WP_58 W1_10 W6_39) rfl (by decide) (hdX9_notOdds) h0 (by decide) (cl_9) rfl (Nat.le_of_ble_eq_true rfl) dX9_cheat_3 rfl (fun r2 M1 => ?_)
  refine J_istore_n (lv' := [(3, .int r2), (0, .ref (wa w o0)), (1, .int x1), (2, .int x2)]) C dX9_cheat_6 rfl (by decide) rfl ?_
  refine J_iload_n C dX9_cheat_7 rfl 0 rfl ?_
  refine J_if_eq (tgt := 17) C dX9_cheat_8 (by decide) (fun _ => ?_) (fun _ => ?_)
  · refine J_aload_n C dX9_cheat_17 rfl 1 rfl ?_
    refine J_iload_n C dX9_cheat_18 rfl 2 rfl ?_
    refine J_iload_n C dX9_cheat_19 rfl 3 rfl ?_
    refine J_cvi (As := [.int x1, .int x2]) C (c9_oddsOf (gl g) w n o0 h0 x1 x2 M1) (gd_v W6_40 W6_42 WP_59 W1_10 W6_43) rfl (by decide) (hdX9_oddsOf) h0 (by decide) (cl_9) rfl (Nat.le_of_ble_eq_true rfl) dX9_cheat_20 rfl (fun r4 M3 => ?_)
    refine J_istore (lv' := [(4, .int r4), (3, .int r2), (0, .ref (wa w o0)), (1, .int x1), (2, .int x2)]) C dX9_cheat_23 (by decide) rfl ?_
    refine J_iconst C dX9_cheat_25 kci_1 ?_
    refine J_istore (lv' := [(5, .int (1 : Int32)), (4, .int r4), (3, .int r2), (0, .ref (wa w o0)), (1, .int x1), (2, .int x2)]) C dX9_cheat_26 (by decide) rfl ?_
    refine J_lv [3, 4, 5, 1, 0] rfl ?_
    exact b9_cheat_28 C RT n o0 h0 x1 x2 r4 n (1 : Int32) M3
  · refine J_aload_n C dX9_cheat_11 rfl 1 rfl ?_
    refine J_iload_n C dX9_cheat_12 rfl 0 rfl ?_
    refine J_cvi (As := [.int r2]) C (c9_no (gl g) w o0 h0 r2 M1) (gd_v W5_78 W5_80 WP_26 W1_10 W5_81) rfl (by decide) (hdX9_no) h0 (by decide) (cl_9) rfl (Nat.le_of_ble_eq_true rfl) dX9_cheat_13 rfl (fun r9 M8 => ?_)
    exact J_iret C RT rfl dX9_cheat_16
theorem c9_cheat (l : Launch) (w : WE) (n : Nat) (o0 : Nat) (h0 : typ o0 = 9) (x1 : Int32) (x2 : Int32) (M : Mem) : MC l w yX9_cheat (wz yX9_cheat cX9_cheat 7 (some .int)) rm9_cheat [.ref (wa w o0), .int x1, .int x2] (s9_cheat n o0 x1 x2 M) M :=
  mc_of_J (own := RX9) rfl (by decide) rfl rfl (Nat.le_of_ble_eq_true rfl) (fun _ _ C RT => b9_cheat C RT n o0 h0 x1 x2 M)
theorem hdX9_cheat : yX9_cheat.cls = RX9 ∧ yOK yX9_cheat 2 := ⟨rfl, by decide, by decide, by decide⟩
abbrev rm9_plays : Room := { frames := 6, cells := 0, slots := 0, locals := 134 }
def s9_plays_59 (n : Nat) (o0 : Nat) : Nat → Int32 → Mem → Option Res
  | 0, _, _ => none
  | f + 1, x1, M => if (M o0 12) ≤ x1 then (some (0, M)) else (if inB x1 (alen (link o0 4)) then if (M (link o0 4) x1.toNatClampNeg) = (1 : Int32) then (cb (s9_ins n o0 M) (fun r9 M8 => if r9 = (1 : Int32) then (mlet (mset M8 o0 39 x1) (fun M12 => ilet (x1 + 1) (fun v13 => s9_plays_59 n o0 f v13 M12))) else (mlet (mset M8 o0 39 (M8 o0 39)) (fun M10 => ilet (x1 + 1) (fun v11 => s9_plays_59 n o0 f v11 M10))))) else (mlet (mset M o0 39 (M o0 39)) (fun M6 => ilet (x1 + 1) (fun v7 => s9_plays_59 n o0 f v7 M6))) else none)
set_option maxRecDepth 100000 in
set_option maxHeartbeats 4000000 in
theorem b9_plays_59 {w : WE} {g : GT} (C : CT w g RX9 cX9_plays rm9_plays 2) (RT : RTv w g cX9_plays) (n : Nat) (o0 : Nat) (h0 : typ o0 = 9) : ∀ (f : Nat) (x1 : Int32) (M : Mem), J w g (s9_plays_59 n o0 f x1 M) M 59 [(0, .ref (wa w o0)), (1, .int x1)] [] := by
  intro f
  induction f with
  | zero =>
    intro x1 M
    rw [s9_plays_59]
    exact J_none
  | succ f ih =>
    intro x1 M
    rw [s9_plays_59]
    refine J_iload_n C dX9_plays_59 rfl 1 rfl ?_
    refine J_aload_n C dX9_plays_60 rfl 0 rfl ?_
    refine J_geti C fk9_12 W4_189 h0 dX9_plays_61 ?_
    refine J_icmp_ge (tgt := 103) C dX9_plays_64 (by decide) (fun _ => ?_) (fun _ => ?_)
    · exact J_vret C RT dX9_plays_103
    · refine J_aload_n C dX9_plays_67 rfl 0 rfl ?_
      refine J_aload_n C dX9_plays_68 rfl 0 rfl ?_
      refine J_getr C fk9_4 W4_181 h0 dX9_plays_69 ?_
      refine J_iload_n C dX9_plays_72 rfl 1 rfl ?_
      refine J_aload_ C (tl_9_4 h0) dX9_plays_73 ?_
      refine J_iconst C dX9_plays_74 kci_1 ?_
      refine J_icmp_ne (tgt := 90) C dX9_plays_75 (by decide) (fun _ => ?_) (fun _ => ?_)
      · refine J_aload_n C dX9_plays_90 rfl 0 rfl ?_
        refine J_geti C fk9_39 W4_216 h0 dX9_plays_91 ?_
        refine J_puti C fk9_39 W4_216 fp9_39 h0 dX9_plays_94 ?_
        refine J_mlet (fun M6 => ?_)
        refine J_iinc (lw := fun v7 => [(1, .int v7), (0, .ref (wa w o0))]) (X := x1 + 1) C dX9_plays_97 (q := 1) rfl (by rw [kci_1]) (by decide) (fun _ => rfl) (fun v7 => ?_)
        refine J_goto (tgt := 59) C dX9_plays_100 (by decide) ?_
        refine J_lv [1, 0] rfl ?_
        exact ih v7 M6
      · refine J_aload_n C dX9_plays_78 rfl 0 rfl ?_
        refine J_cvi (As := []) C (c9_ins (gl g) w n o0 h0 M) (gd_v W5_197 W5_199 WP_43 W1_10 W5_200) rfl (by decide) (hdX9_ins) h0 (by decide) (cl_9) rfl (Nat.le_of_ble_eq_true rfl) dX9_plays_79 rfl (fun r9 M8 => ?_)
        refine J_iconst C dX9_plays_82 kci_1 ?_
        refine J_icmp_ne (tgt := 90) C dX9_plays_83 (by decide) (fun _ => ?_) (fun _ => ?_)
        · refine J_aload_n C dX9_plays_90 rfl 0 rfl ?_
          refine J_geti C fk9_39 W4_216 h0 dX9_plays_91 ?_
          refine J_puti C fk9_39 W4_216 fp9_39 h0 dX9_plays_94 ?_
          refine J_mlet (fun M10 => ?_)
          refine J_iinc (lw := fun v11 => [(1, .int v11), (0, .ref (wa w o0))]) (X := x1 + 1) C dX9_plays_97 (q := 1) rfl (by rw [kci_1]) (by decide) (fun _ => rfl) (fun v11 => ?_)
          refine J_goto (tgt := 59) C dX9_plays_100 (by decide) ?_
          refine J_lv [1, 0] rfl ?_
          exact ih v11 M10
        · refine J_iload_n C dX9_plays_86 rfl 1 rfl ?_
          refine J_goto (tgt := 94) C dX9_plays_87 (by decide) ?_
          refine J_puti C fk9_39 W4_216 fp9_39 h0 dX9_plays_94 ?_
          refine J_mlet (fun M12 => ?_)
          refine J_iinc (lw := fun v13 => [(1, .int v13), (0, .ref (wa w o0))]) (X := x1 + 1) C dX9_plays_97 (q := 1) rfl (by rw [kci_1]) (by decide) (fun _ => rfl) (fun v13 => ?_)
          refine J_goto (tgt := 59) C dX9_plays_100 (by decide) ?_
          refine J_lv [1, 0] rfl ?_
          exact ih v13 M12
def s9_plays_10 (n : Nat) (o0 : Nat) : Nat → Mem → Option Res
  | 0, _ => none
  | f + 1, M => cb (s9_isOver n o0 M) (fun r4 M3 => if r4 = 0 then (mlet (mset M3 o0 37 ((M3 o0 37) + (1 : Int32))) (fun M14 => cb (s9_goesOn n o0 M14) (fun r16 M15 => if r16 = 0 then (mlet (mset M15 o0 38 ((M14 o0 38) + (0 : Int32))) (fun M17 => s9_plays_10 n o0 f M17)) else (mlet (mset M15 o0 38 ((M14 o0 38) + (1 : Int32))) (fun M18 => s9_plays_10 n o0 f M18))))) else (mlet (mset M3 o0 39 (-9 : Int32)) (fun M5 => s9_plays_59 n o0 n (0 : Int32) M5)))
set_option maxRecDepth 100000 in
set_option maxHeartbeats 4000000 in
theorem b9_plays_10 {w : WE} {g : GT} (C : CT w g RX9 cX9_plays rm9_plays 2) (RT : RTv w g cX9_plays) (n : Nat) (o0 : Nat) (h0 : typ o0 = 9) : ∀ (f : Nat)  (M : Mem), J w g (s9_plays_10 n o0 f  M) M 10 [(0, .ref (wa w o0))] [] := by
  intro f
  induction f with
  | zero =>
    intro M
    rw [s9_plays_10]
    exact J_none
  | succ f ih =>
    intro M
    rw [s9_plays_10]
    refine J_aload_n C dX9_plays_10 rfl 0 rfl ?_
    refine J_cvi (As := []) C (c9_isOver (gl g) w n o0 h0 M) (gd_v W5_193 W5_195 WP_42 W1_10 W5_196) rfl (by decide) (hdX9_isOver) h0 (by decide) (cl_9) rfl (Nat.le_of_ble_eq_true rfl) dX9_plays_11 rfl (fun r4 M3 => ?_)
    refine J_if_ne (tgt := 51) C dX9_plays_14 (by decide) (fun _ => ?_) (fun _ => ?_)
    · refine J_aload_n C dX9_plays_51 rfl 0 rfl ?_
      refine J_bipush C dX9_plays_52 kcb_m9 ?_
      refine J_puti C fk9_39 W4_216 fp9_39 h0 dX9_plays_54 ?_
      refine J_mlet (fun M5 => ?_)
      refine J_iconst C dX9_plays_57 kci_0 ?_
      refine J_istore_n (lv' := [(1, .int (0 : Int32)), (0, .ref (wa w o0))]) C dX9_plays_58 rfl (by decide) rfl ?_
      refine J_lv [1, 0] rfl ?_
      exact b9_plays_59 C RT n o0 h0 n (0 : Int32) M5
    · refine J_aload_n C dX9_plays_17 rfl 0 rfl ?_
      refine J_dup C rfl dX9_plays_18 ?_
      refine J_geti C fk9_37 W4_214 h0 dX9_plays_19 ?_
      refine J_iconst C dX9_plays_22 kci_1 ?_
      refine J_iadd C dX9_plays_23 ?_
      refine J_puti C fk9_37 W4_214 fp9_37 h0 dX9_plays_24 ?_
      refine J_mlet (fun M14 => ?_)
      refine J_aload_n C dX9_plays_27 rfl 0 rfl ?_
      refine J_dup C rfl dX9_plays_28 ?_
      refine J_geti C fk9_38 W4_215 h0 dX9_plays_29 ?_
      refine J_aload_n C dX9_plays_32 rfl 0 rfl ?_
      refine J_cvi (As := []) C (c9_goesOn (gl g) w n o0 h0 M14) (gd_v W5_201 W5_203 WP_44 W1_10 W5_204) rfl (by decide) (hdX9_goesOn) h0 (by decide) (cl_9) rfl (Nat.le_of_ble_eq_true rfl) dX9_plays_33 rfl (fun r16 M15 => ?_)
      refine J_if_eq (tgt := 43) C dX9_plays_36 (by decide) (fun _ => ?_) (fun _ => ?_)
      · refine J_iconst C dX9_plays_43 kci_0 ?_
        refine J_iadd C dX9_plays_44 ?_
        refine J_puti C fk9_38 W4_215 fp9_38 h0 dX9_plays_45 ?_
        refine J_mlet (fun M17 => ?_)
        refine J_goto (tgt := 10) C dX9_plays_48 (by decide) ?_
        exact ih M17
      · refine J_iconst C dX9_plays_39 kci_1 ?_
        refine J_goto (tgt := 44) C dX9_plays_40 (by decide) ?_
        refine J_iadd C dX9_plays_44 ?_
        refine J_puti C fk9_38 W4_215 fp9_38 h0 dX9_plays_45 ?_
        refine J_mlet (fun M18 => ?_)
        refine J_goto (tgt := 10) C dX9_plays_48 (by decide) ?_
        exact ih M18
def s9_plays (n : Nat) (o0 : Nat) (M : Mem) : Option Res := mlet (mset M o0 37 (0 : Int32)) (fun M1 => mlet (mset M1 o0 38 (0 : Int32)) (fun M2 => s9_plays_10 n o0 n M2))
set_option maxRecDepth 100000 in
set_option maxHeartbeats 4000000 in
theorem b9_plays {w : WE} {g : GT} (C : CT w g RX9 cX9_plays rm9_plays 2) (RT : RTv w g cX9_plays) (n : Nat) (o0 : Nat) (h0 : typ o0 = 9) (M : Mem) : J w g (s9_plays n o0 M) M 0 [(0, .ref (wa w o0))] [] := by
  rw [s9_plays]
  refine J_aload_n C dX9_plays_0 rfl 0 rfl ?_
  refine J_iconst C dX9_plays_1 kci_0 ?_
  refine J_puti C fk9_37 W4_214 fp9_37 h0 dX9_plays_2 ?_
  refine J_mlet (fun M1 => ?_)
  refine J_aload_n C dX9_plays_5 rfl 0 rfl ?_
  refine J_iconst C dX9_plays_6 kci_0 ?_
  refine J_puti C fk9_38 W4_215 fp9_38 h0 dX9_plays_7 ?_
  refine J_mlet (fun M2 => ?_)
  exact b9_plays_10 C RT n o0 h0 n M2
theorem c9_plays (l : Launch) (w : WE) (n : Nat) (o0 : Nat) (h0 : typ o0 = 9) (M : Mem) : MV l w yX9_plays (wz yX9_plays cX9_plays 2 none) rm9_plays [.ref (wa w o0)] (s9_plays n o0 M) M :=
  mv_of_J (own := RX9) rfl (by decide) rfl rfl (Nat.le_of_ble_eq_true rfl) (fun _ _ C RT => b9_plays C RT n o0 h0 M)
theorem hdX9_plays : yX9_plays.cls = RX9 ∧ yOK yX9_plays 0 := ⟨rfl, by decide, by decide, by decide⟩
abbrev rm9_partyBy : Room := { frames := 7, cells := 0, slots := 0, locals := 155 }
def s9_partyBy (n : Nat) (o0 : Nat) (x1 : Int32) (x2 : Int32) (x3 : Int32) (M : Mem) : Option Res := cb (s9_passesAll n o0 (1 : Int32) (1 : Int32) M) (fun _ M1 => mlet (mset M1 o0 16 x1) (fun M3 => mlet (mset M3 o0 15 x2) (fun M4 => mlet (mset M4 o0 13 x3) (fun M5 => cb (s9_plays n o0 M5) (fun _ M6 => cb (s9_passesAll n o0 (1 : Int32) (0 : Int32) M6) (fun _ M8 => some (0, M8)))))))
set_option maxRecDepth 100000 in
set_option maxHeartbeats 4000000 in
theorem b9_partyBy {w : WE} {g : GT} (C : CT w g RX9 cX9_partyBy rm9_partyBy 4) (RT : RTv w g cX9_partyBy) (n : Nat) (o0 : Nat) (h0 : typ o0 = 9) (x1 : Int32) (x2 : Int32) (x3 : Int32) (M : Mem) : J w g (s9_partyBy n o0 x1 x2 x3 M) M 0 [(0, .ref (wa w o0)), (1, .int x1), (2, .int x2), (3, .int x3)] [] := by
  rw [s9_partyBy]
  refine J_aload_n C dX9_partyBy_0 rfl 0 rfl ?_
  refine J_iconst C dX9_partyBy_1 kci_1 ?_
  refine J_iconst C dX9_partyBy_2 kci_1 ?_
  refine J_cvv (As := [.int (1 : Int32), .int (1 : Int32)]) C (c9_passesAll (gl g) w n o0 h0 (1 : Int32) (1 : Int32) M) (gd_v W5_173 W5_175 WP_38 W1_10 W5_176) rfl (by decide) (hdX9_passesAll) h0 (by decide) (cl_9) rfl (Nat.le_of_ble_eq_true rfl) dX9_partyBy_3 rfl (fun r2 M1 => ?_)
  refine J_aload_n C dX9_partyBy_6 rfl 0 rfl ?_
  refine J_iload_n C dX9_partyBy_7 rfl 1 rfl ?_
  refine J_puti C fk9_16 W4_193 fp9_16 h0 dX9_partyBy_8 ?_
  refine J_mlet (fun M3 => ?_)
  refine J_aload_n C dX9_partyBy_11 rfl 0 rfl ?_
  refine J_iload_n C dX9_partyBy_12 rfl 2 rfl ?_
  refine J_puti C fk9_15 W4_192 fp9_15 h0 dX9_partyBy_13 ?_
  refine J_mlet (fun M4 => ?_)
  refine J_aload_n C dX9_partyBy_16 rfl 0 rfl ?_
  refine J_iload_n C dX9_partyBy_17 rfl 3 rfl ?_
  refine J_puti C fk9_13 W4_190 fp9_13 h0 dX9_partyBy_18 ?_
  refine J_mlet (fun M5 => ?_)
  refine J_aload_n C dX9_partyBy_21 rfl 0 rfl ?_
  refine J_cvv (As := []) C (c9_plays (gl g) w n o0 h0 M5) (gd_v W6_72 W6_74 WP_63 W1_10 W6_75) rfl (by decide) (hdX9_plays) h0 (by decide) (cl_9) rfl (Nat.le_of_ble_eq_true rfl) dX9_partyBy_22 rfl (fun r7 M6 => ?_)
  refine J_aload_n C dX9_partyBy_25 rfl 0 rfl ?_
  refine J_iconst C dX9_partyBy_26 kci_1 ?_
  refine J_iconst C dX9_partyBy_27 kci_0 ?_
  refine J_cvv (As := [.int (1 : Int32), .int (0 : Int32)]) C (c9_passesAll (gl g) w n o0 h0 (1 : Int32) (0 : Int32) M6) (gd_v W5_173 W5_175 WP_38 W1_10 W5_176) rfl (by decide) (hdX9_passesAll) h0 (by decide) (cl_9) rfl (Nat.le_of_ble_eq_true rfl) dX9_partyBy_28 rfl (fun r9 M8 => ?_)
  exact J_vret C RT dX9_partyBy_31
theorem c9_partyBy (l : Launch) (w : WE) (n : Nat) (o0 : Nat) (h0 : typ o0 = 9) (x1 : Int32) (x2 : Int32) (x3 : Int32) (M : Mem) : MV l w yX9_partyBy (wz yX9_partyBy cX9_partyBy 4 none) rm9_partyBy [.ref (wa w o0), .int x1, .int x2, .int x3] (s9_partyBy n o0 x1 x2 x3 M) M :=
  mv_of_J (own := RX9) rfl (by decide) rfl rfl (Nat.le_of_ble_eq_true rfl) (fun _ _ C RT => b9_partyBy C RT n o0 h0 x1 x2 x3 M)
theorem hdX9_partyBy : yX9_partyBy.cls = RX9 ∧ yOK yX9_partyBy 3 := ⟨rfl, by decide, by decide, by decide⟩
abbrev rm9_lasts : Room := { frames := 8, cells := 0, slots := 0, locals := 178 }
def s9_lasts (n : Nat) (o0 : Nat) (x1 : Int32) (M : Mem) : Option Res := cb (s9_isIn x1 (0 : Int32) (2 : Int32) M) (fun r2 M1 => if r2 = 0 then (cb (s9_no o0 (-2 : Int32) M1) (fun r10 M9 => some (r10, M9))) else (cb (s9_isOver n o0 M1) (fun r4 M3 => if r4 = 0 then (cb (s9_partyBy n o0 (M3 o0 16) (M3 o0 15) (M3 o0 13) M3) (fun _ M5 => if x1 = 0 then (some (M5 o0 37, M5)) else (if x1 = (1 : Int32) then (some (M5 o0 38, M5)) else (some (M5 o0 39, M5))))) else (cb (s9_no o0 (-3 : Int32) M3) (fun r8 M7 => some (r8, M7))))))
set_option maxRecDepth 100000 in
set_option maxHeartbeats 4000000 in
theorem b9_lasts {w : WE} {g : GT} (C : CT w g RX9 cX9_lasts rm9_lasts 2) (RT : RTi w g cX9_lasts .int) (n : Nat) (o0 : Nat) (h0 : typ o0 = 9) (x1 : Int32) (M : Mem) : J w g (s9_lasts n o0 x1 M) M 0 [(0, .ref (wa w o0)), (1, .int x1)] [] := by
  rw [s9_lasts]
  refine J_iload_n C dX9_lasts_0 rfl 1 rfl ?_
  refine J_iconst C dX9_lasts_1 kci_0 ?_
  refine J_iconst C dX9_lasts_2 kci_2 ?_
  refine J_csi (As := [.int x1, .int (0 : Int32), .int (2 : Int32)]) (dm := 0) C (c9_isIn (gl g) w x1 (0 : Int32) (2 : Int32) M) (gd_s W5_94 W5_95 W1_10 W5_96) rfl (by decide) (hdX9_isIn.2) rfl (Nat.le_of_ble_eq_true rfl) dX9_lasts_3 rfl (fun r2 M1 => ?_)
  refine J_if_ne (tgt := 16) C dX9_lasts_6 (by decide) (fun _ => ?_) (fun _ => ?_)
  · refine J_aload_n C dX9_lasts_16 rfl 0 rfl ?_
    refine J_cvi (As := []) C (c9_isOver (gl g) w n o0 h0 M1) (gd_v W5_193 W5_195 WP_42 W1_10 W5_196) rfl (by decide) (hdX9_isOver) h0 (by decide) (cl_9) rfl (Nat.le_of_ble_eq_true rfl) dX9_lasts_17 rfl (fun r4 M3 => ?_)
    refine J_if_eq (tgt := 30) C dX9_lasts_20 (by decide) (fun _ => ?_) (fun _ => ?_)
    · refine J_aload_n C dX9_lasts_30 rfl 0 rfl ?_
      refine J_aload_n C dX9_lasts_31 rfl 0 rfl ?_
      refine J_geti C fk9_16 W4_193 h0 dX9_lasts_32 ?_
      refine J_aload_n C dX9_lasts_35 rfl 0 rfl ?_
      refine J_geti C fk9_15 W4_192 h0 dX9_lasts_36 ?_
      refine J_aload_n C dX9_lasts_39 rfl 0 rfl ?_
      refine J_geti C fk9_13 W4_190 h0 dX9_lasts_40 ?_
      refine J_cvv (As := [.int (M3 o0 16), .int (M3 o0 15), .int (M3 o0 13)]) C (c9_partyBy (gl g) w n o0 h0 (M3 o0 16) (M3 o0 15) (M3 o0 13) M3) (gd_v W6_68 W6_70 WP_62 W1_10 W6_71) rfl (by decide) (hdX9_partyBy) h0 (by decide) (cl_9) rfl (Nat.le_of_ble_eq_true rfl) dX9_lasts_43 rfl (fun r6 M5 => ?_)
      refine J_iload_n C dX9_lasts_46 rfl 1 rfl ?_
      refine J_if_ne (tgt := 57) C dX9_lasts_47 (by decide) (fun _ => ?_) (fun _ => ?_)
      · refine J_iload_n C dX9_lasts_57 rfl 1 rfl ?_
        refine J_iconst C dX9_lasts_58 kci_1 ?_
        refine J_icmp_ne (tgt := 69) C dX9_lasts_59 (by decide) (fun _ => ?_) (fun _ => ?_)
        · refine J_aload_n C dX9_lasts_69 rfl 0 rfl ?_
          refine J_geti C fk9_39 W4_216 h0 dX9_lasts_70 ?_
          exact J_iret C RT rfl dX9_lasts_73
        · refine J_aload_n C dX9_lasts_62 rfl 0 rfl ?_
          refine J_geti C fk9_38 W4_215 h0 dX9_lasts_63 ?_
          refine J_goto (tgt := 73) C dX9_lasts_66 (by decide) ?_
          exact J_iret C RT rfl dX9_lasts_73
      · refine J_aload_n C dX9_lasts_50 rfl 0 rfl ?_
        refine J_geti C fk9_37 W4_214 h0 dX9_lasts_51 ?_
        refine J_goto (tgt := 73) C dX9_lasts_54 (by decide) ?_
        exact J_iret C RT rfl dX9_lasts_73
    · refine J_aload_n C dX9_lasts_23 rfl 0 rfl ?_
      refine J_bipush C dX9_lasts_24 kcb_m3 ?_
      refine J_cvi (As := [.int (-3 : Int32)]) C (c9_no (gl g) w o0 h0 (-3 : Int32) M3) (gd_v W5_78 W5_80 WP_26 W1_10 W5_81) rfl (by decide) (hdX9_no) h0 (by decide) (cl_9) rfl (Nat.le_of_ble_eq_true rfl) dX9_lasts_26 rfl (fun r8 M7 => ?_)
      exact J_iret C RT rfl dX9_lasts_29
  · refine J_aload_n C dX9_lasts_9 rfl 0 rfl ?_
    refine J_bipush C dX9_lasts_10 kcb_m2 ?_
    refine J_cvi (As := [.int (-2 : Int32)]) C (c9_no (gl g) w o0 h0 (-2 : Int32) M1) (gd_v W5_78 W5_80 WP_26 W1_10 W5_81) rfl (by decide) (hdX9_no) h0 (by decide) (cl_9) rfl (Nat.le_of_ble_eq_true rfl) dX9_lasts_12 rfl (fun r10 M9 => ?_)
    exact J_iret C RT rfl dX9_lasts_15
theorem c9_lasts (l : Launch) (w : WE) (n : Nat) (o0 : Nat) (h0 : typ o0 = 9) (x1 : Int32) (M : Mem) : MC l w yX9_lasts (wz yX9_lasts cX9_lasts 2 (some .int)) rm9_lasts [.ref (wa w o0), .int x1] (s9_lasts n o0 x1 M) M :=
  mc_of_J (own := RX9) rfl (by decide) rfl rfl (Nat.le_of_ble_eq_true rfl) (fun _ _ C RT => b9_lasts C RT n o0 h0 x1 M)
theorem hdX9_lasts : yX9_lasts.cls = RX9 ∧ yOK yX9_lasts 1 := ⟨rfl, by decide, by decide, by decide⟩
abbrev rm9_wins : Room := { frames := 8, cells := 0, slots := 0, locals := 178 }
def s9_wins_57 (n : Nat) (o0 : Nat) (x1 : Int32) (x2 : Int32) (x3 : Int32) : Nat → Int32 → Int32 → Mem → Option Res
  | 0, _, _, _ => none
  | f + 1, x5, x6, M => if x2 ≤ x6 then (some (x5, M)) else (cb (s9_partyBy n o0 (x3 + x6) (M o0 15) (M o0 13) M) (fun _ M5 => if (M5 o0 39) = x1 then (ilet (x5 + (1 : Int32)) (fun v9 => ilet (x6 + 1) (fun v10 => s9_wins_57 n o0 x1 x2 x3 f v9 v10 M5))) else (ilet (x5 + (0 : Int32)) (fun v7 => ilet (x6 + 1) (fun v8 => s9_wins_57 n o0 x1 x2 x3 f v7 v8 M5)))))
set_option maxRecDepth 100000 in
set_option maxHeartbeats 4000000 in
theorem b9_wins_57 {w : WE} {g : GT} (C : CT w g RX9 cX9_wins rm9_wins 7) (RT : RTi w g cX9_wins .int) (n : Nat) (o0 : Nat) (h0 : typ o0 = 9) (x1 : Int32) (x2 : Int32) (x3 : Int32) : ∀ (f : Nat) (x5 : Int32) (x6 : Int32) (M : Mem), J w g (s9_wins_57 n o0 x1 x2 x3 f x5 x6 M) M 57 [(0, .ref (wa w o0)), (1, .int x1), (2, .int x2), (3, .int x3), (5, .int x5), (6, .int x6)] [] := by
  intro f
  induction f with
  | zero =>
    intro x5 x6 M
    rw [s9_wins_57]
    exact J_none
  | succ f ih =>
    intro x5 x6 M
    rw [s9_wins_57]
    refine J_iload C dX9_wins_57 5 rfl ?_
    refine J_iload_n C dX9_wins_59 rfl 2 rfl ?_
    refine J_icmp_ge (tgt := 103) C dX9_wins_60 (by decide) (fun _ => ?_) (fun _ => ?_)
    · refine J_iload C dX9_wins_103 4 rfl ?_
      exact J_iret C RT rfl dX9_wins_105
    · refine J_aload_n C dX9_wins_63 rfl 0 rfl ?_
      refine J_iload_n C dX9_wins_64 rfl 3 rfl ?_
      refine J_iload C dX9_wins_65 5 rfl ?_
      refine J_iadd C dX9_wins_67 ?_
      refine J_aload_n C dX9_wins_68 rfl 0 rfl ?_
      refine J_geti C fk9_15 W4_192 h0 dX9_wins_69 ?_
      refine J_aload_n C dX9_wins_72 rfl 0 rfl ?_
      refine J_geti C fk9_13 W4_190 h0 dX9_wins_73 ?_
      refine J_cvv (As := [.int (x3 + x6), .int (M o0 15), .int (M o0 13)]) C (c9_partyBy (gl g) w n o0 h0 (x3 + x6) (M o0 15) (M o0 13) M) (gd_v W6_68 W6_70 WP_62 W1_10 W6_71) rfl (by decide) (hdX9_partyBy) h0 (by decide) (cl_9) rfl (Nat.le_of_ble_eq_true rfl) dX9_wins_76 rfl (fun r6 M5 => ?_)
      refine J_iload C dX9_wins_79 4 rfl ?_
      refine J_aload_n C dX9_wins_81 rfl 0 rfl ?_
      refine J_geti C fk9_39 W4_216 h0 dX9_wins_82 ?_
      refine J_iload_n C dX9_wins_85 rfl 1 rfl ?_
      refine J_icmp_ne (tgt := 93) C dX9_wins_86 (by decide) (fun _ => ?_) (fun _ => ?_)
      · refine J_iconst C dX9_wins_93 kci_0 ?_
        refine J_iadd C dX9_wins_94 ?_
        refine J_ilet (fun v7 => ?_)
        refine J_istore (lv' := [(5, .int v7), (0, .ref (wa w o0)), (1, .int x1), (2, .int x2), (3, .int x3), (6, .int x6)]) C dX9_wins_95 (by decide) rfl ?_
        refine J_iinc (lw := fun v8 => [(6, .int v8), (5, .int v7), (0, .ref (wa w o0)), (1, .int x1), (2, .int x2), (3, .int x3)]) (X := x6 + 1) C dX9_wins_97 (q := 5) rfl (by rw [kci_1]) (by decide) (fun _ => rfl) (fun v8 => ?_)
        refine J_goto (tgt := 57) C dX9_wins_100 (by decide) ?_
        refine J_lv [2, 3, 4, 5, 1, 0] rfl ?_
        exact ih v7 v8 M5
      · refine J_iconst C dX9_wins_89 kci_1 ?_
        refine J_goto (tgt := 94) C dX9_wins_90 (by decide) ?_
        refine J_iadd C dX9_wins_94 ?_
        refine J_ilet (fun v9 => ?_)
        refine J_istore (lv' := [(5, .int v9), (0, .ref (wa w o0)), (1, .int x1), (2, .int x2), (3, .int x3), (6, .int x6)]) C dX9_wins_95 (by decide) rfl ?_
        refine J_iinc (lw := fun v10 => [(6, .int v10), (5, .int v9), (0, .ref (wa w o0)), (1, .int x1), (2, .int x2), (3, .int x3)]) (X := x6 + 1) C dX9_wins_97 (q := 5) rfl (by rw [kci_1]) (by decide) (fun _ => rfl) (fun v10 => ?_)
        refine J_goto (tgt := 57) C dX9_wins_100 (by decide) ?_
        refine J_lv [2, 3, 4, 5, 1, 0] rfl ?_
        exact ih v9 v10 M5
def s9_wins_39 (n : Nat) (o0 : Nat) (x1 : Int32) (x2 : Int32) (x3 : Int32) (x4 : Int32) (M : Mem) : Option Res := if x4 = 0 then (s9_wins_57 n o0 x1 x2 x3 n (0 : Int32) (0 : Int32) M) else (cb (s9_no o0 x4 M) (fun r12 M11 => some (r12, M11)))
set_option maxRecDepth 100000 in
set_option maxHeartbeats 4000000 in
theorem b9_wins_39 {w : WE} {g : GT} (C : CT w g RX9 cX9_wins rm9_wins 7) (RT : RTi w g cX9_wins .int) (n : Nat) (o0 : Nat) (h0 : typ o0 = 9) (x1 : Int32) (x2 : Int32) (x3 : Int32) (x4 : Int32) (M : Mem) : J w g (s9_wins_39 n o0 x1 x2 x3 x4 M) M 39 [(0, .ref (wa w o0)), (1, .int x1), (2, .int x2), (3, .int x3), (4, .int x4)] [] := by
  rw [s9_wins_39]
  refine J_iload C dX9_wins_39 4 rfl ?_
  refine J_if_eq (tgt := 51) C dX9_wins_41 (by decide) (fun _ => ?_) (fun _ => ?_)
  · refine J_iconst C dX9_wins_51 kci_0 ?_
    refine J_istore (lv' := [(5, .int (0 : Int32)), (0, .ref (wa w o0)), (1, .int x1), (2, .int x2), (3, .int x3), (4, .int x4)]) C dX9_wins_52 (by decide) rfl ?_
    refine J_iconst C dX9_wins_54 kci_0 ?_
    refine J_istore (lv' := [(6, .int (0 : Int32)), (5, .int (0 : Int32)), (0, .ref (wa w o0)), (1, .int x1), (2, .int x2), (3, .int x3), (4, .int x4)]) C dX9_wins_55 (by decide) rfl ?_
    refine J_lv [2, 3, 4, 5, 1, 0] rfl ?_
    exact b9_wins_57 C RT n o0 h0 x1 x2 x3 n (0 : Int32) (0 : Int32) M
  · refine J_aload_n C dX9_wins_44 rfl 0 rfl ?_
    refine J_iload C dX9_wins_45 4 rfl ?_
    refine J_cvi (As := [.int x4]) C (c9_no (gl g) w o0 h0 x4 M) (gd_v W5_78 W5_80 WP_26 W1_10 W5_81) rfl (by decide) (hdX9_no) h0 (by decide) (cl_9) rfl (Nat.le_of_ble_eq_true rfl) dX9_wins_47 rfl (fun r12 M11 => ?_)
    exact J_iret C RT rfl dX9_wins_50
def s9_wins (n : Nat) (o0 : Nat) (x1 : Int32) (x2 : Int32) (x3 : Int32) (M : Mem) : Option Res := cb (s9_isWalker o0 x1 M) (fun r2 M1 => if r2 = 0 then (cb (s9_no o0 (-1 : Int32) M1) (fun r16 M15 => some (r16, M15))) else (cb (s9_bound x2 (1 : Int32) (20 : Int32) M1) (fun r4 M3 => if r4 = 0 then (cb (s9_isOver n o0 M3) (fun r14 M13 => if r14 = 0 then (s9_wins_39 n o0 x1 x2 x3 r4 M13) else (s9_wins_39 n o0 x1 x2 x3 (-3 : Int32) M13))) else (s9_wins_39 n o0 x1 x2 x3 r4 M3))))
set_option maxRecDepth 100000 in
set_option maxHeartbeats 4000000 in
theorem b9_wins {w : WE} {g : GT} (C : CT w g RX9 cX9_wins rm9_wins 7) (RT : RTi w g cX9_wins .int) (n : Nat) (o0 : Nat) (h0 : typ o0 = 9) (x1 : Int32) (x2 : Int32) (x3 : Int32) (M : Mem) : J w g (s9_wins n o0 x1 x2 x3 M) M 0 [(0, .ref (wa w o0)), (1, .int x1), (2, .int x2), (3, .int x3)] [] := by
  rw [s9_wins]
  refine J_aload_n C dX9_wins_0 rfl 0 rfl ?_
  refine J_iload_n C dX9_wins_1 rfl 1 rfl ?_
  refine J_cvi (As := [.int x1]) C (c9_isWalker (gl g) w o0 h0 x1 M) (gd_v W5_112 W5_114 WP_31 W1_10 W5_115) rfl (by decide) (hdX9_isWalker) h0 (by decide) (cl_9) rfl (Nat.le_of_ble_eq_true rfl) dX9_wins_2 rfl (fun r2 M1 => ?_)
  refine J_if_ne (tgt := 14) C dX9_wins_5 (by decide) (fun _ => ?_) (fun _ => ?_)
  · refine J_iload_n C dX9_wins_14 rfl 2 rfl ?_
    refine J_iconst C dX9_wins_15 kci_1 ?_
    refine J_bipush C dX9_wins_16 kcb_20 ?_
    refine J_csi (As := [.int x2, .int (1 : Int32), .int (20 : Int32)]) (dm := 0) C (c9_bound (gl g) w x2 (1 : Int32) (20 : Int32) M1) (gd_s W5_97 W5_98 W1_10 W5_99) rfl (by decide) (hdX9_bound.2) rfl (Nat.le_of_ble_eq_true rfl) dX9_wins_18 rfl (fun r4 M3 => ?_)
    refine J_istore (lv' := [(4, .int r4), (0, .ref (wa w o0)), (1, .int x1), (2, .int x2), (3, .int x3)]) C dX9_wins_21 (by decide) rfl ?_
    refine J_iload C dX9_wins_23 0 rfl ?_
    refine J_if_ne (tgt := 39) C dX9_wins_25 (by decide) (fun _ => ?_) (fun _ => ?_)
    · refine J_lv [1, 2, 3, 4, 0] rfl ?_
      exact b9_wins_39 C RT n o0 h0 x1 x2 x3 r4 M3
    · refine J_aload_n C dX9_wins_28 rfl 1 rfl ?_
      refine J_cvi (As := []) C (c9_isOver (gl g) w n o0 h0 M3) (gd_v W5_193 W5_195 WP_42 W1_10 W5_196) rfl (by decide) (hdX9_isOver) h0 (by decide) (cl_9) rfl (Nat.le_of_ble_eq_true rfl) dX9_wins_29 rfl (fun r14 M13 => ?_)
      refine J_if_eq (tgt := 39) C dX9_wins_32 (by decide) (fun _ => ?_) (fun _ => ?_)
      · refine J_lv [1, 2, 3, 4, 0] rfl ?_
        exact b9_wins_39 C RT n o0 h0 x1 x2 x3 r4 M13
      · refine J_bipush C dX9_wins_35 kcb_m3 ?_
        refine J_istore (lv' := [(4, .int (-3 : Int32)), (0, .ref (wa w o0)), (1, .int x1), (2, .int x2), (3, .int x3)]) C dX9_wins_37 (by decide) rfl ?_
        refine J_lv [1, 2, 3, 4, 0] rfl ?_
        exact b9_wins_39 C RT n o0 h0 x1 x2 x3 (-3 : Int32) M13
  · refine J_aload_n C dX9_wins_8 rfl 0 rfl ?_
    refine J_iconst C dX9_wins_9 kci_m1 ?_
    refine J_cvi (As := [.int (-1 : Int32)]) C (c9_no (gl g) w o0 h0 (-1 : Int32) M1) (gd_v W5_78 W5_80 WP_26 W1_10 W5_81) rfl (by decide) (hdX9_no) h0 (by decide) (cl_9) rfl (Nat.le_of_ble_eq_true rfl) dX9_wins_10 rfl (fun r16 M15 => ?_)
    exact J_iret C RT rfl dX9_wins_13
theorem c9_wins (l : Launch) (w : WE) (n : Nat) (o0 : Nat) (h0 : typ o0 = 9) (x1 : Int32) (x2 : Int32) (x3 : Int32) (M : Mem) : MC l w yX9_wins (wz yX9_wins cX9_wins 7 (some .int)) rm9_wins [.ref (wa w o0), .int x1, .int x2, .int x3] (s9_wins n o0 x1 x2 x3 M) M :=
  mc_of_J (own := RX9) rfl (by decide) rfl rfl (Nat.le_of_ble_eq_true rfl) (fun _ _ C RT => b9_wins C RT n o0 h0 x1 x2 x3 M)
theorem hdX9_wins : yX9_wins.cls = RX9 ∧ yOK yX9_wins 3 := ⟨rfl, by decide, by decide, by decide⟩
abbrev rm9_fairest : Room := { frames := 8, cells := 0, slots := 0, locals := 178 }
def s9_fairest_171 (n : Nat) (k44 : Int32 → Int32 → Int32 → Int32 → Mem → Option Res) (o0 : Nat) (x1 : Int32) (x2 : Int32) (x7 : Int32) (x9 : Int32) (x10 : Int32) (M : Mem) : Option Res := ilet (x7 + 1) (fun v4 => k44 x7 x10 x9 v4 M)
set_option maxRecDepth 100000 in
set_option maxHeartbeats 4000000 in
theorem b9_fairest_171 {w : WE} {g : GT} (C : CT w g RX9 cX9_fairest rm9_fairest 12) (RT : RTi w g cX9_fairest .int) (n : Nat) (k44 : Int32 → Int32 → Int32 → Int32 → Mem → Option Res) (o0 : Nat) (h0 : typ o0 = 9) (x1 : Int32) (x2 : Int32) (x7 : Int32) (x9 : Int32) (x10 : Int32) (hk44 : ∀ (z4 : Int32) (z5 : Int32) (z6 : Int32) (z7 : Int32) (M : Mem), J w g (k44 z4 z5 z6 z7 M) M 44 [(0, .ref (wa w o0)), (1, .int x1), (2, .int x2), (4, .int z4), (5, .int z5), (6, .int z6), (7, .int z7)] []) (M : Mem) : J w g (s9_fairest_171 n k44 o0 x1 x2 x7 x9 x10 M) M 171 [(0, .ref (wa w o0)), (1, .int x1), (2, .int x2), (7, .int x7), (9, .int x9), (10, .int x10)] [] := by
  rw [s9_fairest_171]
  refine J_iload C dX9_fairest_171 5 rfl ?_
  refine J_istore (lv' := [(5, .int x10), (0, .ref (wa w o0)), (1, .int x1), (2, .int x2), (7, .int x7), (9, .int x9), (10, .int x10)]) C dX9_fairest_173 (by decide) rfl ?_
  refine J_iload C dX9_fairest_175 5 rfl ?_
  refine J_istore (lv' := [(6, .int x9), (5, .int x10), (0, .ref (wa w o0)), (1, .int x1), (2, .int x2), (7, .int x7), (9, .int x9), (10, .int x10)]) C dX9_fairest_177 (by decide) rfl ?_
  refine J_iload C dX9_fairest_179 5 rfl ?_
  refine J_istore (lv' := [(4, .int x7), (6, .int x9), (5, .int x10), (0, .ref (wa w o0)), (1, .int x1), (2, .int x2), (7, .int x7), (9, .int x9), (10, .int x10)]) C dX9_fairest_181 (by decide) rfl ?_
  refine J_iinc (lw := fun v4 => [(7, .int v4), (4, .int x7), (6, .int x9), (5, .int x10), (0, .ref (wa w o0)), (1, .int x1), (2, .int x2), (9, .int x9), (10, .int x10)]) (X := x7 + 1) C dX9_fairest_183 (q := 6) rfl (by rw [kci_1]) (by decide) (fun _ => rfl) (fun v4 => ?_)
  refine J_goto (tgt := 44) C dX9_fairest_186 (by decide) ?_
  refine J_lv [4, 5, 6, 1, 3, 2, 0] rfl ?_
  exact hk44 x7 x10 x9 v4 M
def s9_fairest_122 (n : Nat) (k44 : Int32 → Int32 → Int32 → Int32 → Mem → Option Res) (o0 : Nat) (x1 : Int32) (x2 : Int32) (x4 : Int32) (x5 : Int32) (x6 : Int32) (x7 : Int32) (x8 : Int32) (x9 : Int32) : Nat → Int32 → Int32 → Mem → Option Res
  | 0, _, _, _ => none
  | f + 1, x10, x11, M => if (12 : Int32) ≤ x11 then (if x10 < x5 then (ilet (x7 + 1) (fun v3 => k44 x4 x5 x6 v3 M)) else (if x10 = x5 then (if x9 < x6 then (s9_fairest_171 n k44 o0 x1 x2 x7 x9 x10 M) else (ilet (x7 + 1) (fun v5 => k44 x4 x5 x6 v5 M))) else (s9_fairest_171 n k44 o0 x1 x2 x7 x9 x10 M))) else (ilet (x10 + ((x8 >>> (x11 &&& 31)) &&& (1 : Int32))) (fun v6 => ilet (x11 + 1) (fun v7 => s9_fairest_122 n k44 o0 x1 x2 x4 x5 x6 x7 x8 x9 f v6 v7 M)))
set_option maxRecDepth 100000 in
set_option maxHeartbeats 4000000 in
theorem b9_fairest_122 {w : WE} {g : GT} (C : CT w g RX9 cX9_fairest rm9_fairest 12) (RT : RTi w g cX9_fairest .int) (n : Nat) (k44 : Int32 → Int32 → Int32 → Int32 → Mem → Option Res) (o0 : Nat) (h0 : typ o0 = 9) (x1 : Int32) (x2 : Int32) (x4 : Int32) (x5 : Int32) (x6 : Int32) (x7 : Int32) (x8 : Int32) (x9 : Int32) (hk44 : ∀ (z4 : Int32) (z5 : Int32) (z6 : Int32) (z7 : Int32) (M : Mem), J w g (k44 z4 z5 z6 z7 M) M 44 [(0, .ref (wa w o0)), (1, .int x1), (2, .int x2), (4, .int z4), (5, .int z5), (6, .int z6), (7, .int z7)] []) : ∀ (f : Nat) (x10 : Int32) (x11 : Int32) (M : Mem), J w g (s9_fairest_122 n k44 o0 x1 x2 x4 x5 x6 x7 x8 x9 f x10 x11 M) M 122 [(0, .ref (wa w o0)), (1, .int x1), (2, .int x2), (4, .int x4), (5, .int x5), (6, .int x6), (7, .int x7), (8, .int x8), (9, .int x9), (10, .int x10), (11, .int x11)] [] := by
  intro f
  induction f with
  | zero =>
    intro x10 x11 M
    rw [s9_fairest_122]
    exact J_none
  | succ f ih =>
    intro x10 x11 M
    rw [s9_fairest_122]
    refine J_iload C dX9_fairest_122 10 rfl ?_
    refine J_bipush C dX9_fairest_124 kcb_12 ?_
    refine J_icmp_ge (tgt := 147) C dX9_fairest_126 (by decide) (fun _ => ?_) (fun _ => ?_)
    · refine J_iload C dX9_fairest_147 9 rfl ?_
      refine J_iload C dX9_fairest_149 4 rfl ?_
      refine J_icmp_lt (tgt := 183) C dX9_fairest_151 (by decide) (fun _ => ?_) (fun _ => ?_)
      · refine J_iinc (lw := fun v3 => [(7, .int v3), (0, .ref (wa w o0)), (1, .int x1), (2, .int x2), (4, .int x4), (5, .int x5), (6, .int x6), (8, .int x8), (9, .int x9), (10, .int x10), (11, .int x11)]) (X := x7 + 1) C dX9_fairest_183 (q := 6) rfl (by rw [kci_1]) (by decide) (fun _ => rfl) (fun v3 => ?_)
        refine J_goto (tgt := 44) C dX9_fairest_186 (by decide) ?_
        refine J_lv [1, 2, 3, 4, 5, 6, 0] rfl ?_
        exact hk44 x4 x5 x6 v3 M
      · refine J_iload C dX9_fairest_154 9 rfl ?_
        refine J_iload C dX9_fairest_156 4 rfl ?_
        refine J_icmp_ne (tgt := 171) C dX9_fairest_158 (by decide) (fun _ => ?_) (fun _ => ?_)
        · refine J_lv [0, 1, 2, 6, 8, 9] rfl ?_
          exact b9_fairest_171 C RT n k44 o0 h0 x1 x2 x7 x9 x10 hk44 M
        · refine J_iload C dX9_fairest_161 8 rfl ?_
          refine J_iload C dX9_fairest_163 5 rfl ?_
          refine J_icmp_lt (tgt := 171) C dX9_fairest_165 (by decide) (fun _ => ?_) (fun _ => ?_)
          · refine J_lv [0, 1, 2, 6, 8, 9] rfl ?_
            exact b9_fairest_171 C RT n k44 o0 h0 x1 x2 x7 x9 x10 hk44 M
          · refine J_goto (tgt := 183) C dX9_fairest_168 (by decide) ?_
            refine J_iinc (lw := fun v5 => [(7, .int v5), (0, .ref (wa w o0)), (1, .int x1), (2, .int x2), (4, .int x4), (5, .int x5), (6, .int x6), (8, .int x8), (9, .int x9), (10, .int x10), (11, .int x11)]) (X := x7 + 1) C dX9_fairest_183 (q := 6) rfl (by rw [kci_1]) (by decide) (fun _ => rfl) (fun v5 => ?_)
            refine J_goto (tgt := 44) C dX9_fairest_186 (by decide) ?_
            refine J_lv [1, 2, 3, 4, 5, 6, 0] rfl ?_
            exact hk44 x4 x5 x6 v5 M
    · refine J_iload C dX9_fairest_129 9 rfl ?_
      refine J_iload C dX9_fairest_131 7 rfl ?_
      refine J_iload C dX9_fairest_133 10 rfl ?_
      refine J_ishr C dX9_fairest_135 ?_
      refine J_iconst C dX9_fairest_136 kci_1 ?_
      refine J_iand C dX9_fairest_137 ?_
      refine J_iadd C dX9_fairest_138 ?_
      refine J_ilet (fun v6 => ?_)
      refine J_istore (lv' := [(10, .int v6), (0, .ref (wa w o0)), (1, .int x1), (2, .int x2), (4, .int x4), (5, .int x5), (6, .int x6), (7, .int x7), (8, .int x8), (9, .int x9), (11, .int x11)]) C dX9_fairest_139 (by decide) rfl ?_
      refine J_iinc (lw := fun v7 => [(11, .int v7), (10, .int v6), (0, .ref (wa w o0)), (1, .int x1), (2, .int x2), (4, .int x4), (5, .int x5), (6, .int x6), (7, .int x7), (8, .int x8), (9, .int x9)]) (X := x11 + 1) C dX9_fairest_141 (q := 10) rfl (by rw [kci_1]) (by decide) (fun _ => rfl) (fun v7 => ?_)
      refine J_goto (tgt := 122) C dX9_fairest_144 (by decide) ?_
      refine J_lv [2, 3, 4, 5, 6, 7, 8, 9, 10, 1, 0] rfl ?_
      exact ih v6 v7 M
def s9_fairest_98 (n : Nat) (k44 : Int32 → Int32 → Int32 → Int32 → Mem → Option Res) (k59 : Int32 → Int32 → Int32 → Mem → Option Res) (o0 : Nat) (x1 : Int32) (x2 : Int32) (x4 : Int32) (x5 : Int32) (x6 : Int32) (x7 : Int32) (x9 : Int32) (x10 : Int32) (t0 : Int32) (t1 : Int32) (M : Mem) : Option Res := ilet (t1 ||| t0) (fun v10 => ilet (x9 + (M o0 37)) (fun v11 => ilet (x10 + 1) (fun v12 => k59 v10 v11 v12 M)))
set_option maxRecDepth 100000 in
set_option maxHeartbeats 4000000 in
theorem b9_fairest_98 {w : WE} {g : GT} (C : CT w g RX9 cX9_fairest rm9_fairest 12) (RT : RTi w g cX9_fairest .int) (n : Nat) (k44 : Int32 → Int32 → Int32 → Int32 → Mem → Option Res) (k59 : Int32 → Int32 → Int32 → Mem → Option Res) (o0 : Nat) (h0 : typ o0 = 9) (x1 : Int32) (x2 : Int32) (x4 : Int32) (x5 : Int32) (x6 : Int32) (x7 : Int32) (x9 : Int32) (x10 : Int32) (t0 : Int32) (t1 : Int32) (hk44 : ∀ (z4 : Int32) (z5 : Int32) (z6 : Int32) (z7 : Int32) (M : Mem), J w g (k44 z4 z5 z6 z7 M) M 44 [(0, .ref (wa w o0)), (1, .int x1), (2, .int x2), (4, .int z4), (5, .int z5), (6, .int z6), (7, .int z7)] []) (hk59 : ∀ (z8 : Int32) (z9 : Int32) (z10 : Int32) (M : Mem), J w g (k59 z8 z9 z10 M) M 59 [(0, .ref (wa w o0)), (1, .int x1), (2, .int x2), (4, .int x4), (5, .int x5), (6, .int x6), (7, .int x7), (8, .int z8), (9, .int z9), (10, .int z10)] []) (M : Mem) : J w g (s9_fairest_98 n k44 k59 o0 x1 x2 x4 x5 x6 x7 x9 x10 t0 t1 M) M 98 [(0, .ref (wa w o0)), (1, .int x1), (2, .int x2), (4, .int x4), (5, .int x5), (6, .int x6), (7, .int x7), (9, .int x9), (10, .int x10)] [.int t0, .int t1] := by
  rw [s9_fairest_98]
  refine J_ior C dX9_fairest_98 ?_
  refine J_ilet (fun v10 => ?_)
  refine J_istore (lv' := [(8, .int v10), (0, .ref (wa w o0)), (1, .int x1), (2, .int x2), (4, .int x4), (5, .int x5), (6, .int x6), (7, .int x7), (9, .int x9), (10, .int x10)]) C dX9_fairest_99 (by decide) rfl ?_
  refine J_iload C dX9_fairest_101 8 rfl ?_
  refine J_aload_n C dX9_fairest_103 rfl 1 rfl ?_
  refine J_geti C fk9_37 W4_214 h0 dX9_fairest_104 ?_
  refine J_iadd C dX9_fairest_107 ?_
  refine J_ilet (fun v11 => ?_)
  refine J_istore (lv' := [(9, .int v11), (8, .int v10), (0, .ref (wa w o0)), (1, .int x1), (2, .int x2), (4, .int x4), (5, .int x5), (6, .int x6), (7, .int x7), (10, .int x10)]) C dX9_fairest_108 (by decide) rfl ?_
  refine J_iinc (lw := fun v12 => [(10, .int v12), (9, .int v11), (8, .int v10), (0, .ref (wa w o0)), (1, .int x1), (2, .int x2), (4, .int x4), (5, .int x5), (6, .int x6), (7, .int x7)]) (X := x10 + 1) C dX9_fairest_110 (q := 9) rfl (by rw [kci_1]) (by decide) (fun _ => rfl) (fun v12 => ?_)
  refine J_goto (tgt := 59) C dX9_fairest_113 (by decide) ?_
  refine J_lv [3, 4, 5, 6, 7, 8, 9, 2, 1, 0] rfl ?_
  exact hk59 v10 v11 v12 M
def s9_fairest_59 (n : Nat) (k44 : Int32 → Int32 → Int32 → Int32 → Mem → Option Res) (o0 : Nat) (x1 : Int32) (x2 : Int32) (x4 : Int32) (x5 : Int32) (x6 : Int32) (x7 : Int32) : Nat → Int32 → Int32 → Int32 → Mem → Option Res
  | 0, _, _, _, _ => none
  | f + 1, x8, x9, x10, M => if x1 ≤ x10 then (s9_fairest_122 n k44 o0 x1 x2 x4 x5 x6 x7 x8 x9 n (0 : Int32) (0 : Int32) M) else (cb (s9_partyBy n o0 (x2 + x10) x7 (M o0 13) M) (fun _ M8 => if 0 ≤ (M8 o0 39) then (s9_fairest_98 n k44 (s9_fairest_59 n k44 o0 x1 x2 x4 x5 x6 x7 f) o0 x1 x2 x4 x5 x6 x7 x9 x10 ((1 : Int32) <<< ((M8 o0 39) &&& 31)) x8 M8) else (s9_fairest_98 n k44 (s9_fairest_59 n k44 o0 x1 x2 x4 x5 x6 x7 f) o0 x1 x2 x4 x5 x6 x7 x9 x10 (0 : Int32) x8 M8)))
set_option maxRecDepth 100000 in
set_option maxHeartbeats 4000000 in
theorem b9_fairest_59 {w : WE} {g : GT} (C : CT w g RX9 cX9_fairest rm9_fairest 12) (RT : RTi w g cX9_fairest .int) (n : Nat) (k44 : Int32 → Int32 → Int32 → Int32 → Mem → Option Res) (o0 : Nat) (h0 : typ o0 = 9) (x1 : Int32) (x2 : Int32) (x4 : Int32) (x5 : Int32) (x6 : Int32) (x7 : Int32) (hk44 : ∀ (z4 : Int32) (z5 : Int32) (z6 : Int32) (z7 : Int32) (M : Mem), J w g (k44 z4 z5 z6 z7 M) M 44 [(0, .ref (wa w o0)), (1, .int x1), (2, .int x2), (4, .int z4), (5, .int z5), (6, .int z6), (7, .int z7)] []) : ∀ (f : Nat) (x8 : Int32) (x9 : Int32) (x10 : Int32) (M : Mem), J w g (s9_fairest_59 n k44 o0 x1 x2 x4 x5 x6 x7 f x8 x9 x10 M) M 59 [(0, .ref (wa w o0)), (1, .int x1), (2, .int x2), (4, .int x4), (5, .int x5), (6, .int x6), (7, .int x7), (8, .int x8), (9, .int x9), (10, .int x10)] [] := by
  intro f
  induction f with
  | zero =>
    intro x8 x9 x10 M
    rw [s9_fairest_59]
    exact J_none
  | succ f ih =>
    intro x8 x9 x10 M
    rw [s9_fairest_59]
    refine J_iload C dX9_fairest_59 9 rfl ?_
    refine J_iload_n C dX9_fairest_61 rfl 1 rfl ?_
    refine J_icmp_ge (tgt := 116) C dX9_fairest_62 (by decide) (fun _ => ?_) (fun _ => ?_)
    · refine J_iconst C dX9_fairest_116 kci_0 ?_
      refine J_istore (lv' := [(10, .int (0 : Int32)), (0, .ref (wa w o0)), (1, .int x1), (2, .int x2), (4, .int x4), (5, .int x5), (6, .int x6), (7, .int x7), (8, .int x8), (9, .int x9)]) C dX9_fairest_117 (by decide) rfl ?_
      refine J_iconst C dX9_fairest_119 kci_0 ?_
      refine J_istore (lv' := [(11, .int (0 : Int32)), (10, .int (0 : Int32)), (0, .ref (wa w o0)), (1, .int x1), (2, .int x2), (4, .int x4), (5, .int x5), (6, .int x6), (7, .int x7), (8, .int x8), (9, .int x9)]) C dX9_fairest_120 (by decide) rfl ?_
      refine J_lv [2, 3, 4, 5, 6, 7, 8, 9, 10, 1, 0] rfl ?_
      exact b9_fairest_122 C RT n k44 o0 h0 x1 x2 x4 x5 x6 x7 x8 x9 hk44 n (0 : Int32) (0 : Int32) M
    · refine J_aload_n C dX9_fairest_65 rfl 0 rfl ?_
      refine J_iload_n C dX9_fairest_66 rfl 2 rfl ?_
      refine J_iload C dX9_fairest_67 9 rfl ?_
      refine J_iadd C dX9_fairest_69 ?_
      refine J_iload C dX9_fairest_70 6 rfl ?_
      refine J_aload_n C dX9_fairest_72 rfl 0 rfl ?_
      refine J_geti C fk9_13 W4_190 h0 dX9_fairest_73 ?_
      refine J_cvv (As := [.int (x2 + x10), .int x7, .int (M o0 13)]) C (c9_partyBy (gl g) w n o0 h0 (x2 + x10) x7 (M o0 13) M) (gd_v W6_68 W6_70 WP_62 W1_10 W6_71) rfl (by decide) (hdX9_partyBy) h0 (by decide) (cl_9) rfl (Nat.le_of_ble_eq_true rfl) dX9_fairest_76 rfl (fun r9 M8 => ?_)
      refine J_iload C dX9_fairest_79 7 rfl ?_
      refine J_aload_n C dX9_fairest_81 rfl 0 rfl ?_
      refine J_geti C fk9_39 W4_216 h0 dX9_fairest_82 ?_
      refine J_if_ge (tgt := 92) C dX9_fairest_85 (by decide) (fun _ => ?_) (fun _ => ?_)
      · refine J_iconst C dX9_fairest_92 kci_1 ?_
        refine J_aload_n C dX9_fairest_93 rfl 0 rfl ?_
        refine J_geti C fk9_39 W4_216 h0 dX9_fairest_94 ?_
        refine J_ishl C dX9_fairest_97 ?_
        refine J_lv [0, 1, 2, 3, 4, 5, 6, 8, 9] rfl ?_
        exact b9_fairest_98 C RT n k44 (s9_fairest_59 n k44 o0 x1 x2 x4 x5 x6 x7 f) o0 h0 x1 x2 x4 x5 x6 x7 x9 x10 ((1 : Int32) <<< ((M8 o0 39) &&& 31)) x8 hk44 ih M8
      · refine J_iconst C dX9_fairest_88 kci_0 ?_
        refine J_goto (tgt := 98) C dX9_fairest_89 (by decide) ?_
        refine J_lv [0, 1, 2, 3, 4, 5, 6, 8, 9] rfl ?_
        exact b9_fairest_98 C RT n k44 (s9_fairest_59 n k44 o0 x1 x2 x4 x5 x6 x7 f) o0 h0 x1 x2 x4 x5 x6 x7 x9 x10 (0 : Int32) x8 hk44 ih M8
def s9_fairest_44 (n : Nat) (o0 : Nat) (x1 : Int32) (x2 : Int32) : Nat → Int32 → Int32 → Int32 → Int32 → Mem → Option Res
  | 0, _, _, _, _, _ => none
  | f + 1, x4, x5, x6, x7, M => if (3 : Int32) ≤ x7 then (some (x4, M)) else (s9_fairest_59 n (s9_fairest_44 n o0 x1 x2 f) o0 x1 x2 x4 x5 x6 x7 n (0 : Int32) (0 : Int32) (0 : Int32) M)
set_option maxRecDepth 100000 in
set_option maxHeartbeats 4000000 in
theorem b9_fairest_44 {w : WE} {g : GT} (C : CT w g RX9 cX9_fairest rm9_fairest 12) (RT : RTi w g cX9_fairest .int) (n : Nat) (o0 : Nat) (h0 : typ o0 = 9) (x1 : Int32) (x2 : Int32) : ∀ (f : Nat) (x4 : Int32) (x5 : Int32) (x6 : Int32) (x7 : Int32) (M : Mem), J w g (s9_fairest_44 n o0 x1 x2 f x4 x5 x6 x7 M) M 44 [(0, .ref (wa w o0)), (1, .int x1), (2, .int x2), (4, .int x4), (5, .int x5), (6, .int x6), (7, .int x7)] [] := by
  intro f
  induction f with
  | zero =>
    intro x4 x5 x6 x7 M
    rw [s9_fairest_44]
    exact J_none
  | succ f ih =>
    intro x4 x5 x6 x7 M
    rw [s9_fairest_44]
    refine J_iload C dX9_fairest_44 6 rfl ?_
    refine J_iconst C dX9_fairest_46 kci_3 ?_
    refine J_icmp_ge (tgt := 189) C dX9_fairest_47 (by decide) (fun _ => ?_) (fun _ => ?_)
    · refine J_iload C dX9_fairest_189 3 rfl ?_
      exact J_iret C RT rfl dX9_fairest_191
    · refine J_iconst C dX9_fairest_50 kci_0 ?_
      refine J_istore (lv' := [(8, .int (0 : Int32)), (0, .ref (wa w o0)), (1, .int x1), (2, .int x2), (4, .int x4), (5, .int x5), (6, .int x6), (7, .int x7)]) C dX9_fairest_51 (by decide) rfl ?_
      refine J_iconst C dX9_fairest_53 kci_0 ?_
      refine J_istore (lv' := [(9, .int (0 : Int32)), (8, .int (0 : Int32)), (0, .ref (wa w o0)), (1, .int x1), (2, .int x2), (4, .int x4), (5, .int x5), (6, .int x6), (7, .int x7)]) C dX9_fairest_54 (by decide) rfl ?_
      refine J_iconst C dX9_fairest_56 kci_0 ?_
      refine J_istore (lv' := [(10, .int (0 : Int32)), (9, .int (0 : Int32)), (8, .int (0 : Int32)), (0, .ref (wa w o0)), (1, .int x1), (2, .int x2), (4, .int x4), (5, .int x5), (6, .int x6), (7, .int x7)]) C dX9_fairest_57 (by decide) rfl ?_
      refine J_lv [3, 4, 5, 6, 7, 8, 9, 2, 1, 0] rfl ?_
      exact b9_fairest_59 C RT n (s9_fairest_44 n o0 x1 x2 f) o0 h0 x1 x2 x4 x5 x6 x7 ih n (0 : Int32) (0 : Int32) (0 : Int32) M
def s9_fairest_22 (n : Nat) (o0 : Nat) (x1 : Int32) (x2 : Int32) (x3 : Int32) (M : Mem) : Option Res := if x3 = 0 then (s9_fairest_44 n o0 x1 x2 n (0 : Int32) (-1 : Int32) (0 : Int32) (0 : Int32) M) else (cb (s9_no o0 x3 M) (fun r14 M13 => some (r14, M13)))
set_option maxRecDepth 100000 in
set_option maxHeartbeats 4000000 in
theorem b9_fairest_22 {w : WE} {g : GT} (C : CT w g RX9 cX9_fairest rm9_fairest 12) (RT : RTi w g cX9_fairest .int) (n : Nat) (o0 : Nat) (h0 : typ o0 = 9) (x1 : Int32) (x2 : Int32) (x3 : Int32) (M : Mem) : J w g (s9_fairest_22 n o0 x1 x2 x3 M) M 22 [(0, .ref (wa w o0)), (1, .int x1), (2, .int x2), (3, .int x3)] [] := by
  rw [s9_fairest_22]
  refine J_iload_n C dX9_fairest_22 rfl 3 rfl ?_
  refine J_if_eq (tgt := 32) C dX9_fairest_23 (by decide) (fun _ => ?_) (fun _ => ?_)
  · refine J_iconst C dX9_fairest_32 kci_0 ?_
    refine J_istore (lv' := [(4, .int (0 : Int32)), (0, .ref (wa w o0)), (1, .int x1), (2, .int x2), (3, .int x3)]) C dX9_fairest_33 (by decide) rfl ?_
    refine J_iconst C dX9_fairest_35 kci_m1 ?_
    refine J_istore (lv' := [(5, .int (-1 : Int32)), (4, .int (0 : Int32)), (0, .ref (wa w o0)), (1, .int x1), (2, .int x2), (3, .int x3)]) C dX9_fairest_36 (by decide) rfl ?_
    refine J_iconst C dX9_fairest_38 kci_0 ?_
    refine J_istore (lv' := [(6, .int (0 : Int32)), (5, .int (-1 : Int32)), (4, .int (0 : Int32)), (0, .ref (wa w o0)), (1, .int x1), (2, .int x2), (3, .int x3)]) C dX9_fairest_39 (by decide) rfl ?_
    refine J_iconst C dX9_fairest_41 kci_0 ?_
    refine J_istore (lv' := [(7, .int (0 : Int32)), (6, .int (0 : Int32)), (5, .int (-1 : Int32)), (4, .int (0 : Int32)), (0, .ref (wa w o0)), (1, .int x1), (2, .int x2), (3, .int x3)]) C dX9_fairest_42 (by decide) rfl ?_
    refine J_lv [4, 5, 6, 3, 2, 1, 0] rfl ?_
    exact b9_fairest_44 C RT n o0 h0 x1 x2 n (0 : Int32) (-1 : Int32) (0 : Int32) (0 : Int32) M
  · refine J_aload_n C dX9_fairest_26 rfl 0 rfl ?_
    refine J_iload_n C dX9_fairest_27 rfl 3 rfl ?_
    refine J_cvi (As := [.int x3]) C (c9_no (gl g) w o0 h0 x3 M) (gd_v W5_78 W5_80 WP_26 W1_10 W5_81) rfl (by decide) (hdX9_no) h0 (by decide) (cl_9) rfl (Nat.le_of_ble_eq_true rfl) dX9_fairest_28 rfl (fun r14 M13 => ?_)
    exact J_iret C RT rfl dX9_fairest_31
def s9_fairest (n : Nat) (o0 : Nat) (x1 : Int32) (x2 : Int32) (M : Mem) : Option Res := cb (s9_bound x1 (1 : Int32) (20 : Int32) M) (fun r2 M1 => if r2 = 0 then (cb (s9_isOver n o0 M1) (fun r16 M15 => if r16 = 0 then (s9_fairest_22 n o0 x1 x2 r2 M15) else (s9_fairest_22 n o0 x1 x2 (-3 : Int32) M15))) else (s9_fairest_22 n o0 x1 x2 r2 M1))
set_option maxRecDepth 100000 in
set_option maxHeartbeats 4000000 in
theorem b9_fairest {w : WE} {g : GT} (C : CT w g RX9 cX9_fairest rm9_fairest 12) (RT : RTi w g cX9_fairest .int) (n : Nat) (o0 : Nat) (h0 : typ o0 = 9) (x1 : Int32) (x2 : Int32) (M : Mem) : J w g (s9_fairest n o0 x1 x2 M) M 0 [(0, .ref (wa w o0)), (1, .int x1), (2, .int x2)] [] := by
  rw [s9_fairest]
  refine J_iload_n C dX9_fairest_0 rfl 1 rfl ?_
  refine J_iconst C dX9_fairest_1 kci_1 ?_
  refine J_bipush C dX9_fairest_2 kcb_20 ?_
  refine J_csi (As := [.int x1, .int (1 : Int32), .int (20 : Int32)]) (dm := 0) C (c9_bound (gl g) w x1 (1 : Int32) (20 : Int32) M) (gd_s W5_97 W5_98 W1_10 W5_99) rfl (by decide) (hdX9_bound.2) rfl (Nat.le_of_ble_eq_true rfl) dX9_fairest_4 rfl (fun r2 M1 => ?_)
  refine J_istore_n (lv' := [(3, .int r2), (0, .ref (wa w o0)), (1, .int x1), (2, .int x2)]) C dX9_fairest_7 rfl (by decide) rfl ?_
  refine J_iload_n C dX9_fairest_8 rfl 0 rfl ?_
  refine J_if_ne (tgt := 22) C dX9_fairest_9 (by decide) (fun _ => ?_) (fun _ => ?_)
  · refine J_lv [1, 2, 3, 0] rfl ?_
    exact b9_fairest_22 C RT n o0 h0 x1 x2 r2 M1
  · refine J_aload_n C dX9_fairest_12 rfl 1 rfl ?_
    refine J_cvi (As := []) C (c9_isOver (gl g) w n o0 h0 M1) (gd_v W5_193 W5_195 WP_42 W1_10 W5_196) rfl (by decide) (hdX9_isOver) h0 (by decide) (cl_9) rfl (Nat.le_of_ble_eq_true rfl) dX9_fairest_13 rfl (fun r16 M15 => ?_)
    refine J_if_eq (tgt := 22) C dX9_fairest_16 (by decide) (fun _ => ?_) (fun _ => ?_)
    · refine J_lv [1, 2, 3, 0] rfl ?_
      exact b9_fairest_22 C RT n o0 h0 x1 x2 r2 M15
    · refine J_bipush C dX9_fairest_19 kcb_m3 ?_
      refine J_istore_n (lv' := [(3, .int (-3 : Int32)), (0, .ref (wa w o0)), (1, .int x1), (2, .int x2)]) C dX9_fairest_21 rfl (by decide) rfl ?_
      refine J_lv [1, 2, 3, 0] rfl ?_
      exact b9_fairest_22 C RT n o0 h0 x1 x2 (-3 : Int32) M15
theorem c9_fairest (l : Launch) (w : WE) (n : Nat) (o0 : Nat) (h0 : typ o0 = 9) (x1 : Int32) (x2 : Int32) (M : Mem) : MC l w yX9_fairest (wz yX9_fairest cX9_fairest 12 (some .int)) rm9_fairest [.ref (wa w o0), .int x1, .int x2] (s9_fairest n o0 x1 x2 M) M :=
  mc_of_J (own := RX9) rfl (by decide) rfl rfl (Nat.le_of_ble_eq_true rfl) (fun _ _ C RT => b9_fairest C RT n o0 h0 x1 x2 M)
theorem hdX9_fairest : yX9_fairest.cls = RX9 ∧ yOK yX9_fairest 2 := ⟨rfl, by decide, by decide, by decide⟩
