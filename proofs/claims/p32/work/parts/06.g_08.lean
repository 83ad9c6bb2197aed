abbrev rm8_stop : Room := { frames := 4, cells := 0, slots := 0, locals := 93 }
def s8_stop (n : Nat) (o0 : Nat) (M : Mem) : Option Res := cb (s2_canGoOn n (link o0 1) M) (fun r2 M1 => if r2 = 0 then (cb (s8_refuse o0 (3 : Int32) M1) (fun r4 M3 => some (r4, M3))) else (cb (s2_endRound n (link o0 1) M1) (fun r6 M5 => some (r6, M5))))
set_option maxRecDepth 100000 in
set_option maxHeartbeats 4000000 in
theorem b8_stop {w : WE} {g : GT} (C : CT w g RX8 cX8_stop rm8_stop 1) (RT : RTi w g cX8_stop .int) (n : Nat) (o0 : Nat) (h0 : typ o0 = 8) (M : Mem) : J w g (s8_stop n o0 M) M 0 [(0, .ref (wa w o0))] [] := by
  rw [s8_stop]
  refine J_aload_n C dX8_stop_0 rfl 0 rfl ?_
  refine J_getr C fk8_1 W2_38 h0 dX8_stop_1 ?_
  refine J_cvi (As := []) C (c2_canGoOn (gl g) w n (link o0 1) (tl_8_1 h0) M) (gd_v W3_101 W3_102 W3_103 W1_3 W3_104) rfl (by decide) (hdX2_canGoOn) (tl_8_1 h0) (by decide) (cl_2) rfl (Nat.le_of_ble_eq_true rfl) dX8_stop_4 rfl (fun r2 M1 => ?_)
  refine J_if_eq (tgt := 20) C dX8_stop_7 (by decide) (fun _ => ?_) (fun _ => ?_)
  · refine J_aload_n C dX8_stop_20 rfl 0 rfl ?_
    refine J_iconst C dX8_stop_21 kci_3 ?_
    refine J_cvi (As := [.int (3 : Int32)]) C (c8_refuse (gl g) w o0 h0 (3 : Int32) M1) (gd_v W2_66 W2_68 WP_0 W1_1 W2_69) rfl (by decide) (hdX8_refuse) h0 (by decide) (cl_8) rfl (Nat.le_of_ble_eq_true rfl) dX8_stop_22 rfl (fun r4 M3 => ?_)
    exact J_iret C RT rfl dX8_stop_25
  · refine J_aload_n C dX8_stop_10 rfl 0 rfl ?_
    refine J_getr C fk8_1 W2_38 h0 dX8_stop_11 ?_
    refine J_cvi (As := []) C (c2_endRound (gl g) w n (link o0 1) (tl_8_1 h0) M1) (gd_v W3_140 W3_141 W3_142 W1_3 W3_143) rfl (by decide) (hdX2_endRound) (tl_8_1 h0) (by decide) (cl_2) rfl (Nat.le_of_ble_eq_true rfl) dX8_stop_14 rfl (fun r6 M5 => ?_)
    refine J_goto (tgt := 25) C dX8_stop_17 (by decide) ?_
    exact J_iret C RT rfl dX8_stop_25
theorem c8_stop (l : Launch) (w : WE) (n : Nat) (o0 : Nat) (h0 : typ o0 = 8) (M : Mem) : MC l w yX8_stop (wz yX8_stop cX8_stop 1 (some .int)) rm8_stop [.ref (wa w o0)] (s8_stop n o0 M) M :=
  mc_of_J (own := RX8) rfl (by decide) rfl rfl (Nat.le_of_ble_eq_true rfl) (fun _ _ C RT => b8_stop C RT n o0 h0 M)
theorem hdX8_stop : yX8_stop.cls = RX8 ∧ yOK yX8_stop 0 := ⟨rfl, by decide, by decide, by decide⟩
abbrev rm8_sits : Room := { frames := 3, cells := 0, slots := 0, locals := 72 }
def s8_sits (n : Nat) (o0 : Nat) (x1 : Int32) (M : Mem) : Option Res := cb (s2_knowsIn (link o0 1) x1 M) (fun r2 M1 => if r2 = 0 then (cb (s8_refuse o0 (1 : Int32) M1) (fun r8 M7 => some (r8, M7))) else (cb (s5_seatAll n (link (link o0 1) 2) (link o0 1) M1) (fun _ M3 => cb (s5_placeOf (link (link o0 1) 2) x1 (link (link o0 1) 0) M3) (fun r6 M5 => some (r6, M5)))))
set_option maxRecDepth 100000 in
set_option maxHeartbeats 4000000 in
theorem b8_sits {w : WE} {g : GT} (C : CT w g RX8 cX8_sits rm8_sits 2) (RT : RTi w g cX8_sits .int) (n : Nat) (o0 : Nat) (h0 : typ o0 = 8) (x1 : Int32) (M : Mem) : J w g (s8_sits n o0 x1 M) M 0 [(0, .ref (wa w o0)), (1, .int x1)] [] := by
  rw [s8_sits]
  refine J_aload_n C dX8_sits_0 rfl 0 rfl ?_
  refine J_getr C fk8_1 W2_38 h0 dX8_sits_1 ?_
  refine J_iload_n C dX8_sits_4 rfl 1 rfl ?_
  refine J_cvi (As := [.int x1]) C (c2_knowsIn (gl g) w (link o0 1) (tl_8_1 h0) x1 M) (gd_v W3_212 W3_110 W3_111 W1_3 W3_112) rfl (by decide) (hdX2_knowsIn) (tl_8_1 h0) (by decide) (cl_2) rfl (Nat.le_of_ble_eq_true rfl) dX8_sits_5 rfl (fun r2 M1 => ?_)
  refine J_if_ne (tgt := 17) C dX8_sits_8 (by decide) (fun _ => ?_) (fun _ => ?_)
  · refine J_aload_n C dX8_sits_17 rfl 0 rfl ?_
    refine J_getr C fk8_1 W2_38 h0 dX8_sits_18 ?_
    refine J_getr C fk2_2 W1_173 (tl_8_1 h0) dX8_sits_21 ?_
    refine J_aload_n C dX8_sits_24 rfl 0 rfl ?_
    refine J_getr C fk8_1 W2_38 h0 dX8_sits_25 ?_
    refine J_cvv (As := [.ref (wa w (link o0 1))]) C (c5_seatAll (gl g) w n (link (link o0 1) 2) (tl_2_2 (tl_8_1 h0)) (link o0 1) (tl_8_1 h0) M1) (gd_v W3_213 W3_145 W3_146 W1_6 W3_147) rfl (by decide) (hdX5_seatAll) (tl_2_2 (tl_8_1 h0)) (by decide) (cl_5) rfl (Nat.le_of_ble_eq_true rfl) dX8_sits_28 rfl (fun r4 M3 => ?_)
    refine J_aload_n C dX8_sits_31 rfl 0 rfl ?_
    refine J_getr C fk8_1 W2_38 h0 dX8_sits_32 ?_
    refine J_getr C fk2_2 W1_173 (tl_8_1 h0) dX8_sits_35 ?_
    refine J_iload_n C dX8_sits_38 rfl 1 rfl ?_
    refine J_aload_n C dX8_sits_39 rfl 0 rfl ?_
    refine J_getr C fk8_1 W2_38 h0 dX8_sits_40 ?_
    refine J_getr C fk2_0 W1_164 (tl_8_1 h0) dX8_sits_43 ?_
    refine J_cvi (As := [.int x1, .ref (wa w (link (link o0 1) 0))]) C (c5_placeOf (gl g) w (link (link o0 1) 2) (tl_2_2 (tl_8_1 h0)) x1 (link (link o0 1) 0) (tl_2_0 (tl_8_1 h0)) M3) (gd_v W3_214 W3_215 W3_216 W1_6 W3_217) rfl (by decide) (hdX5_placeOf) (tl_2_2 (tl_8_1 h0)) (by decide) (cl_5) rfl (Nat.le_of_ble_eq_true rfl) dX8_sits_46 rfl (fun r6 M5 => ?_)
    exact J_iret C RT rfl dX8_sits_49
  · refine J_aload_n C dX8_sits_11 rfl 0 rfl ?_
    refine J_iconst C dX8_sits_12 kci_1 ?_
    refine J_cvi (As := [.int (1 : Int32)]) C (c8_refuse (gl g) w o0 h0 (1 : Int32) M1) (gd_v W2_66 W2_68 WP_0 W1_1 W2_69) rfl (by decide) (hdX8_refuse) h0 (by decide) (cl_8) rfl (Nat.le_of_ble_eq_true rfl) dX8_sits_13 rfl (fun r8 M7 => ?_)
    exact J_iret C RT rfl dX8_sits_16
theorem c8_sits (l : Launch) (w : WE) (n : Nat) (o0 : Nat) (h0 : typ o0 = 8) (x1 : Int32) (M : Mem) : MC l w yX8_sits (wz yX8_sits cX8_sits 2 (some .int)) rm8_sits [.ref (wa w o0), .int x1] (s8_sits n o0 x1 M) M :=
  mc_of_J (own := RX8) rfl (by decide) rfl rfl (Nat.le_of_ble_eq_true rfl) (fun _ _ C RT => b8_sits C RT n o0 h0 x1 M)
theorem hdX8_sits : yX8_sits.cls = RX8 ∧ yOK yX8_sits 1 := ⟨rfl, by decide, by decide, by decide⟩
abbrev rm8_would : Room := { frames := 3, cells := 0, slots := 0, locals := 72 }
def s8_would (n : Nat) (o0 : Nat) (x1 : Int32) (M : Mem) : Option Res := if x1 < 0 then (cb (s8_refuse o0 (2 : Int32) M) (fun r2 M1 => some (r2, M1))) else (if x1 ≤ (1 : Int32) then (cb (s5_seatAll n (link (link o0 1) 2) (link o0 1) M) (fun _ M3 => cb (s2_whoGoes n (link o0 1) M3) (fun r6 M5 => if x1 = 0 then (some (r6, M5)) else (cb (s2_losesChair (link o0 1) r6 M5) (fun r8 M7 => if r8 = 0 then (some ((-9 : Int32), M7)) else (cb (s4_leavingPlace n (link (link o0 1) 0) (M7 (link o0 1) 6) M7) (fun r10 M9 => some (r10, M9)))))))) else (cb (s8_refuse o0 (2 : Int32) M) (fun r12 M11 => some (r12, M11))))
set_option maxRecDepth 100000 in
set_option maxHeartbeats 4000000 in
theorem b8_would {w : WE} {g : GT} (C : CT w g RX8 cX8_would rm8_would 3) (RT : RTi w g cX8_would .int) (n : Nat) (o0 : Nat) (h0 : typ o0 = 8) (x1 : Int32) (M : Mem) : J w g (s8_would n o0 x1 M) M 0 [(0, .ref (wa w o0)), (1, .int x1)] [] := by
  rw [s8_would]
  refine J_iload_n C dX8_would_0 rfl 1 rfl ?_
  refine J_if_lt (tgt := 9) C dX8_would_1 (by decide) (fun _ => ?_) (fun _ => ?_)
  · refine J_aload_n C dX8_would_9 rfl 0 rfl ?_
    refine J_iconst C dX8_would_10 kci_2 ?_
    refine J_cvi (As := [.int (2 : Int32)]) C (c8_refuse (gl g) w o0 h0 (2 : Int32) M) (gd_v W2_66 W2_68 WP_0 W1_1 W2_69) rfl (by decide) (hdX8_refuse) h0 (by decide) (cl_8) rfl (Nat.le_of_ble_eq_true rfl) dX8_would_11 rfl (fun r2 M1 => ?_)
    exact J_iret C RT rfl dX8_would_14
  · refine J_iload_n C dX8_would_4 rfl 1 rfl ?_
    refine J_iconst C dX8_would_5 kci_1 ?_
    refine J_icmp_le (tgt := 15) C dX8_would_6 (by decide) (fun _ => ?_) (fun _ => ?_)
    · refine J_aload_n C dX8_would_15 rfl 0 rfl ?_
      refine J_getr C fk8_1 W2_38 h0 dX8_would_16 ?_
      refine J_getr C fk2_2 W1_173 (tl_8_1 h0) dX8_would_19 ?_
      refine J_aload_n C dX8_would_22 rfl 0 rfl ?_
      refine J_getr C fk8_1 W2_38 h0 dX8_would_23 ?_
      refine J_cvv (As := [.ref (wa w (link o0 1))]) C (c5_seatAll (gl g) w n (link (link o0 1) 2) (tl_2_2 (tl_8_1 h0)) (link o0 1) (tl_8_1 h0) M) (gd_v W3_213 W3_145 W3_146 W1_6 W3_147) rfl (by decide) (hdX5_seatAll) (tl_2_2 (tl_8_1 h0)) (by decide) (cl_5) rfl (Nat.le_of_ble_eq_true rfl) dX8_would_26 rfl (fun r4 M3 => ?_)
      refine J_aload_n C dX8_would_29 rfl 0 rfl ?_
      refine J_getr C fk8_1 W2_38 h0 dX8_would_30 ?_
      refine J_cvi (As := []) C (c2_whoGoes (gl g) w n (link o0 1) (tl_8_1 h0) M3) (gd_v W3_223 W3_168 W3_169 W1_3 W3_170) rfl (by decide) (hdX2_whoGoes) (tl_8_1 h0) (by decide) (cl_2) rfl (Nat.le_of_ble_eq_true rfl) dX8_would_33 rfl (fun r6 M5 => ?_)
      refine J_istore_n (lv' := [(2, .int r6), (0, .ref (wa w o0)), (1, .int x1)]) C dX8_would_36 rfl (by decide) rfl ?_
      refine J_iload_n C dX8_would_37 rfl 2 rfl ?_
      refine J_if_ne (tgt := 43) C dX8_would_38 (by decide) (fun _ => ?_) (fun _ => ?_)
      · refine J_aload_n C dX8_would_43 rfl 1 rfl ?_
        refine J_getr C fk8_1 W2_38 h0 dX8_would_44 ?_
        refine J_iload_n C dX8_would_47 rfl 0 rfl ?_
        refine J_cvi (As := [.int r6]) C (c2_losesChair (gl g) w (link o0 1) (tl_8_1 h0) r6 M5) (gd_v W3_224 W3_182 W3_183 W1_3 W3_184) rfl (by decide) (hdX2_losesChair) (tl_8_1 h0) (by decide) (cl_2) rfl (Nat.le_of_ble_eq_true rfl) dX8_would_48 rfl (fun r8 M7 => ?_)
        refine J_if_eq (tgt := 74) C dX8_would_51 (by decide) (fun _ => ?_) (fun _ => ?_)
        · refine J_bipush C dX8_would_74 kcb_m9 ?_
          exact J_iret C RT rfl dX8_would_76
        · refine J_aload_n C dX8_would_54 rfl 1 rfl ?_
          refine J_getr C fk8_1 W2_38 h0 dX8_would_55 ?_
          refine J_getr C fk2_0 W1_164 (tl_8_1 h0) dX8_would_58 ?_
          refine J_aload_n C dX8_would_61 rfl 1 rfl ?_
          refine J_getr C fk8_1 W2_38 h0 dX8_would_62 ?_
          refine J_geti C fk2_6 W1_184 (tl_8_1 h0) dX8_would_65 ?_
          refine J_cvi (As := [.int (M7 (link o0 1) 6)]) C (c4_leavingPlace (gl g) w n (link (link o0 1) 0) (tl_2_0 (tl_8_1 h0)) (M7 (link o0 1) 6) M7) (gd_v W3_225 W3_186 W3_187 W1_4 W3_188) rfl (by decide) (hdX4_leavingPlace) (tl_2_0 (tl_8_1 h0)) (by decide) (cl_4) rfl (Nat.le_of_ble_eq_true rfl) dX8_would_68 rfl (fun r10 M9 => ?_)
          refine J_goto (tgt := 76) C dX8_would_71 (by decide) ?_
          exact J_iret C RT rfl dX8_would_76
      · refine J_iload_n C dX8_would_41 rfl 0 rfl ?_
        exact J_iret C RT rfl dX8_would_42
    · refine J_aload_n C dX8_would_9 rfl 0 rfl ?_
      refine J_iconst C dX8_would_10 kci_2 ?_
      refine J_cvi (As := [.int (2 : Int32)]) C (c8_refuse (gl g) w o0 h0 (2 : Int32) M) (gd_v W2_66 W2_68 WP_0 W1_1 W2_69) rfl (by decide) (hdX8_refuse) h0 (by decide) (cl_8) rfl (Nat.le_of_ble_eq_true rfl) dX8_would_11 rfl (fun r12 M11 => ?_)
      exact J_iret C RT rfl dX8_would_14
theorem c8_would (l : Launch) (w : WE) (n : Nat) (o0 : Nat) (h0 : typ o0 = 8) (x1 : Int32) (M : Mem) : MC l w yX8_would (wz yX8_would cX8_would 3 (some .int)) rm8_would [.ref (wa w o0), .int x1] (s8_would n o0 x1 M) M :=
  mc_of_J (own := RX8) rfl (by decide) rfl rfl (Nat.le_of_ble_eq_true rfl) (fun _ _ C RT => b8_would C RT n o0 h0 x1 M)
theorem hdX8_would : yX8_would.cls = RX8 ∧ yOK yX8_would 1 := ⟨rfl, by decide, by decide, by decide⟩
abbrev rm8_odds : Room := { frames := 5, cells := 0, slots := 0, locals := 117 }
def s8_odds_23 (n : Nat) (o0 : Nat) (x1 : Int32) (x2 : Int32) (t0 : Int32) (M : Mem) : Option Res := if t0 = 0 then (if inB x1 (alen (link (link o0 1) 3)) then cb (s0_oddsAt n (link o0 0) x1 x2 (M (link (link (link o0 1) 3) x1.toNatClampNeg) 5) M) (fun r5 M4 => some (r5, M4)) else none) else (cb (s8_refuse o0 t0 M) (fun r7 M6 => some (r7, M6)))
set_option maxRecDepth 100000 in
set_option maxHeartbeats 4000000 in
theorem b8_odds_23 {w : WE} {g : GT} (C : CT w g RX8 cX8_odds rm8_odds 4) (RT : RTi w g cX8_odds .int) (n : Nat) (o0 : Nat) (h0 : typ o0 = 8) (x1 : Int32) (x2 : Int32) (t0 : Int32) (M : Mem) : J w g (s8_odds_23 n o0 x1 x2 t0 M) M 23 [(0, .ref (wa w o0)), (1, .int x1), (2, .int x2)] [.int t0] := by
  rw [s8_odds_23]
  refine J_istore_n (lv' := [(3, .int t0), (0, .ref (wa w o0)), (1, .int x1), (2, .int x2)]) C dX8_odds_23 rfl (by decide) rfl ?_
  refine J_iload_n C dX8_odds_24 rfl 0 rfl ?_
  refine J_if_eq (tgt := 36) C dX8_odds_25 (by decide) (fun _ => ?_) (fun _ => ?_)
  · refine J_aload_n C dX8_odds_36 rfl 1 rfl ?_
    refine J_getr C fk8_0 W2_37 h0 dX8_odds_37 ?_
    refine J_iload_n C dX8_odds_40 rfl 2 rfl ?_
    refine J_iload_n C dX8_odds_41 rfl 3 rfl ?_
    refine J_aload_n C dX8_odds_42 rfl 1 rfl ?_
    refine J_getr C fk8_1 W2_38 h0 dX8_odds_43 ?_
    refine J_getr C fk2_3 W1_177 (tl_8_1 h0) dX8_odds_46 ?_
    refine J_iload_n C dX8_odds_49 rfl 2 rfl ?_
    refine J_aaload C (tl_2_3 (tl_8_1 h0)) dX8_odds_50 (fun hb3 => ?_)
    refine J_geti C fk7_5 W1_137 (t_wk (tl_2_3 (tl_8_1 h0)) hb3) dX8_odds_51 ?_
    refine J_cvi (As := [.int x1, .int x2, .int (M (link (link (link o0 1) 3) x1.toNatClampNeg) 5)]) C (c0_oddsAt (gl g) w n (link o0 0) (tl_8_0 h0) x1 x2 (M (link (link (link o0 1) 3) x1.toNatClampNeg) 5) M) (gd_v W3_230 W3_231 W3_232 W1_2 W3_233) rfl (by decide) (hdX0_oddsAt) (tl_8_0 h0) (by decide) (cl_0) rfl (Nat.le_of_ble_eq_true rfl) dX8_odds_54 rfl (fun r5 M4 => ?_)
    exact J_iret C RT rfl dX8_odds_57
  · refine J_aload_n C dX8_odds_28 rfl 1 rfl ?_
    refine J_iload_n C dX8_odds_29 rfl 0 rfl ?_
    refine J_cvi (As := [.int t0]) C (c8_refuse (gl g) w o0 h0 t0 M) (gd_v W2_66 W2_68 WP_0 W1_1 W2_69) rfl (by decide) (hdX8_refuse) h0 (by decide) (cl_8) rfl (Nat.le_of_ble_eq_true rfl) dX8_odds_30 rfl (fun r7 M6 => ?_)
    refine J_goto (tgt := 57) C dX8_odds_33 (by decide) ?_
    exact J_iret C RT rfl dX8_odds_57
def s8_odds (n : Nat) (o0 : Nat) (x1 : Int32) (x2 : Int32) (M : Mem) : Option Res := cb (s2_knowsIn (link o0 1) x1 M) (fun r2 M1 => if r2 = 0 then (s8_odds_23 n o0 x1 x2 (1 : Int32) M1) else (cb (s8_whyNotWithin x2 (1 : Int32) (200 : Int32) M1) (fun r9 M8 => s8_odds_23 n o0 x1 x2 r9 M8)))
set_option maxRecDepth 100000 in
set_option maxHeartbeats 4000000 in
theorem b8_odds {w : WE} {g : GT} (C : CT w g RX8 cX8_odds rm8_odds 4) (RT : RTi w g cX8_odds .int) (n : Nat) (o0 : Nat) (h0 : typ o0 = 8) (x1 : Int32) (x2 : Int32) (M : Mem) : J w g (s8_odds n o0 x1 x2 M) M 0 [(0, .ref (wa w o0)), (1, .int x1), (2, .int x2)] [] := by
  rw [s8_odds]
  refine J_aload_n C dX8_odds_0 rfl 0 rfl ?_
  refine J_getr C fk8_1 W2_38 h0 dX8_odds_1 ?_
  refine J_iload_n C dX8_odds_4 rfl 1 rfl ?_
  refine J_cvi (As := [.int x1]) C (c2_knowsIn (gl g) w (link o0 1) (tl_8_1 h0) x1 M) (gd_v W3_212 W3_110 W3_111 W1_3 W3_112) rfl (by decide) (hdX2_knowsIn) (tl_8_1 h0) (by decide) (cl_2) rfl (Nat.le_of_ble_eq_true rfl) dX8_odds_5 rfl (fun r2 M1 => ?_)
  refine J_if_eq (tgt := 22) C dX8_odds_8 (by decide) (fun _ => ?_) (fun _ => ?_)
  · refine J_iconst C dX8_odds_22 kci_1 ?_
    exact b8_odds_23 C RT n o0 h0 x1 x2 (1 : Int32) M1
  · refine J_iload_n C dX8_odds_11 rfl 2 rfl ?_
    refine J_iconst C dX8_odds_12 kci_1 ?_
    refine J_sipush C dX8_odds_13 kcs_200 ?_
    refine J_csi (As := [.int x2, .int (1 : Int32), .int (200 : Int32)]) (dm := 0) C (c8_whyNotWithin (gl g) w x2 (1 : Int32) (200 : Int32) M1) (gd_s W3_66 W2_203 W1_1 W2_204) rfl (by decide) (hdX8_whyNotWithin.2) rfl (Nat.le_of_ble_eq_true rfl) dX8_odds_16 rfl (fun r9 M8 => ?_)
    refine J_goto (tgt := 23) C dX8_odds_19 (by decide) ?_
    exact b8_odds_23 C RT n o0 h0 x1 x2 r9 M8
theorem c8_odds (l : Launch) (w : WE) (n : Nat) (o0 : Nat) (h0 : typ o0 = 8) (x1 : Int32) (x2 : Int32) (M : Mem) : MC l w yX8_odds (wz yX8_odds cX8_odds 4 (some .int)) rm8_odds [.ref (wa w o0), .int x1, .int x2] (s8_odds n o0 x1 x2 M) M :=
  mc_of_J (own := RX8) rfl (by decide) rfl rfl (Nat.le_of_ble_eq_true rfl) (fun _ _ C RT => b8_odds C RT n o0 h0 x1 x2 M)
theorem hdX8_odds : yX8_odds.cls = RX8 ∧ yOK yX8_odds 2 := ⟨rfl, by decide, by decide, by decide⟩
abbrev rm8_fair : Room := { frames := 6, cells := 0, slots := 0, locals := 139 }
def s8_fair (n : Nat) (o0 : Nat) (x1 : Int32) (M : Mem) : Option Res := cb (s8_whyNotWithin x1 (1 : Int32) (200 : Int32) M) (fun r2 M1 => if r2 = 0 then (cb (s0_unfairness n (link o0 0) x1 M1) (fun r4 M3 => some (r4, M3))) else (cb (s8_refuse o0 r2 M1) (fun r6 M5 => some (r6, M5))))
set_option maxRecDepth 100000 in
set_option maxHeartbeats 4000000 in
theorem b8_fair {w : WE} {g : GT} (C : CT w g RX8 cX8_fair rm8_fair 3) (RT : RTi w g cX8_fair .int) (n : Nat) (o0 : Nat) (h0 : typ o0 = 8) (x1 : Int32) (M : Mem) : J w g (s8_fair n o0 x1 M) M 0 [(0, .ref (wa w o0)), (1, .int x1)] [] := by
  rw [s8_fair]
  refine J_iload_n C dX8_fair_0 rfl 1 rfl ?_
  refine J_iconst C dX8_fair_1 kci_1 ?_
  refine J_sipush C dX8_fair_2 kcs_200 ?_
  refine J_csi (As := [.int x1, .int (1 : Int32), .int (200 : Int32)]) (dm := 0) C (c8_whyNotWithin (gl g) w x1 (1 : Int32) (200 : Int32) M) (gd_s W3_66 W2_203 W1_1 W2_204) rfl (by decide) (hdX8_whyNotWithin.2) rfl (Nat.le_of_ble_eq_true rfl) dX8_fair_5 rfl (fun r2 M1 => ?_)
  refine J_istore_n (lv' := [(2, .int r2), (0, .ref (wa w o0)), (1, .int x1)]) C dX8_fair_8 rfl (by decide) rfl ?_
  refine J_iload_n C dX8_fair_9 rfl 0 rfl ?_
  refine J_if_eq (tgt := 21) C dX8_fair_10 (by decide) (fun _ => ?_) (fun _ => ?_)
  · refine J_aload_n C dX8_fair_21 rfl 1 rfl ?_
    refine J_getr C fk8_0 W2_37 h0 dX8_fair_22 ?_
    refine J_iload_n C dX8_fair_25 rfl 2 rfl ?_
    refine J_cvi (As := [.int x1]) C (c0_unfairness (gl g) w n (link o0 0) (tl_8_0 h0) x1 M1) (gd_v W4_6 W4_7 W4_8 W1_2 W4_9) rfl (by decide) (hdX0_unfairness) (tl_8_0 h0) (by decide) (cl_0) rfl (Nat.le_of_ble_eq_true rfl) dX8_fair_26 rfl (fun r4 M3 => ?_)
    exact J_iret C RT rfl dX8_fair_29
  · refine J_aload_n C dX8_fair_13 rfl 1 rfl ?_
    refine J_iload_n C dX8_fair_14 rfl 0 rfl ?_
    refine J_cvi (As := [.int r2]) C (c8_refuse (gl g) w o0 h0 r2 M1) (gd_v W2_66 W2_68 WP_0 W1_1 W2_69) rfl (by decide) (hdX8_refuse) h0 (by decide) (cl_8) rfl (Nat.le_of_ble_eq_true rfl) dX8_fair_15 rfl (fun r6 M5 => ?_)
    refine J_goto (tgt := 29) C dX8_fair_18 (by decide) ?_
    exact J_iret C RT rfl dX8_fair_29
theorem c8_fair (l : Launch) (w : WE) (n : Nat) (o0 : Nat) (h0 : typ o0 = 8) (x1 : Int32) (M : Mem) : MC l w yX8_fair (wz yX8_fair cX8_fair 3 (some .int)) rm8_fair [.ref (wa w o0), .int x1] (s8_fair n o0 x1 M) M :=
  mc_of_J (own := RX8) rfl (by decide) rfl rfl (Nat.le_of_ble_eq_true rfl) (fun _ _ C RT => b8_fair C RT n o0 h0 x1 M)
theorem hdX8_fair : yX8_fair.cls = RX8 ∧ yOK yX8_fair 1 := ⟨rfl, by decide, by decide, by decide⟩
abbrev rm8_bestSlow : Room := { frames := 6, cells := 0, slots := 0, locals := 143 }
def s8_bestSlow_23 (n : Nat) (o0 : Nat) (x1 : Int32) (x2 : Int32) (t0 : Int32) (M : Mem) : Option Res := if t0 = 0 then (cb (s0_slowOfGreatestOdds n (link o0 0) x1 x2 M) (fun r4 M3 => some (r4, M3))) else (cb (s8_refuse o0 t0 M) (fun r6 M5 => some (r6, M5)))
set_option maxRecDepth 100000 in
set_option maxHeartbeats 4000000 in
theorem b8_bestSlow_23 {w : WE} {g : GT} (C : CT w g RX8 cX8_bestSlow rm8_bestSlow 4) (RT : RTi w g cX8_bestSlow .int) (n : Nat) (o0 : Nat) (h0 : typ o0 = 8) (x1 : Int32) (x2 : Int32) (t0 : Int32) (M : Mem) : J w g (s8_bestSlow_23 n o0 x1 x2 t0 M) M 23 [(0, .ref (wa w o0)), (1, .int x1), (2, .int x2)] [.int t0] := by
  rw [s8_bestSlow_23]
  refine J_istore_n (lv' := [(3, .int t0), (0, .ref (wa w o0)), (1, .int x1), (2, .int x2)]) C dX8_bestSlow_23 rfl (by decide) rfl ?_
  refine J_iload_n C dX8_bestSlow_24 rfl 0 rfl ?_
  refine J_if_eq (tgt := 36) C dX8_bestSlow_25 (by decide) (fun _ => ?_) (fun _ => ?_)
  · refine J_aload_n C dX8_bestSlow_36 rfl 1 rfl ?_
    refine J_getr C fk8_0 W2_37 h0 dX8_bestSlow_37 ?_
    refine J_iload_n C dX8_bestSlow_40 rfl 2 rfl ?_
    refine J_iload_n C dX8_bestSlow_41 rfl 3 rfl ?_
    refine J_cvi (As := [.int x1, .int x2]) C (c0_slowOfGreatestOdds (gl g) w n (link o0 0) (tl_8_0 h0) x1 x2 M) (gd_v W4_24 W4_25 W4_26 W1_2 W4_27) rfl (by decide) (hdX0_slowOfGreatestOdds) (tl_8_0 h0) (by decide) (cl_0) rfl (Nat.le_of_ble_eq_true rfl) dX8_bestSlow_42 rfl (fun r4 M3 => ?_)
    exact J_iret C RT rfl dX8_bestSlow_45
  · refine J_aload_n C dX8_bestSlow_28 rfl 1 rfl ?_
    refine J_iload_n C dX8_bestSlow_29 rfl 0 rfl ?_
    refine J_cvi (As := [.int t0]) C (c8_refuse (gl g) w o0 h0 t0 M) (gd_v W2_66 W2_68 WP_0 W1_1 W2_69) rfl (by decide) (hdX8_refuse) h0 (by decide) (cl_8) rfl (Nat.le_of_ble_eq_true rfl) dX8_bestSlow_30 rfl (fun r6 M5 => ?_)
    refine J_goto (tgt := 45) C dX8_bestSlow_33 (by decide) ?_
    exact J_iret C RT rfl dX8_bestSlow_45
def s8_bestSlow (n : Nat) (o0 : Nat) (x1 : Int32) (x2 : Int32) (M : Mem) : Option Res := cb (s2_knows (link o0 1) x1 M) (fun r2 M1 => if r2 = 0 then (s8_bestSlow_23 n o0 x1 x2 (1 : Int32) M1) else (cb (s8_whyNotWithin x2 (1 : Int32) (200 : Int32) M1) (fun r8 M7 => s8_bestSlow_23 n o0 x1 x2 r8 M7)))
set_option maxRecDepth 100000 in
set_option maxHeartbeats 4000000 in
theorem b8_bestSlow {w : WE} {g : GT} (C : CT w g RX8 cX8_bestSlow rm8_bestSlow 4) (RT : RTi w g cX8_bestSlow .int) (n : Nat) (o0 : Nat) (h0 : typ o0 = 8) (x1 : Int32) (x2 : Int32) (M : Mem) : J w g (s8_bestSlow n o0 x1 x2 M) M 0 [(0, .ref (wa w o0)), (1, .int x1), (2, .int x2)] [] := by
  rw [s8_bestSlow]
  refine J_aload_n C dX8_bestSlow_0 rfl 0 rfl ?_
  refine J_getr C fk8_1 W2_38 h0 dX8_bestSlow_1 ?_
  refine J_iload_n C dX8_bestSlow_4 rfl 1 rfl ?_
  refine J_cvi (As := [.int x1]) C (c2_knows (gl g) w (link o0 1) (tl_8_1 h0) x1 M) (gd_v W3_43 W3_44 W3_45 W1_3 W3_46) rfl (by decide) (hdX2_knows) (tl_8_1 h0) (by decide) (cl_2) rfl (Nat.le_of_ble_eq_true rfl) dX8_bestSlow_5 rfl (fun r2 M1 => ?_)
  refine J_if_eq (tgt := 22) C dX8_bestSlow_8 (by decide) (fun _ => ?_) (fun _ => ?_)
  · refine J_iconst C dX8_bestSlow_22 kci_1 ?_
    exact b8_bestSlow_23 C RT n o0 h0 x1 x2 (1 : Int32) M1
  · refine J_iload_n C dX8_bestSlow_11 rfl 2 rfl ?_
    refine J_iconst C dX8_bestSlow_12 kci_1 ?_
    refine J_sipush C dX8_bestSlow_13 kcs_200 ?_
    refine J_csi (As := [.int x2, .int (1 : Int32), .int (200 : Int32)]) (dm := 0) C (c8_whyNotWithin (gl g) w x2 (1 : Int32) (200 : Int32) M1) (gd_s W3_66 W2_203 W1_1 W2_204) rfl (by decide) (hdX8_whyNotWithin.2) rfl (Nat.le_of_ble_eq_true rfl) dX8_bestSlow_16 rfl (fun r8 M7 => ?_)
    refine J_goto (tgt := 23) C dX8_bestSlow_19 (by decide) ?_
    exact b8_bestSlow_23 C RT n o0 h0 x1 x2 r8 M7
theorem c8_bestSlow (l : Launch) (w : WE) (n : Nat) (o0 : Nat) (h0 : typ o0 = 8) (x1 : Int32) (x2 : Int32) (M : Mem) : MC l w yX8_bestSlow (wz yX8_bestSlow cX8_bestSlow 4 (some .int)) rm8_bestSlow [.ref (wa w o0), .int x1, .int x2] (s8_bestSlow n o0 x1 x2 M) M :=
  mc_of_J (own := RX8) rfl (by decide) rfl rfl (Nat.le_of_ble_eq_true rfl) (fun _ _ C RT => b8_bestSlow C RT n o0 h0 x1 x2 M)
theorem hdX8_bestSlow : yX8_bestSlow.cls = RX8 ∧ yOK yX8_bestSlow 2 := ⟨rfl, by decide, by decide, by decide⟩
abbrev rm8_cheat : Room := { frames := 6, cells := 0, slots := 0, locals := 142 }
def s8_cheat_23 (n : Nat) (o0 : Nat) (x1 : Int32) (x2 : Int32) (t0 : Int32) (M : Mem) : Option Res := if t0 = 0 then (cb (s0_gainOfCheating n (link o0 0) x1 x2 M) (fun r4 M3 => some (r4, M3))) else (cb (s8_refuse o0 t0 M) (fun r6 M5 => some (r6, M5)))
set_option maxRecDepth 100000 in
set_option maxHeartbeats 4000000 in
theorem b8_cheat_23 {w : WE} {g : GT} (C : CT w g RX8 cX8_cheat rm8_cheat 4) (RT : RTi w g cX8_cheat .int) (n : Nat) (o0 : Nat) (h0 : typ o0 = 8) (x1 : Int32) (x2 : Int32) (t0 : Int32) (M : Mem) : J w g (s8_cheat_23 n o0 x1 x2 t0 M) M 23 [(0, .ref (wa w o0)), (1, .int x1), (2, .int x2)] [.int t0] := by
  rw [s8_cheat_23]
  refine J_istore_n (lv' := [(3, .int t0), (0, .ref (wa w o0)), (1, .int x1), (2, .int x2)]) C dX8_cheat_23 rfl (by decide) rfl ?_
  refine J_iload_n C dX8_cheat_24 rfl 0 rfl ?_
  refine J_if_eq (tgt := 36) C dX8_cheat_25 (by decide) (fun _ => ?_) (fun _ => ?_)
  · refine J_aload_n C dX8_cheat_36 rfl 1 rfl ?_
    refine J_getr C fk8_0 W2_37 h0 dX8_cheat_37 ?_
    refine J_iload_n C dX8_cheat_40 rfl 2 rfl ?_
    refine J_iload_n C dX8_cheat_41 rfl 3 rfl ?_
    refine J_cvi (As := [.int x1, .int x2]) C (c0_gainOfCheating (gl g) w n (link o0 0) (tl_8_0 h0) x1 x2 M) (gd_v W4_33 W4_34 W4_35 W1_2 W4_36) rfl (by decide) (hdX0_gainOfCheating) (tl_8_0 h0) (by decide) (cl_0) rfl (Nat.le_of_ble_eq_true rfl) dX8_cheat_42 rfl (fun r4 M3 => ?_)
    exact J_iret C RT rfl dX8_cheat_45
  · refine J_aload_n C dX8_cheat_28 rfl 1 rfl ?_
    refine J_iload_n C dX8_cheat_29 rfl 0 rfl ?_
    refine J_cvi (As := [.int t0]) C (c8_refuse (gl g) w o0 h0 t0 M) (gd_v W2_66 W2_68 WP_0 W1_1 W2_69) rfl (by decide) (hdX8_refuse) h0 (by decide) (cl_8) rfl (Nat.le_of_ble_eq_true rfl) dX8_cheat_30 rfl (fun r6 M5 => ?_)
    refine J_goto (tgt := 45) C dX8_cheat_33 (by decide) ?_
    exact J_iret C RT rfl dX8_cheat_45
def s8_cheat (n : Nat) (o0 : Nat) (x1 : Int32) (x2 : Int32) (M : Mem) : Option Res := cb (s2_knows (link o0 1) x1 M) (fun r2 M1 => if r2 = 0 then (s8_cheat_23 n o0 x1 x2 (1 : Int32) M1) else (cb (s8_whyNotWithin x2 (1 : Int32) (200 : Int32) M1) (fun r8 M7 => s8_cheat_23 n o0 x1 x2 r8 M7)))
set_option maxRecDepth 100000 in
set_option maxHeartbeats 4000000 in
theorem b8_cheat {w : WE} {g : GT} (C : CT w g RX8 cX8_cheat rm8_cheat 4) (RT : RTi w g cX8_cheat .int) (n : Nat) (o0 : Nat) (h0 : typ o0 = 8) (x1 : Int32) (x2 : Int32) (M : Mem) : J w g (s8_cheat n o0 x1 x2 M) M 0 [(0, .ref (wa w o0)), (1, .int x1), (2, .int x2)] [] := by
  rw [s8_cheat]
  refine J_aload_n C dX8_cheat_0 rfl 0 rfl ?_
  refine J_getr C fk8_1 W2_38 h0 dX8_cheat_1 ?_
  refine J_iload_n C dX8_cheat_4 rfl 1 rfl ?_
  refine J_cvi (As := [.int x1]) C (c2_knows (gl g) w (link o0 1) (tl_8_1 h0) x1 M) (gd_v W3_43 W3_44 W3_45 W1_3 W3_46) rfl (by decide) (hdX2_knows) (tl_8_1 h0) (by decide) (cl_2) rfl (Nat.le_of_ble_eq_true rfl) dX8_cheat_5 rfl (fun r2 M1 => ?_)
  refine J_if_eq (tgt := 22) C dX8_cheat_8 (by decide) (fun _ => ?_) (fun _ => ?_)
  · refine J_iconst C dX8_cheat_22 kci_1 ?_
    exact b8_cheat_23 C RT n o0 h0 x1 x2 (1 : Int32) M1
  · refine J_iload_n C dX8_cheat_11 rfl 2 rfl ?_
    refine J_iconst C dX8_cheat_12 kci_1 ?_
    refine J_sipush C dX8_cheat_13 kcs_200 ?_
    refine J_csi (As := [.int x2, .int (1 : Int32), .int (200 : Int32)]) (dm := 0) C (c8_whyNotWithin (gl g) w x2 (1 : Int32) (200 : Int32) M1) (gd_s W3_66 W2_203 W1_1 W2_204) rfl (by decide) (hdX8_whyNotWithin.2) rfl (Nat.le_of_ble_eq_true rfl) dX8_cheat_16 rfl (fun r8 M7 => ?_)
    refine J_goto (tgt := 23) C dX8_cheat_19 (by decide) ?_
    exact b8_cheat_23 C RT n o0 h0 x1 x2 r8 M7
theorem c8_cheat (l : Launch) (w : WE) (n : Nat) (o0 : Nat) (h0 : typ o0 = 8) (x1 : Int32) (x2 : Int32) (M : Mem) : MC l w yX8_cheat (wz yX8_cheat cX8_cheat 4 (some .int)) rm8_cheat [.ref (wa w o0), .int x1, .int x2] (s8_cheat n o0 x1 x2 M) M :=
  mc_of_J (own := RX8) rfl (by decide) rfl rfl (Nat.le_of_ble_eq_true rfl) (fun _ _ C RT => b8_cheat C RT n o0 h0 x1 x2 M)
theorem hdX8_cheat : yX8_cheat.cls = RX8 ∧ yOK yX8_cheat 2 := ⟨rfl, by decide, by decide, by decide⟩
abbrev rm8_lasts : Room := { frames := 6, cells := 0, slots := 0, locals := 135 }
def s8_lasts (n : Nat) (o0 : Nat) (x1 : Int32) (M : Mem) : Option Res := if x1 < 0 then (cb (s8_refuse o0 (2 : Int32) M) (fun r2 M1 => some (r2, M1))) else (if x1 ≤ (2 : Int32) then (cb (s2_canGoOn n (link o0 1) M) (fun r4 M3 => if r4 = 0 then (cb (s8_refuse o0 (3 : Int32) M3) (fun r6 M5 => some (r6, M5))) else (cb (s0_partyAhead n (link o0 0) x1 M3) (fun r8 M7 => some (r8, M7))))) else (cb (s8_refuse o0 (2 : Int32) M) (fun r10 M9 => some (r10, M9))))
set_option maxRecDepth 100000 in
set_option maxHeartbeats 4000000 in
theorem b8_lasts {w : WE} {g : GT} (C : CT w g RX8 cX8_lasts rm8_lasts 2) (RT : RTi w g cX8_lasts .int) (n : Nat) (o0 : Nat) (h0 : typ o0 = 8) (x1 : Int32) (M : Mem) : J w g (s8_lasts n o0 x1 M) M 0 [(0, .ref (wa w o0)), (1, .int x1)] [] := by
  rw [s8_lasts]
  refine J_iload_n C dX8_lasts_0 rfl 1 rfl ?_
  refine J_if_lt (tgt := 9) C dX8_lasts_1 (by decide) (fun _ => ?_) (fun _ => ?_)
  · refine J_aload_n C dX8_lasts_9 rfl 0 rfl ?_
    refine J_iconst C dX8_lasts_10 kci_2 ?_
    refine J_cvi (As := [.int (2 : Int32)]) C (c8_refuse (gl g) w o0 h0 (2 : Int32) M) (gd_v W2_66 W2_68 WP_0 W1_1 W2_69) rfl (by decide) (hdX8_refuse) h0 (by decide) (cl_8) rfl (Nat.le_of_ble_eq_true rfl) dX8_lasts_11 rfl (fun r2 M1 => ?_)
    exact J_iret C RT rfl dX8_lasts_14
  · refine J_iload_n C dX8_lasts_4 rfl 1 rfl ?_
    refine J_iconst C dX8_lasts_5 kci_2 ?_
    refine J_icmp_le (tgt := 15) C dX8_lasts_6 (by decide) (fun _ => ?_) (fun _ => ?_)
    · refine J_aload_n C dX8_lasts_15 rfl 0 rfl ?_
      refine J_getr C fk8_1 W2_38 h0 dX8_lasts_16 ?_
      refine J_cvi (As := []) C (c2_canGoOn (gl g) w n (link o0 1) (tl_8_1 h0) M) (gd_v W3_101 W3_102 W3_103 W1_3 W3_104) rfl (by decide) (hdX2_canGoOn) (tl_8_1 h0) (by decide) (cl_2) rfl (Nat.le_of_ble_eq_true rfl) dX8_lasts_19 rfl (fun r4 M3 => ?_)
      refine J_if_eq (tgt := 36) C dX8_lasts_22 (by decide) (fun _ => ?_) (fun _ => ?_)
      · refine J_aload_n C dX8_lasts_36 rfl 0 rfl ?_
        refine J_iconst C dX8_lasts_37 kci_3 ?_
        refine J_cvi (As := [.int (3 : Int32)]) C (c8_refuse (gl g) w o0 h0 (3 : Int32) M3) (gd_v W2_66 W2_68 WP_0 W1_1 W2_69) rfl (by decide) (hdX8_refuse) h0 (by decide) (cl_8) rfl (Nat.le_of_ble_eq_true rfl) dX8_lasts_38 rfl (fun r6 M5 => ?_)
        exact J_iret C RT rfl dX8_lasts_41
      · refine J_aload_n C dX8_lasts_25 rfl 0 rfl ?_
        refine J_getr C fk8_0 W2_37 h0 dX8_lasts_26 ?_
        refine J_iload_n C dX8_lasts_29 rfl 1 rfl ?_
        refine J_cvi (As := [.int x1]) C (c0_partyAhead (gl g) w n (link o0 0) (tl_8_0 h0) x1 M3) (gd_v W4_41 W4_42 W4_43 W1_2 W4_44) rfl (by decide) (hdX0_partyAhead) (tl_8_0 h0) (by decide) (cl_0) rfl (Nat.le_of_ble_eq_true rfl) dX8_lasts_30 rfl (fun r8 M7 => ?_)
        refine J_goto (tgt := 41) C dX8_lasts_33 (by decide) ?_
        exact J_iret C RT rfl dX8_lasts_41
    · refine J_aload_n C dX8_lasts_9 rfl 0 rfl ?_
      refine J_iconst C dX8_lasts_10 kci_2 ?_
      refine J_cvi (As := [.int (2 : Int32)]) C (c8_refuse (gl g) w o0 h0 (2 : Int32) M) (gd_v W2_66 W2_68 WP_0 W1_1 W2_69) rfl (by decide) (hdX8_refuse) h0 (by decide) (cl_8) rfl (Nat.le_of_ble_eq_true rfl) dX8_lasts_11 rfl (fun r10 M9 => ?_)
      exact J_iret C RT rfl dX8_lasts_14
theorem c8_lasts (l : Launch) (w : WE) (n : Nat) (o0 : Nat) (h0 : typ o0 = 8) (x1 : Int32) (M : Mem) : MC l w yX8_lasts (wz yX8_lasts cX8_lasts 2 (some .int)) rm8_lasts [.ref (wa w o0), .int x1] (s8_lasts n o0 x1 M) M :=
  mc_of_J (own := RX8) rfl (by decide) rfl rfl (Nat.le_of_ble_eq_true rfl) (fun _ _ C RT => b8_lasts C RT n o0 h0 x1 M)
theorem hdX8_lasts : yX8_lasts.cls = RX8 ∧ yOK yX8_lasts 1 := ⟨rfl, by decide, by decide, by decide⟩
abbrev rm8_whyNotSeeds : Room := { frames := 3, cells := 0, slots := 0, locals := 63 }
def s8_whyNotSeeds (n : Nat) (o0 : Nat) (x1 : Int32) (M : Mem) : Option Res := cb (s8_whyNotWithin x1 (1 : Int32) (20 : Int32) M) (fun r2 M1 => if r2 = 0 then (cb (s2_canGoOn n (link o0 1) M1) (fun r4 M3 => if r4 = 0 then (some ((3 : Int32), M3)) else (some (r2, M3)))) else (some (r2, M1)))
set_option maxRecDepth 100000 in
set_option maxHeartbeats 4000000 in
theorem b8_whyNotSeeds {w : WE} {g : GT} (C : CT w g RX8 cX8_whyNotSeeds rm8_whyNotSeeds 3) (RT : RTi w g cX8_whyNotSeeds .int) (n : Nat) (o0 : Nat) (h0 : typ o0 = 8) (x1 : Int32) (M : Mem) : J w g (s8_whyNotSeeds n o0 x1 M) M 0 [(0, .ref (wa w o0)), (1, .int x1)] [] := by
  rw [s8_whyNotSeeds]
  refine J_iload_n C dX8_whyNotSeeds_0 rfl 1 rfl ?_
  refine J_iconst C dX8_whyNotSeeds_1 kci_1 ?_
  refine J_bipush C dX8_whyNotSeeds_2 kcb_20 ?_
  refine J_csi (As := [.int x1, .int (1 : Int32), .int (20 : Int32)]) (dm := 0) C (c8_whyNotWithin (gl g) w x1 (1 : Int32) (20 : Int32) M) (gd_s W3_66 W2_203 W1_1 W2_204) rfl (by decide) (hdX8_whyNotWithin.2) rfl (Nat.le_of_ble_eq_true rfl) dX8_whyNotSeeds_4 rfl (fun r2 M1 => ?_)
  refine J_istore_n (lv' := [(2, .int r2), (0, .ref (wa w o0)), (1, .int x1)]) C dX8_whyNotSeeds_7 rfl (by decide) rfl ?_
  refine J_iload_n C dX8_whyNotSeeds_8 rfl 0 rfl ?_
  refine J_if_ne (tgt := 26) C dX8_whyNotSeeds_9 (by decide) (fun _ => ?_) (fun _ => ?_)
  · refine J_iload_n C dX8_whyNotSeeds_26 rfl 0 rfl ?_
    exact J_iret C RT rfl dX8_whyNotSeeds_27
  · refine J_aload_n C dX8_whyNotSeeds_12 rfl 1 rfl ?_
    refine J_getr C fk8_1 W2_38 h0 dX8_whyNotSeeds_13 ?_
    refine J_cvi (As := []) C (c2_canGoOn (gl g) w n (link o0 1) (tl_8_1 h0) M1) (gd_v W3_101 W3_102 W3_103 W1_3 W3_104) rfl (by decide) (hdX2_canGoOn) (tl_8_1 h0) (by decide) (cl_2) rfl (Nat.le_of_ble_eq_true rfl) dX8_whyNotSeeds_16 rfl (fun r4 M3 => ?_)
    refine J_if_ne (tgt := 26) C dX8_whyNotSeeds_19 (by decide) (fun _ => ?_) (fun _ => ?_)
    · refine J_iload_n C dX8_whyNotSeeds_26 rfl 0 rfl ?_
      exact J_iret C RT rfl dX8_whyNotSeeds_27
    · refine J_iconst C dX8_whyNotSeeds_22 kci_3 ?_
      refine J_goto (tgt := 27) C dX8_whyNotSeeds_23 (by decide) ?_
      exact J_iret C RT rfl dX8_whyNotSeeds_27
theorem c8_whyNotSeeds (l : Launch) (w : WE) (n : Nat) (o0 : Nat) (h0 : typ o0 = 8) (x1 : Int32) (M : Mem) : MC l w yX8_whyNotSeeds (wz yX8_whyNotSeeds cX8_whyNotSeeds 3 (some .int)) rm8_whyNotSeeds [.ref (wa w o0), .int x1] (s8_whyNotSeeds n o0 x1 M) M :=
  mc_of_J (own := RX8) rfl (by decide) rfl rfl (Nat.le_of_ble_eq_true rfl) (fun _ _ C RT => b8_whyNotSeeds C RT n o0 h0 x1 M)
theorem hdX8_whyNotSeeds : yX8_whyNotSeeds.cls = RX8 ∧ yOK yX8_whyNotSeeds 1 := ⟨rfl, by decide, by decide, by decide⟩
abbrev rm8_wins : Room := { frames := 6, cells := 0, slots := 0, locals := 139 }
def s8_wins_20 (n : Nat) (o0 : Nat) (x1 : Int32) (x2 : Int32) (x3 : Int32) (t0 : Int32) (M : Mem) : Option Res := if t0 = 0 then (cb (s0_timesWinner n (link o0 0) x1 x2 x3 M) (fun r4 M3 => some (r4, M3))) else (cb (s8_refuse o0 t0 M) (fun r6 M5 => some (r6, M5)))
set_option maxRecDepth 100000 in
set_option maxHeartbeats 4000000 in
theorem b8_wins_20 {w : WE} {g : GT} (C : CT w g RX8 cX8_wins rm8_wins 5) (RT : RTi w g cX8_wins .int) (n : Nat) (o0 : Nat) (h0 : typ o0 = 8) (x1 : Int32) (x2 : Int32) (x3 : Int32) (t0 : Int32) (M : Mem) : J w g (s8_wins_20 n o0 x1 x2 x3 t0 M) M 20 [(0, .ref (wa w o0)), (1, .int x1), (2, .int x2), (3, .int x3)] [.int t0] := by
  rw [s8_wins_20]
  refine J_istore (lv' := [(4, .int t0), (0, .ref (wa w o0)), (1, .int x1), (2, .int x2), (3, .int x3)]) C dX8_wins_20 (by decide) rfl ?_
  refine J_iload C dX8_wins_22 0 rfl ?_
  refine J_if_eq (tgt := 36) C dX8_wins_24 (by decide) (fun _ => ?_) (fun _ => ?_)
  · refine J_aload_n C dX8_wins_36 rfl 1 rfl ?_
    refine J_getr C fk8_0 W2_37 h0 dX8_wins_37 ?_
    refine J_iload_n C dX8_wins_40 rfl 2 rfl ?_
    refine J_iload_n C dX8_wins_41 rfl 3 rfl ?_
    refine J_iload_n C dX8_wins_42 rfl 4 rfl ?_
    refine J_cvi (As := [.int x1, .int x2, .int x3]) C (c0_timesWinner (gl g) w n (link o0 0) (tl_8_0 h0) x1 x2 x3 M) (gd_v W4_63 W4_64 W4_65 W1_2 W4_66) rfl (by decide) (hdX0_timesWinner) (tl_8_0 h0) (by decide) (cl_0) rfl (Nat.le_of_ble_eq_true rfl) dX8_wins_43 rfl (fun r4 M3 => ?_)
    exact J_iret C RT rfl dX8_wins_46
  · refine J_aload_n C dX8_wins_27 rfl 1 rfl ?_
    refine J_iload C dX8_wins_28 0 rfl ?_
    refine J_cvi (As := [.int t0]) C (c8_refuse (gl g) w o0 h0 t0 M) (gd_v W2_66 W2_68 WP_0 W1_1 W2_69) rfl (by decide) (hdX8_refuse) h0 (by decide) (cl_8) rfl (Nat.le_of_ble_eq_true rfl) dX8_wins_30 rfl (fun r6 M5 => ?_)
    refine J_goto (tgt := 46) C dX8_wins_33 (by decide) ?_
    exact J_iret C RT rfl dX8_wins_46
def s8_wins (n : Nat) (o0 : Nat) (x1 : Int32) (x2 : Int32) (x3 : Int32) (M : Mem) : Option Res := cb (s2_knows (link o0 1) x1 M) (fun r2 M1 => if r2 = 0 then (s8_wins_20 n o0 x1 x2 x3 (1 : Int32) M1) else (cb (s8_whyNotSeeds n o0 x2 M1) (fun r8 M7 => s8_wins_20 n o0 x1 x2 x3 r8 M7)))
set_option maxRecDepth 100000 in
set_option maxHeartbeats 4000000 in
theorem b8_wins {w : WE} {g : GT} (C : CT w g RX8 cX8_wins rm8_wins 5) (RT : RTi w g cX8_wins .int) (n : Nat) (o0 : Nat) (h0 : typ o0 = 8) (x1 : Int32) (x2 : Int32) (x3 : Int32) (M : Mem) : J w g (s8_wins n o0 x1 x2 x3 M) M 0 [(0, .ref (wa w o0)), (1, .int x1), (2, .int x2), (3, .int x3)] [] := by
  rw [s8_wins]
  refine J_aload_n C dX8_wins_0 rfl 0 rfl ?_
  refine J_getr C fk8_1 W2_38 h0 dX8_wins_1 ?_
  refine J_iload_n C dX8_wins_4 rfl 1 rfl ?_
  refine J_cvi (As := [.int x1]) C (c2_knows (gl g) w (link o0 1) (tl_8_1 h0) x1 M) (gd_v W3_43 W3_44 W3_45 W1_3 W3_46) rfl (by decide) (hdX2_knows) (tl_8_1 h0) (by decide) (cl_2) rfl (Nat.le_of_ble_eq_true rfl) dX8_wins_5 rfl (fun r2 M1 => ?_)
  refine J_if_eq (tgt := 19) C dX8_wins_8 (by decide) (fun _ => ?_) (fun _ => ?_)
  · refine J_iconst C dX8_wins_19 kci_1 ?_
    exact b8_wins_20 C RT n o0 h0 x1 x2 x3 (1 : Int32) M1
  · refine J_aload_n C dX8_wins_11 rfl 0 rfl ?_
    refine J_iload_n C dX8_wins_12 rfl 2 rfl ?_
    refine J_cvi (As := [.int x2]) C (c8_whyNotSeeds (gl g) w n o0 h0 x2 M1) (gd_v W4_59 W4_61 WP_23 W1_1 W4_62) rfl (by decide) (hdX8_whyNotSeeds) h0 (by decide) (cl_8) rfl (Nat.le_of_ble_eq_true rfl) dX8_wins_13 rfl (fun r8 M7 => ?_)
    refine J_goto (tgt := 20) C dX8_wins_16 (by decide) ?_
    exact b8_wins_20 C RT n o0 h0 x1 x2 x3 r8 M7
theorem c8_wins (l : Launch) (w : WE) (n : Nat) (o0 : Nat) (h0 : typ o0 = 8) (x1 : Int32) (x2 : Int32) (x3 : Int32) (M : Mem) : MC l w yX8_wins (wz yX8_wins cX8_wins 5 (some .int)) rm8_wins [.ref (wa w o0), .int x1, .int x2, .int x3] (s8_wins n o0 x1 x2 x3 M) M :=
  mc_of_J (own := RX8) rfl (by decide) rfl rfl (Nat.le_of_ble_eq_true rfl) (fun _ _ C RT => b8_wins C RT n o0 h0 x1 x2 x3 M)
theorem hdX8_wins : yX8_wins.cls = RX8 ∧ yOK yX8_wins 3 := ⟨rfl, by decide, by decide, by decide⟩
abbrev rm8_fairest : Room := { frames := 6, cells := 0, slots := 0, locals := 143 }
def s8_fairest (n : Nat) (o0 : Nat) (x1 : Int32) (x2 : Int32) (M : Mem) : Option Res := cb (s8_whyNotSeeds n o0 x1 M) (fun r2 M1 => if r2 = 0 then (cb (s0_formOfMostWinners n (link o0 0) x1 x2 M1) (fun r4 M3 => some (r4, M3))) else (cb (s8_refuse o0 r2 M1) (fun r6 M5 => some (r6, M5))))
set_option maxRecDepth 100000 in
set_option maxHeartbeats 4000000 in
theorem b8_fairest {w : WE} {g : GT} (C : CT w g RX8 cX8_fairest rm8_fairest 4) (RT : RTi w g cX8_fairest .int) (n : Nat) (o0 : Nat) (h0 : typ o0 = 8) (x1 : Int32) (x2 : Int32) (M : Mem) : J w g (s8_fairest n o0 x1 x2 M) M 0 [(0, .ref (wa w o0)), (1, .int x1), (2, .int x2)] [] := by
  rw [s8_fairest]
  refine J_aload_n C dX8_fairest_0 rfl 0 rfl ?_
  refine J_iload_n C dX8_fairest_1 rfl 1 rfl ?_
  refine J_cvi (As := [.int x1]) C (c8_whyNotSeeds (gl g) w n o0 h0 x1 M) (gd_v W4_59 W4_61 WP_23 W1_1 W4_62) rfl (by decide) (hdX8_whyNotSeeds) h0 (by decide) (cl_8) rfl (Nat.le_of_ble_eq_true rfl) dX8_fairest_2 rfl (fun r2 M1 => ?_)
  refine J_istore_n (lv' := [(3, .int r2), (0, .ref (wa w o0)), (1, .int x1), (2, .int x2)]) C dX8_fairest_5 rfl (by decide) rfl ?_
  refine J_iload_n C dX8_fairest_6 rfl 0 rfl ?_
  refine J_if_eq (tgt := 18) C dX8_fairest_7 (by decide) (fun _ => ?_) (fun _ => ?_)
  · refine J_aload_n C dX8_fairest_18 rfl 1 rfl ?_
    refine J_getr C fk8_0 W2_37 h0 dX8_fairest_19 ?_
    refine J_iload_n C dX8_fairest_22 rfl 2 rfl ?_
    refine J_iload_n C dX8_fairest_23 rfl 3 rfl ?_
    refine J_cvi (As := [.int x1, .int x2]) C (c0_formOfMostWinners (gl g) w n (link o0 0) (tl_8_0 h0) x1 x2 M1) (gd_v W4_71 W4_72 W4_73 W1_2 W4_74) rfl (by decide) (hdX0_formOfMostWinners) (tl_8_0 h0) (by decide) (cl_0) rfl (Nat.le_of_ble_eq_true rfl) dX8_fairest_24 rfl (fun r4 M3 => ?_)
    exact J_iret C RT rfl dX8_fairest_27
  · refine J_aload_n C dX8_fairest_10 rfl 1 rfl ?_
    refine J_iload_n C dX8_fairest_11 rfl 0 rfl ?_
    refine J_cvi (As := [.int r2]) C (c8_refuse (gl g) w o0 h0 r2 M1) (gd_v W2_66 W2_68 WP_0 W1_1 W2_69) rfl (by decide) (hdX8_refuse) h0 (by decide) (cl_8) rfl (Nat.le_of_ble_eq_true rfl) dX8_fairest_12 rfl (fun r6 M5 => ?_)
    refine J_goto (tgt := 27) C dX8_fairest_15 (by decide) ?_
    exact J_iret C RT rfl dX8_fairest_27
theorem c8_fairest (l : Launch) (w : WE) (n : Nat) (o0 : Nat) (h0 : typ o0 = 8) (x1 : Int32) (x2 : Int32) (M : Mem) : MC l w yX8_fairest (wz yX8_fairest cX8_fairest 4 (some .int)) rm8_fairest [.ref (wa w o0), .int x1, .int x2] (s8_fairest n o0 x1 x2 M) M :=
  mc_of_J (own := RX8) rfl (by decide) rfl rfl (Nat.le_of_ble_eq_true rfl) (fun _ _ C RT => b8_fairest C RT n o0 h0 x1 x2 M)
theorem hdX8_fairest : yX8_fairest.cls = RX8 ∧ yOK yX8_fairest 2 := ⟨rfl, by decide, by decide, by decide⟩
abbrev rm8_shortest : Room := { frames := 6, cells := 0, slots := 0, locals := 137 }
def s8_shortest (n : Nat) (o0 : Nat) (M : Mem) : Option Res := cb (s2_canGoOn n (link o0 1) M) (fun r2 M1 => if r2 = 0 then (cb (s8_refuse o0 (3 : Int32) M1) (fun r4 M3 => some (r4, M3))) else (cb (s0_kindOfFewestTenths n (link o0 0) M1) (fun r6 M5 => some (r6, M5))))
set_option maxRecDepth 100000 in
set_option maxHeartbeats 4000000 in
theorem b8_shortest {w : WE} {g : GT} (C : CT w g RX8 cX8_shortest rm8_shortest 1) (RT : RTi w g cX8_shortest .int) (n : Nat) (o0 : Nat) (h0 : typ o0 = 8) (M : Mem) : J w g (s8_shortest n o0 M) M 0 [(0, .ref (wa w o0))] [] := by
  rw [s8_shortest]
  refine J_aload_n C dX8_shortest_0 rfl 0 rfl ?_
  refine J_getr C fk8_1 W2_38 h0 dX8_shortest_1 ?_
  refine J_cvi (As := []) C (c2_canGoOn (gl g) w n (link o0 1) (tl_8_1 h0) M) (gd_v W3_101 W3_102 W3_103 W1_3 W3_104) rfl (by decide) (hdX2_canGoOn) (tl_8_1 h0) (by decide) (cl_2) rfl (Nat.le_of_ble_eq_true rfl) dX8_shortest_4 rfl (fun r2 M1 => ?_)
  refine J_if_eq (tgt := 20) C dX8_shortest_7 (by decide) (fun _ => ?_) (fun _ => ?_)
  · refine J_aload_n C dX8_shortest_20 rfl 0 rfl ?_
    refine J_iconst C dX8_shortest_21 kci_3 ?_
    refine J_cvi (As := [.int (3 : Int32)]) C (c8_refuse (gl g) w o0 h0 (3 : Int32) M1) (gd_v W2_66 W2_68 WP_0 W1_1 W2_69) rfl (by decide) (hdX8_refuse) h0 (by decide) (cl_8) rfl (Nat.le_of_ble_eq_true rfl) dX8_shortest_22 rfl (fun r4 M3 => ?_)
    exact J_iret C RT rfl dX8_shortest_25
  · refine J_aload_n C dX8_shortest_10 rfl 0 rfl ?_
    refine J_getr C fk8_0 W2_37 h0 dX8_shortest_11 ?_
    refine J_cvi (As := []) C (c0_kindOfFewestTenths (gl g) w n (link o0 0) (tl_8_0 h0) M1) (gd_v W4_88 W4_89 W4_90 W1_2 W4_91) rfl (by decide) (hdX0_kindOfFewestTenths) (tl_8_0 h0) (by decide) (cl_0) rfl (Nat.le_of_ble_eq_true rfl) dX8_shortest_14 rfl (fun r6 M5 => ?_)
    refine J_goto (tgt := 25) C dX8_shortest_17 (by decide) ?_
    exact J_iret C RT rfl dX8_shortest_25
theorem c8_shortest (l : Launch) (w : WE) (n : Nat) (o0 : Nat) (h0 : typ o0 = 8) (M : Mem) : MC l w yX8_shortest (wz yX8_shortest cX8_shortest 1 (some .int)) rm8_shortest [.ref (wa w o0)] (s8_shortest n o0 M) M :=
  mc_of_J (own := RX8) rfl (by decide) rfl rfl (Nat.le_of_ble_eq_true rfl) (fun _ _ C RT => b8_shortest C RT n o0 h0 M)
theorem hdX8_shortest : yX8_shortest.cls = RX8 ∧ yOK yX8_shortest 0 := ⟨rfl, by decide, by decide, by decide⟩
abbrev rm8_row : Room := { frames := 2, cells := 0, slots := 0, locals := 41 }
def s8_row_26 (n : Nat) (o0 : Nat) (x1 : Int32) (x2 : Int32) (M : Mem) : Option Res := if x2 = 0 then (cb (s1_append (link o0 3) x1 M) (fun r4 M3 => some (r4, M3))) else (cb (s8_refuse o0 x2 M) (fun r6 M5 => some (r6, M5)))
set_option maxRecDepth 100000 in
set_option maxHeartbeats 4000000 in
theorem b8_row_26 {w : WE} {g : GT} (C : CT w g RX8 cX8_row rm8_row 3) (RT : RTi w g cX8_row .int) (n : Nat) (o0 : Nat) (h0 : typ o0 = 8) (x1 : Int32) (x2 : Int32) (M : Mem) : J w g (s8_row_26 n o0 x1 x2 M) M 26 [(0, .ref (wa w o0)), (1, .int x1), (2, .int x2)] [] := by
  rw [s8_row_26]
  refine J_iload_n C dX8_row_26 rfl 2 rfl ?_
  refine J_if_eq (tgt := 38) C dX8_row_27 (by decide) (fun _ => ?_) (fun _ => ?_)
  · refine J_aload_n C dX8_row_38 rfl 0 rfl ?_
    refine J_getr C fk8_3 W2_40 h0 dX8_row_39 ?_
    refine J_iload_n C dX8_row_42 rfl 1 rfl ?_
    refine J_cvi (As := [.int x1]) C (c1_append (gl g) w (link o0 3) (tl_8_3 h0) x1 M) (gd_v W4_101 W4_102 W4_103 W1_8 W4_104) rfl (by decide) (hdX1_append) (tl_8_3 h0) (by decide) (cl_1) rfl (Nat.le_of_ble_eq_true rfl) dX8_row_43 rfl (fun r4 M3 => ?_)
    exact J_iret C RT rfl dX8_row_46
  · refine J_aload_n C dX8_row_30 rfl 0 rfl ?_
    refine J_iload_n C dX8_row_31 rfl 2 rfl ?_
    refine J_cvi (As := [.int x2]) C (c8_refuse (gl g) w o0 h0 x2 M) (gd_v W2_66 W2_68 WP_0 W1_1 W2_69) rfl (by decide) (hdX8_refuse) h0 (by decide) (cl_8) rfl (Nat.le_of_ble_eq_true rfl) dX8_row_32 rfl (fun r6 M5 => ?_)
    refine J_goto (tgt := 46) C dX8_row_35 (by decide) ?_
    exact J_iret C RT rfl dX8_row_46
def s8_row (n : Nat) (o0 : Nat) (x1 : Int32) (M : Mem) : Option Res := cb (s8_whyNotWithin x1 (1 : Int32) (300 : Int32) M) (fun r2 M1 => if r2 = 0 then (cb (s1_isFull (link o0 3) M1) (fun r8 M7 => if r8 = 0 then (s8_row_26 n o0 x1 r2 M7) else (s8_row_26 n o0 x1 (6 : Int32) M7))) else (s8_row_26 n o0 x1 r2 M1))
set_option maxRecDepth 100000 in
set_option maxHeartbeats 4000000 in
theorem b8_row {w : WE} {g : GT} (C : CT w g RX8 cX8_row rm8_row 3) (RT : RTi w g cX8_row .int) (n : Nat) (o0 : Nat) (h0 : typ o0 = 8) (x1 : Int32) (M : Mem) : J w g (s8_row n o0 x1 M) M 0 [(0, .ref (wa w o0)), (1, .int x1)] [] := by
  rw [s8_row]
  refine J_iload_n C dX8_row_0 rfl 1 rfl ?_
  refine J_iconst C dX8_row_1 kci_1 ?_
  refine J_sipush C dX8_row_2 kcs_300 ?_
  refine J_csi (As := [.int x1, .int (1 : Int32), .int (300 : Int32)]) (dm := 0) C (c8_whyNotWithin (gl g) w x1 (1 : Int32) (300 : Int32) M) (gd_s W3_66 W2_203 W1_1 W2_204) rfl (by decide) (hdX8_whyNotWithin.2) rfl (Nat.le_of_ble_eq_true rfl) dX8_row_5 rfl (fun r2 M1 => ?_)
  refine J_istore_n (lv' := [(2, .int r2), (0, .ref (wa w o0)), (1, .int x1)]) C dX8_row_8 rfl (by decide) rfl ?_
  refine J_iload_n C dX8_row_9 rfl 0 rfl ?_
  refine J_if_ne (tgt := 26) C dX8_row_10 (by decide) (fun _ => ?_) (fun _ => ?_)
  · refine J_lv [1, 2, 0] rfl ?_
    exact b8_row_26 C RT n o0 h0 x1 r2 M1
  · refine J_aload_n C dX8_row_13 rfl 1 rfl ?_
    refine J_getr C fk8_3 W2_40 h0 dX8_row_14 ?_
    refine J_cvi (As := []) C (c1_isFull (gl g) w (link o0 3) (tl_8_3 h0) M1) (gd_v W4_97 W4_98 W4_99 W1_8 W4_100) rfl (by decide) (hdX1_isFull) (tl_8_3 h0) (by decide) (cl_1) rfl (Nat.le_of_ble_eq_true rfl) dX8_row_17 rfl (fun r8 M7 => ?_)
    refine J_if_eq (tgt := 26) C dX8_row_20 (by decide) (fun _ => ?_) (fun _ => ?_)
    · refine J_lv [1, 2, 0] rfl ?_
      exact b8_row_26 C RT n o0 h0 x1 r2 M7
    · refine J_bipush C dX8_row_23 kcb_6 ?_
      refine J_istore_n (lv' := [(2, .int (6 : Int32)), (0, .ref (wa w o0)), (1, .int x1)]) C dX8_row_25 rfl (by decide) rfl ?_
      refine J_lv [1, 2, 0] rfl ?_
      exact b8_row_26 C RT n o0 h0 x1 (6 : Int32) M7
theorem c8_row (l : Launch) (w : WE) (n : Nat) (o0 : Nat) (h0 : typ o0 = 8) (x1 : Int32) (M : Mem) : MC l w yX8_row (wz yX8_row cX8_row 3 (some .int)) rm8_row [.ref (wa w o0), .int x1] (s8_row n o0 x1 M) M :=
  mc_of_J (own := RX8) rfl (by decide) rfl rfl (Nat.le_of_ble_eq_true rfl) (fun _ _ C RT => b8_row C RT n o0 h0 x1 M)
theorem hdX8_row : yX8_row.cls = RX8 ∧ yOK yX8_row 1 := ⟨rfl, by decide, by decide, by decide⟩
abbrev rm8_couldAllBeBy : Room := { frames := 1, cells := 0, slots := 0, locals := 22 }
def s8_couldAllBeBy_4 (n : Nat) (o0 : Nat) (x1 : Int32) : Nat → Int32 → Int32 → Mem → Option Res
  | 0, _, _, _ => none
  | f + 1, x2, x3, M => if (M (link o0 3) 1) ≤ x3 then (if bz x2 then some (x2, M) else none) else (if x2 = 0 then (ilet (x3 + 1) (fun v1 => s8_couldAllBeBy_4 n o0 x1 f (0 : Int32) v1 M)) else (cb (s1_at (link o0 3) x3 M) (fun r3 M2 => cb (s3_couldStop (link (link o0 1) 1) x1 r3 M2) (fun r5 M4 => if r5 = 0 then (ilet (x3 + 1) (fun v6 => s8_couldAllBeBy_4 n o0 x1 f (0 : Int32) v6 M4)) else (ilet (x3 + 1) (fun v7 => s8_couldAllBeBy_4 n o0 x1 f (1 : Int32) v7 M4))))))
set_option maxRecDepth 100000 in
set_option maxHeartbeats 4000000 in
theorem b8_couldAllBeBy_4 {w : WE} {g : GT} (C : CT w g RX8 cX8_couldAllBeBy rm8_couldAllBeBy 4) (RT : RTi w g cX8_couldAllBeBy .boolean) (n : Nat) (o0 : Nat) (h0 : typ o0 = 8) (x1 : Int32) : ∀ (f : Nat) (x2 : Int32) (x3 : Int32) (M : Mem), J w g (s8_couldAllBeBy_4 n o0 x1 f x2 x3 M) M 4 [(0, .ref (wa w o0)), (1, .int x1), (2, .int x2), (3, .int x3)] [] := by
  intro f
  induction f with
  | zero =>
    intro x2 x3 M
    rw [s8_couldAllBeBy_4]
    exact J_none
  | succ f ih =>
    intro x2 x3 M
    rw [s8_couldAllBeBy_4]
    refine J_iload_n C dX8_couldAllBeBy_4 rfl 3 rfl ?_
    refine J_aload_n C dX8_couldAllBeBy_5 rfl 0 rfl ?_
    refine J_getr C fk8_3 W2_40 h0 dX8_couldAllBeBy_6 ?_
    refine J_geti C fk1_1 W2_3 (tl_8_3 h0) dX8_couldAllBeBy_9 ?_
    refine J_icmp_ge (tgt := 53) C dX8_couldAllBeBy_12 (by decide) (fun _ => ?_) (fun _ => ?_)
    · refine J_iload_n C dX8_couldAllBeBy_53 rfl 2 rfl ?_
      exact J_zret C RT dX8_couldAllBeBy_54
    · refine J_iload_n C dX8_couldAllBeBy_15 rfl 2 rfl ?_
      refine J_if_eq (tgt := 45) C dX8_couldAllBeBy_16 (by decide) (fun _ => ?_) (fun _ => ?_)
      · refine J_iconst C dX8_couldAllBeBy_45 kci_0 ?_
        refine J_istore_n (lv' := [(2, .int (0 : Int32)), (0, .ref (wa w o0)), (1, .int x1), (3, .int x3)]) C dX8_couldAllBeBy_46 rfl (by decide) rfl ?_
        refine J_iinc (lw := fun v1 => [(3, .int v1), (2, .int (0 : Int32)), (0, .ref (wa w o0)), (1, .int x1)]) (X := x3 + 1) C dX8_couldAllBeBy_47 (q := 3) rfl (by rw [kci_1]) (by decide) (fun _ => rfl) (fun v1 => ?_)
        refine J_goto (tgt := 4) C dX8_couldAllBeBy_50 (by decide) ?_
        refine J_lv [2, 3, 1, 0] rfl ?_
        exact ih (0 : Int32) v1 M
      · refine J_aload_n C dX8_couldAllBeBy_19 rfl 0 rfl ?_
        refine J_getr C fk8_1 W2_38 h0 dX8_couldAllBeBy_20 ?_
        refine J_getr C fk2_1 W1_168 (tl_8_1 h0) dX8_couldAllBeBy_23 ?_
        refine J_iload_n C dX8_couldAllBeBy_26 rfl 1 rfl ?_
        refine J_aload_n C dX8_couldAllBeBy_27 rfl 0 rfl ?_
        refine J_getr C fk8_3 W2_40 h0 dX8_couldAllBeBy_28 ?_
        refine J_iload_n C dX8_couldAllBeBy_31 rfl 3 rfl ?_
        refine J_cvi (As := [.int x3]) C (c1_at (gl g) w (link o0 3) (tl_8_3 h0) x3 M) (gd_v W4_114 W4_115 W4_116 W1_8 W4_117) rfl (by decide) (hdX1_at) (tl_8_3 h0) (by decide) (cl_1) rfl (Nat.le_of_ble_eq_true rfl) dX8_couldAllBeBy_32 rfl (fun r3 M2 => ?_)
        refine J_cvi (As := [.int x1, .int r3]) C (c3_couldStop (gl g) w (link (link o0 1) 1) (tl_2_1 (tl_8_1 h0)) x1 r3 M2) (gd_v W4_118 W4_119 W4_120 W1_5 W4_121) rfl (by decide) (hdX3_couldStop) (tl_2_1 (tl_8_1 h0)) (by decide) (cl_3) rfl (Nat.le_of_ble_eq_true rfl) dX8_couldAllBeBy_35 rfl (fun r5 M4 => ?_)
        refine J_if_eq (tgt := 45) C dX8_couldAllBeBy_38 (by decide) (fun _ => ?_) (fun _ => ?_)
        · refine J_iconst C dX8_couldAllBeBy_45 kci_0 ?_
          refine J_istore_n (lv' := [(2, .int (0 : Int32)), (0, .ref (wa w o0)), (1, .int x1), (3, .int x3)]) C dX8_couldAllBeBy_46 rfl (by decide) rfl ?_
          refine J_iinc (lw := fun v6 => [(3, .int v6), (2, .int (0 : Int32)), (0, .ref (wa w o0)), (1, .int x1)]) (X := x3 + 1) C dX8_couldAllBeBy_47 (q := 3) rfl (by rw [kci_1]) (by decide) (fun _ => rfl) (fun v6 => ?_)
          refine J_goto (tgt := 4) C dX8_couldAllBeBy_50 (by decide) ?_
          refine J_lv [2, 3, 1, 0] rfl ?_
          exact ih (0 : Int32) v6 M4
        · refine J_iconst C dX8_couldAllBeBy_41 kci_1 ?_
          refine J_goto (tgt := 46) C dX8_couldAllBeBy_42 (by decide) ?_
          refine J_istore_n (lv' := [(2, .int (1 : Int32)), (0, .ref (wa w o0)), (1, .int x1), (3, .int x3)]) C dX8_couldAllBeBy_46 rfl (by decide) rfl ?_
          refine J_iinc (lw := fun v7 => [(3, .int v7), (2, .int (1 : Int32)), (0, .ref (wa w o0)), (1, .int x1)]) (X := x3 + 1) C dX8_couldAllBeBy_47 (q := 3) rfl (by rw [kci_1]) (by decide) (fun _ => rfl) (fun v7 => ?_)
          refine J_goto (tgt := 4) C dX8_couldAllBeBy_50 (by decide) ?_
          refine J_lv [2, 3, 1, 0] rfl ?_
          exact ih (1 : Int32) v7 M4
def s8_couldAllBeBy (n : Nat) (o0 : Nat) (x1 : Int32) (M : Mem) : Option Res := s8_couldAllBeBy_4 n o0 x1 n (1 : Int32) (0 : Int32) M
set_option maxRecDepth 100000 in
set_option maxHeartbeats 4000000 in
theorem b8_couldAllBeBy {w : WE} {g : GT} (C : CT w g RX8 cX8_couldAllBeBy rm8_couldAllBeBy 4) (RT : RTi w g cX8_couldAllBeBy .boolean) (n : Nat) (o0 : Nat) (h0 : typ o0 = 8) (x1 : Int32) (M : Mem) : J w g (s8_couldAllBeBy n o0 x1 M) M 0 [(0, .ref (wa w o0)), (1, .int x1)] [] := by
  rw [s8_couldAllBeBy]
  refine J_iconst C dX8_couldAllBeBy_0 kci_1 ?_
  refine J_istore_n (lv' := [(2, .int (1 : Int32)), (0, .ref (wa w o0)), (1, .int x1)]) C dX8_couldAllBeBy_1 rfl (by decide) rfl ?_
  refine J_iconst C dX8_couldAllBeBy_2 kci_0 ?_
  refine J_istore_n (lv' := [(3, .int (0 : Int32)), (2, .int (1 : Int32)), (0, .ref (wa w o0)), (1, .int x1)]) C dX8_couldAllBeBy_3 rfl (by decide) rfl ?_
  refine J_lv [2, 3, 1, 0] rfl ?_
  exact b8_couldAllBeBy_4 C RT n o0 h0 x1 n (1 : Int32) (0 : Int32) M
theorem c8_couldAllBeBy (l : Launch) (w : WE) (n : Nat) (o0 : Nat) (h0 : typ o0 = 8) (x1 : Int32) (M : Mem) : MC l w yX8_couldAllBeBy (wz yX8_couldAllBeBy cX8_couldAllBeBy 4 (some .boolean)) rm8_couldAllBeBy [.ref (wa w o0), .int x1] (s8_couldAllBeBy n o0 x1 M) M :=
  mc_of_J (own := RX8) rfl (by decide) rfl rfl (Nat.le_of_ble_eq_true rfl) (fun _ _ C RT => b8_couldAllBeBy C RT n o0 h0 x1 M)
theorem hdX8_couldAllBeBy : yX8_couldAllBeBy.cls = RX8 ∧ yOK yX8_couldAllBeBy 1 := ⟨rfl, by decide, by decide, by decide⟩
abbrev rm8_could : Room := { frames := 2, cells := 0, slots := 0, locals := 45 }
def s8_could_4 (n : Nat) (o0 : Nat) : Nat → Int32 → Int32 → Mem → Option Res
  | 0, _, _, _ => none
  | f + 1, x1, x2, M => if (5 : Int32) ≤ x2 then (some (x1, M)) else (cb (s8_couldAllBeBy n o0 x2 M) (fun r2 M1 => if r2 = 0 then (ilet (x2 + 1) (fun v3 => s8_could_4 n o0 f x1 v3 M1)) else (ilet (x1 ||| ((1 : Int32) <<< (x2 &&& 31))) (fun v4 => ilet (x2 + 1) (fun v5 => s8_could_4 n o0 f v4 v5 M1)))))
set_option maxRecDepth 100000 in
set_option maxHeartbeats 4000000 in
theorem b8_could_4 {w : WE} {g : GT} (C : CT w g RX8 cX8_could rm8_could 3) (RT : RTi w g cX8_could .int) (n : Nat) (o0 : Nat) (h0 : typ o0 = 8) : ∀ (f : Nat) (x1 : Int32) (x2 : Int32) (M : Mem), J w g (s8_could_4 n o0 f x1 x2 M) M 4 [(0, .ref (wa w o0)), (1, .int x1), (2, .int x2)] [] := by
  intro f
  induction f with
  | zero =>
    intro x1 x2 M
    rw [s8_could_4]
    exact J_none
  | succ f ih =>
    intro x1 x2 M
    rw [s8_could_4]
    refine J_iload_n C dX8_could_4 rfl 2 rfl ?_
    refine J_iconst C dX8_could_5 kci_5 ?_
    refine J_icmp_ge (tgt := 29) C dX8_could_6 (by decide) (fun _ => ?_) (fun _ => ?_)
    · refine J_iload_n C dX8_could_29 rfl 1 rfl ?_
      exact J_iret C RT rfl dX8_could_30
    · refine J_aload_n C dX8_could_9 rfl 0 rfl ?_
      refine J_iload_n C dX8_could_10 rfl 2 rfl ?_
      refine J_cvi (As := [.int x2]) C (c8_couldAllBeBy (gl g) w n o0 h0 x2 M) (gd_v W4_110 W4_112 WP_24 W1_1 W4_113) rfl (by decide) (hdX8_couldAllBeBy) h0 (by decide) (cl_8) rfl (Nat.le_of_ble_eq_true rfl) dX8_could_11 rfl (fun r2 M1 => ?_)
      refine J_if_eq (tgt := 23) C dX8_could_14 (by decide) (fun _ => ?_) (fun _ => ?_)
      · refine J_iinc (lw := fun v3 => [(2, .int v3), (0, .ref (wa w o0)), (1, .int x1)]) (X := x2 + 1) C dX8_could_23 (q := 2) rfl (by rw [kci_1]) (by decide) (fun _ => rfl) (fun v3 => ?_)
        refine J_goto (tgt := 4) C dX8_could_26 (by decide) ?_
        refine J_lv [1, 2, 0] rfl ?_
        exact ih x1 v3 M1
      · refine J_iload_n C dX8_could_17 rfl 1 rfl ?_
        refine J_iconst C dX8_could_18 kci_1 ?_
        refine J_iload_n C dX8_could_19 rfl 2 rfl ?_
        refine J_ishl C dX8_could_20 ?_
        refine J_ior C dX8_could_21 ?_
        refine J_ilet (fun v4 => ?_)
        refine J_istore_n (lv' := [(1, .int v4), (0, .ref (wa w o0)), (2, .int x2)]) C dX8_could_22 rfl (by decide) rfl ?_
        refine J_iinc (lw := fun v5 => [(2, .int v5), (1, .int v4), (0, .ref (wa w o0))]) (X := x2 + 1) C dX8_could_23 (q := 2) rfl (by rw [kci_1]) (by decide) (fun _ => rfl) (fun v5 => ?_)
        refine J_goto (tgt := 4) C dX8_could_26 (by decide) ?_
        refine J_lv [2, 1, 0] rfl ?_
        exact ih v4 v5 M1
def s8_could (n : Nat) (o0 : Nat) (M : Mem) : Option Res := s8_could_4 n o0 n (0 : Int32) (0 : Int32) M
set_option maxRecDepth 100000 in
set_option maxHeartbeats 4000000 in
theorem b8_could {w : WE} {g : GT} (C : CT w g RX8 cX8_could rm8_could 3) (RT : RTi w g cX8_could .int) (n : Nat) (o0 : Nat) (h0 : typ o0 = 8) (M : Mem) : J w g (s8_could n o0 M) M 0 [(0, .ref (wa w o0))] [] := by
  rw [s8_could]
  refine J_iconst C dX8_could_0 kci_0 ?_
  refine J_istore_n (lv' := [(1, .int (0 : Int32)), (0, .ref (wa w o0))]) C dX8_could_1 rfl (by decide) rfl ?_
  refine J_iconst C dX8_could_2 kci_0 ?_
  refine J_istore_n (lv' := [(2, .int (0 : Int32)), (1, .int (0 : Int32)), (0, .ref (wa w o0))]) C dX8_could_3 rfl (by decide) rfl ?_
  refine J_lv [2, 1, 0] rfl ?_
  exact b8_could_4 C RT n o0 h0 n (0 : Int32) (0 : Int32) M
theorem c8_could (l : Launch) (w : WE) (n : Nat) (o0 : Nat) (h0 : typ o0 = 8) (M : Mem) : MC l w yX8_could (wz yX8_could cX8_could 3 (some .int)) rm8_could [.ref (wa w o0)] (s8_could n o0 M) M :=
  mc_of_J (own := RX8) rfl (by decide) rfl rfl (Nat.le_of_ble_eq_true rfl) (fun _ _ C RT => b8_could C RT n o0 h0 M)
theorem hdX8_could : yX8_could.cls = RX8 ∧ yOK yX8_could 0 := ⟨rfl, by decide, by decide, by decide⟩
abbrev rm8_next : Room := { frames := 1, cells := 0, slots := 0, locals := 23 }
def s8_next_25 (n : Nat) (o0 : Nat) (x1 : Int32) (x2 : Int32) (M : Mem) : Option Res := if x2 = 0 then (cb (s1_hundredthsUpTo n (link o0 3) x1 M) (fun r4 M3 => mlet (mset M3 (link o0 3) 1 (0 : Int32)) (fun M5 => some (r4, M5)))) else (cb (s8_refuse o0 x2 M) (fun r7 M6 => some (r7, M6)))
set_option maxRecDepth 100000 in
set_option maxHeartbeats 4000000 in
theorem b8_next_25 {w : WE} {g : GT} (C : CT w g RX8 cX8_next rm8_next 4) (RT : RTi w g cX8_next .int) (n : Nat) (o0 : Nat) (h0 : typ o0 = 8) (x1 : Int32) (x2 : Int32) (M : Mem) : J w g (s8_next_25 n o0 x1 x2 M) M 25 [(0, .ref (wa w o0)), (1, .int x1), (2, .int x2)] [] := by
  rw [s8_next_25]
  refine J_iload_n C dX8_next_25 rfl 2 rfl ?_
  refine J_if_eq (tgt := 35) C dX8_next_26 (by decide) (fun _ => ?_) (fun _ => ?_)
  · refine J_aload_n C dX8_next_35 rfl 0 rfl ?_
    refine J_getr C fk8_3 W2_40 h0 dX8_next_36 ?_
    refine J_iload_n C dX8_next_39 rfl 1 rfl ?_
    refine J_cvi (As := [.int x1]) C (c1_hundredthsUpTo (gl g) w n (link o0 3) (tl_8_3 h0) x1 M) (gd_v W4_126 W4_127 W4_128 W1_8 W4_129) rfl (by decide) (hdX1_hundredthsUpTo) (tl_8_3 h0) (by decide) (cl_1) rfl (Nat.le_of_ble_eq_true rfl) dX8_next_40 rfl (fun r4 M3 => ?_)
    refine J_istore_n (lv' := [(3, .int r4), (0, .ref (wa w o0)), (1, .int x1), (2, .int x2)]) C dX8_next_43 rfl (by decide) rfl ?_
    refine J_aload_n C dX8_next_44 rfl 1 rfl ?_
    refine J_getr C fk8_3 W2_40 h0 dX8_next_45 ?_
    refine J_iconst C dX8_next_48 kci_0 ?_
    refine J_puti C fk1_1 W2_3 fp1_1 (tl_8_3 h0) dX8_next_49 ?_
    refine J_mlet (fun M5 => ?_)
    refine J_iload_n C dX8_next_52 rfl 0 rfl ?_
    exact J_iret C RT rfl dX8_next_53
  · refine J_aload_n C dX8_next_29 rfl 0 rfl ?_
    refine J_iload_n C dX8_next_30 rfl 2 rfl ?_
    refine J_cvi (As := [.int x2]) C (c8_refuse (gl g) w o0 h0 x2 M) (gd_v W2_66 W2_68 WP_0 W1_1 W2_69) rfl (by decide) (hdX8_refuse) h0 (by decide) (cl_8) rfl (Nat.le_of_ble_eq_true rfl) dX8_next_31 rfl (fun r7 M6 => ?_)
    exact J_iret C RT rfl dX8_next_34
def s8_next (n : Nat) (o0 : Nat) (x1 : Int32) (M : Mem) : Option Res := cb (s8_whyNotWithin x1 (1 : Int32) (300 : Int32) M) (fun r2 M1 => if r2 = 0 then (if (M1 (link o0 3) 1) = 0 then (s8_next_25 n o0 x1 (3 : Int32) M1) else (s8_next_25 n o0 x1 r2 M1)) else (s8_next_25 n o0 x1 r2 M1))
set_option maxRecDepth 100000 in
set_option maxHeartbeats 4000000 in
theorem b8_next {w : WE} {g : GT} (C : CT w g RX8 cX8_next rm8_next 4) (RT : RTi w g cX8_next .int) (n : Nat) (o0 : Nat) (h0 : typ o0 = 8) (x1 : Int32) (M : Mem) : J w g (s8_next n o0 x1 M) M 0 [(0, .ref (wa w o0)), (1, .int x1)] [] := by
  rw [s8_next]
  refine J_iload_n C dX8_next_0 rfl 1 rfl ?_
  refine J_iconst C dX8_next_1 kci_1 ?_
  refine J_sipush C dX8_next_2 kcs_300 ?_
  refine J_csi (As := [.int x1, .int (1 : Int32), .int (300 : Int32)]) (dm := 0) C (c8_whyNotWithin (gl g) w x1 (1 : Int32) (300 : Int32) M) (gd_s W3_66 W2_203 W1_1 W2_204) rfl (by decide) (hdX8_whyNotWithin.2) rfl (Nat.le_of_ble_eq_true rfl) dX8_next_5 rfl (fun r2 M1 => ?_)
  refine J_istore_n (lv' := [(2, .int r2), (0, .ref (wa w o0)), (1, .int x1)]) C dX8_next_8 rfl (by decide) rfl ?_
  refine J_iload_n C dX8_next_9 rfl 0 rfl ?_
  refine J_if_ne (tgt := 25) C dX8_next_10 (by decide) (fun _ => ?_) (fun _ => ?_)
  · refine J_lv [1, 2, 0] rfl ?_
    exact b8_next_25 C RT n o0 h0 x1 r2 M1
  · refine J_aload_n C dX8_next_13 rfl 1 rfl ?_
    refine J_getr C fk8_3 W2_40 h0 dX8_next_14 ?_
    refine J_geti C fk1_1 W2_3 (tl_8_3 h0) dX8_next_17 ?_
    refine J_if_ne (tgt := 25) C dX8_next_20 (by decide) (fun _ => ?_) (fun _ => ?_)
    · refine J_lv [1, 2, 0] rfl ?_
      exact b8_next_25 C RT n o0 h0 x1 r2 M1
    · refine J_iconst C dX8_next_23 kci_3 ?_
      refine J_istore_n (lv' := [(2, .int (3 : Int32)), (0, .ref (wa w o0)), (1, .int x1)]) C dX8_next_24 rfl (by decide) rfl ?_
      refine J_lv [1, 2, 0] rfl ?_
      exact b8_next_25 C RT n o0 h0 x1 (3 : Int32) M1
theorem c8_next (l : Launch) (w : WE) (n : Nat) (o0 : Nat) (h0 : typ o0 = 8) (x1 : Int32) (M : Mem) : MC l w yX8_next (wz yX8_next cX8_next 4 (some .int)) rm8_next [.ref (wa w o0), .int x1] (s8_next n o0 x1 M) M :=
  mc_of_J (own := RX8) rfl (by decide) rfl rfl (Nat.le_of_ble_eq_true rfl) (fun _ _ C RT => b8_next C RT n o0 h0 x1 M)
theorem hdX8_next : yX8_next.cls = RX8 ∧ yOK yX8_next 1 := ⟨rfl, by decide, by decide, by decide⟩
abbrev rm8_team : Room := { frames := 5, cells := 0, slots := 0, locals := 121 }
def s8_team (n : Nat) (o0 : Nat) (x1 : Int32) (x2 : Int32) (x3 : Int32) (x4 : Int32) (M : Mem) : Option Res := if x1 = x2 then (cb (s8_refuse o0 (1 : Int32) M) (fun r2 M1 => some (r2, M1))) else (cb (s2_knowsIn (link o0 1) x1 M) (fun r4 M3 => if r4 = 0 then (cb (s8_refuse o0 (1 : Int32) M3) (fun r6 M5 => some (r6, M5))) else (cb (s2_knowsIn (link o0 1) x2 M3) (fun r8 M7 => if r8 = 0 then (cb (s8_refuse o0 (1 : Int32) M7) (fun r22 M21 => some (r22, M21))) else (if x4 < 0 then (cb (s8_refuse o0 (2 : Int32) M7) (fun r10 M9 => some (r10, M9))) else (if x4 ≤ (1 : Int32) then (cb (s8_whyNotWithin x3 (1 : Int32) (200 : Int32) M7) (fun r12 M11 => if r12 = 0 then (if x4 = 0 then (cb (s0_teamGain n (link o0 0) x1 x2 x3 M11) (fun r16 M15 => some (r16, M15))) else (cb (s0_sitsWhenHeld n (link o0 0) x1 x2 x3 M11) (fun r14 M13 => some (r14, M13)))) else (cb (s8_refuse o0 r12 M11) (fun r18 M17 => some (r18, M17))))) else (cb (s8_refuse o0 (2 : Int32) M7) (fun r20 M19 => some (r20, M19)))))))))
set_option maxRecDepth 100000 in
set_option maxHeartbeats 4000000 in
theorem b8_team {w : WE} {g : GT} (C : CT w g RX8 cX8_team rm8_team 6) (RT : RTi w g cX8_team .int) (n : Nat) (o0 : Nat) (h0 : typ o0 = 8) (x1 : Int32) (x2 : Int32) (x3 : Int32) (x4 : Int32) (M : Mem) : J w g (s8_team n o0 x1 x2 x3 x4 M) M 0 [(0, .ref (wa w o0)), (1, .int x1), (2, .int x2), (3, .int x3), (4, .int x4)] [] := by
  rw [s8_team]
  refine J_iload_n C dX8_team_0 rfl 1 rfl ?_
  refine J_iload_n C dX8_team_1 rfl 2 rfl ?_
  refine J_icmp_eq (tgt := 27) C dX8_team_2 (by decide) (fun _ => ?_) (fun _ => ?_)
  · refine J_aload_n C dX8_team_27 rfl 0 rfl ?_
    refine J_iconst C dX8_team_28 kci_1 ?_
    refine J_cvi (As := [.int (1 : Int32)]) C (c8_refuse (gl g) w o0 h0 (1 : Int32) M) (gd_v W2_66 W2_68 WP_0 W1_1 W2_69) rfl (by decide) (hdX8_refuse) h0 (by decide) (cl_8) rfl (Nat.le_of_ble_eq_true rfl) dX8_team_29 rfl (fun r2 M1 => ?_)
    exact J_iret C RT rfl dX8_team_32
  · refine J_aload_n C dX8_team_5 rfl 0 rfl ?_
    refine J_getr C fk8_1 W2_38 h0 dX8_team_6 ?_
    refine J_iload_n C dX8_team_9 rfl 1 rfl ?_
    refine J_cvi (As := [.int x1]) C (c2_knowsIn (gl g) w (link o0 1) (tl_8_1 h0) x1 M) (gd_v W3_212 W3_110 W3_111 W1_3 W3_112) rfl (by decide) (hdX2_knowsIn) (tl_8_1 h0) (by decide) (cl_2) rfl (Nat.le_of_ble_eq_true rfl) dX8_team_10 rfl (fun r4 M3 => ?_)
    refine J_if_eq (tgt := 27) C dX8_team_13 (by decide) (fun _ => ?_) (fun _ => ?_)
    · refine J_aload_n C dX8_team_27 rfl 0 rfl ?_
      refine J_iconst C dX8_team_28 kci_1 ?_
      refine J_cvi (As := [.int (1 : Int32)]) C (c8_refuse (gl g) w o0 h0 (1 : Int32) M3) (gd_v W2_66 W2_68 WP_0 W1_1 W2_69) rfl (by decide) (hdX8_refuse) h0 (by decide) (cl_8) rfl (Nat.le_of_ble_eq_true rfl) dX8_team_29 rfl (fun r6 M5 => ?_)
      exact J_iret C RT rfl dX8_team_32
    · refine J_aload_n C dX8_team_16 rfl 0 rfl ?_
      refine J_getr C fk8_1 W2_38 h0 dX8_team_17 ?_
      refine J_iload_n C dX8_team_20 rfl 2 rfl ?_
      refine J_cvi (As := [.int x2]) C (c2_knowsIn (gl g) w (link o0 1) (tl_8_1 h0) x2 M3) (gd_v W3_212 W3_110 W3_111 W1_3 W3_112) rfl (by decide) (hdX2_knowsIn) (tl_8_1 h0) (by decide) (cl_2) rfl (Nat.le_of_ble_eq_true rfl) dX8_team_21 rfl (fun r8 M7 => ?_)
      refine J_if_ne (tgt := 33) C dX8_team_24 (by decide) (fun _ => ?_) (fun _ => ?_)
      · refine J_iload C dX8_team_33 4 rfl ?_
        refine J_if_lt (tgt := 44) C dX8_team_35 (by decide) (fun _ => ?_) (fun _ => ?_)
        · refine J_aload_n C dX8_team_44 rfl 0 rfl ?_
          refine J_iconst C dX8_team_45 kci_2 ?_
          refine J_cvi (As := [.int (2 : Int32)]) C (c8_refuse (gl g) w o0 h0 (2 : Int32) M7) (gd_v W2_66 W2_68 WP_0 W1_1 W2_69) rfl (by decide) (hdX8_refuse) h0 (by decide) (cl_8) rfl (Nat.le_of_ble_eq_true rfl) dX8_team_46 rfl (fun r10 M9 => ?_)
          exact J_iret C RT rfl dX8_team_49
        · refine J_iload C dX8_team_38 4 rfl ?_
          refine J_iconst C dX8_team_40 kci_1 ?_
          refine J_icmp_le (tgt := 50) C dX8_team_41 (by decide) (fun _ => ?_) (fun _ => ?_)
          · refine J_iload_n C dX8_team_50 rfl 3 rfl ?_
            refine J_iconst C dX8_team_51 kci_1 ?_
            refine J_sipush C dX8_team_52 kcs_200 ?_
            refine J_csi (As := [.int x3, .int (1 : Int32), .int (200 : Int32)]) (dm := 0) C (c8_whyNotWithin (gl g) w x3 (1 : Int32) (200 : Int32) M7) (gd_s W3_66 W2_203 W1_1 W2_204) rfl (by decide) (hdX8_whyNotWithin.2) rfl (Nat.le_of_ble_eq_true rfl) dX8_team_55 rfl (fun r12 M11 => ?_)
            refine J_istore (lv' := [(5, .int r12), (0, .ref (wa w o0)), (1, .int x1), (2, .int x2), (3, .int x3), (4, .int x4)]) C dX8_team_58 (by decide) rfl ?_
            refine J_iload C dX8_team_60 0 rfl ?_
            refine J_if_eq (tgt := 72) C dX8_team_62 (by decide) (fun _ => ?_) (fun _ => ?_)
            · refine J_iload C dX8_team_72 5 rfl ?_
              refine J_if_ne (tgt := 90) C dX8_team_74 (by decide) (fun _ => ?_) (fun _ => ?_)
              · refine J_aload_n C dX8_team_90 rfl 1 rfl ?_
                refine J_getr C fk8_0 W2_37 h0 dX8_team_91 ?_
                refine J_iload_n C dX8_team_94 rfl 2 rfl ?_
                refine J_iload_n C dX8_team_95 rfl 3 rfl ?_
                refine J_iload_n C dX8_team_96 rfl 4 rfl ?_
                refine J_cvi (As := [.int x1, .int x2, .int x3]) C (c0_sitsWhenHeld (gl g) w n (link o0 0) (tl_8_0 h0) x1 x2 x3 M11) (gd_v W4_138 W4_139 W4_140 W1_2 W4_141) rfl (by decide) (hdX0_sitsWhenHeld) (tl_8_0 h0) (by decide) (cl_0) rfl (Nat.le_of_ble_eq_true rfl) dX8_team_97 rfl (fun r14 M13 => ?_)
                exact J_iret C RT rfl dX8_team_100
              · refine J_aload_n C dX8_team_77 rfl 1 rfl ?_
                refine J_getr C fk8_0 W2_37 h0 dX8_team_78 ?_
                refine J_iload_n C dX8_team_81 rfl 2 rfl ?_
                refine J_iload_n C dX8_team_82 rfl 3 rfl ?_
                refine J_iload_n C dX8_team_83 rfl 4 rfl ?_
                refine J_cvi (As := [.int x1, .int x2, .int x3]) C (c0_teamGain (gl g) w n (link o0 0) (tl_8_0 h0) x1 x2 x3 M11) (gd_v W4_134 W4_135 W4_136 W1_2 W4_137) rfl (by decide) (hdX0_teamGain) (tl_8_0 h0) (by decide) (cl_0) rfl (Nat.le_of_ble_eq_true rfl) dX8_team_84 rfl (fun r16 M15 => ?_)
                refine J_goto (tgt := 100) C dX8_team_87 (by decide) ?_
                exact J_iret C RT rfl dX8_team_100
            · refine J_aload_n C dX8_team_65 rfl 1 rfl ?_
              refine J_iload C dX8_team_66 0 rfl ?_
              refine J_cvi (As := [.int r12]) C (c8_refuse (gl g) w o0 h0 r12 M11) (gd_v W2_66 W2_68 WP_0 W1_1 W2_69) rfl (by decide) (hdX8_refuse) h0 (by decide) (cl_8) rfl (Nat.le_of_ble_eq_true rfl) dX8_team_68 rfl (fun r18 M17 => ?_)
              exact J_iret C RT rfl dX8_team_71
          · refine J_aload_n C dX8_team_44 rfl 0 rfl ?_
            refine J_iconst C dX8_team_45 kci_2 ?_
            refine J_cvi (As := [.int (2 : Int32)]) C (c8_refuse (gl g) w o0 h0 (2 : Int32) M7) (gd_v W2_66 W2_68 WP_0 W1_1 W2_69) rfl (by decide) (hdX8_refuse) h0 (by decide) (cl_8) rfl (Nat.le_of_ble_eq_true rfl) dX8_team_46 rfl (fun r20 M19 => ?_)
            exact J_iret C RT rfl dX8_team_49
      · refine J_aload_n C dX8_team_27 rfl 0 rfl ?_
        refine J_iconst C dX8_team_28 kci_1 ?_
        refine J_cvi (As := [.int (1 : Int32)]) C (c8_refuse (gl g) w o0 h0 (1 : Int32) M7) (gd_v W2_66 W2_68 WP_0 W1_1 W2_69) rfl (by decide) (hdX8_refuse) h0 (by decide) (cl_8) rfl (Nat.le_of_ble_eq_true rfl) dX8_team_29 rfl (fun r22 M21 => ?_)
        exact J_iret C RT rfl dX8_team_32
theorem c8_team (l : Launch) (w : WE) (n : Nat) (o0 : Nat) (h0 : typ o0 = 8) (x1 : Int32) (x2 : Int32) (x3 : Int32) (x4 : Int32) (M : Mem) : MC l w yX8_team (wz yX8_team cX8_team 6 (some .int)) rm8_team [.ref (wa w o0), .int x1, .int x2, .int x3, .int x4] (s8_team n o0 x1 x2 x3 x4 M) M :=
  mc_of_J (own := RX8) rfl (by decide) rfl rfl (Nat.le_of_ble_eq_true rfl) (fun _ _ C RT => b8_team C RT n o0 h0 x1 x2 x3 x4 M)
theorem hdX8_team : yX8_team.cls = RX8 ∧ yOK yX8_team 4 := ⟨rfl, by decide, by decide, by decide⟩
