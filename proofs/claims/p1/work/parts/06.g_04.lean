abbrev rm3_drawAgain : Room := { frames := 0, cells := 0, slots := 0, locals := 0 }
def s3_drawAgain (o0 : Nat) (M : Mem) : Option Res := mlet (mset M o0 2 (((M o0 2) * (1103515245 : Int32)) + (12345 : Int32))) (fun M1 => some ((((M1 o0 2) &&& (2147483647 : Int32)) / (65536 : Int32)) - (((M1 o0 2) &&& (2147483647 : Int32)) / (65536 : Int32)) / (100 : Int32) * (100 : Int32), M1))
set_option maxRecDepth 100000 in
set_option maxHeartbeats 4000000 in
theorem b3_drawAgain {w : WE} {g : GT} (C : CT w g RX3 cX3_drawAgain rm3_drawAgain 1) (RT : RTi w g cX3_drawAgain .int) (o0 : Nat) (h0 : typ o0 = 3) (M : Mem) : J w g (s3_drawAgain o0 M) M 0 [(0, .ref (wa w o0))] [] := by
  rw [s3_drawAgain]
  refine J_aload_n C dX3_drawAgain_0 rfl 0 rfl ?_
  refine J_aload_n C dX3_drawAgain_1 rfl 0 rfl ?_
  refine J_geti C fk3_2 W1_81 h0 dX3_drawAgain_2 ?_
  refine J_ldc C W3_129 dX3_drawAgain_5 ?_
  refine J_imul C dX3_drawAgain_7 ?_
  refine J_sipush C dX3_drawAgain_8 kcs_12345 ?_
  refine J_iadd C dX3_drawAgain_11 ?_
  refine J_puti C fk3_2 W1_81 fp3_2 h0 dX3_drawAgain_12 ?_
  refine J_mlet (fun M1 => ?_)
  refine J_aload_n C dX3_drawAgain_15 rfl 0 rfl ?_
  refine J_geti C fk3_2 W1_81 h0 dX3_drawAgain_16 ?_
  refine J_ldc C W3_130 dX3_drawAgain_19 ?_
  refine J_iand C dX3_drawAgain_21 ?_
  refine J_ldc C W3_131 dX3_drawAgain_22 ?_
  refine J_idiv_c C (by decide) dX3_drawAgain_24 ?_
  refine J_bipush C dX3_drawAgain_25 kcb_100 ?_
  refine J_irem_c C (by decide) dX3_drawAgain_27 ?_
  exact J_iret C RT rfl dX3_drawAgain_28
theorem c3_drawAgain (l : Launch) (w : WE) (o0 : Nat) (h0 : typ o0 = 3) (M : Mem) : MC l w yX3_drawAgain (wz yX3_drawAgain cX3_drawAgain 1 (some .int)) rm3_drawAgain [.ref (wa w o0)] (s3_drawAgain o0 M) M :=
  mc_of_J (own := RX3) rfl (by decide) rfl rfl (Nat.le_of_ble_eq_true rfl) (fun _ _ C RT => b3_drawAgain C RT o0 h0 M)
theorem hdX3_drawAgain : yX3_drawAgain.cls = RX3 ∧ yOK yX3_drawAgain 0 := ⟨rfl, by decide, by decide, by decide⟩
abbrev rm2_isLikedAtChair : Room := { frames := 1, cells := 0, slots := 0, locals := 21 }
def s2_isLikedAtChair_35 (n : Nat) (o0 : Nat) (t0 : Int32) (M : Mem) : Option Res := cb (s2_knowsIn o0 t0 M) (fun r2 M1 => if r2 = 0 then (some ((0 : Int32), M1)) else (if inB t0 (alen (link o0 3)) then cb (s4_hasChair (link o0 0) (M1 (link (link o0 3) t0.toNatClampNeg) 0) M1) (fun r5 M4 => if r5 = 0 then (some ((0 : Int32), M4)) else (some ((1 : Int32), M4))) else none))
set_option maxRecDepth 100000 in
set_option maxHeartbeats 4000000 in
theorem b2_isLikedAtChair_35 {w : WE} {g : GT} (C : CT w g RX2 cX2_isLikedAtChair rm2_isLikedAtChair 2) (RT : RTi w g cX2_isLikedAtChair .boolean) (n : Nat) (o0 : Nat) (h0 : typ o0 = 2) (t0 : Int32) (M : Mem) : J w g (s2_isLikedAtChair_35 n o0 t0 M) M 35 [(0, .ref (wa w o0))] [.int t0] := by
  rw [s2_isLikedAtChair_35]
  refine J_istore_n (lv' := [(1, .int t0), (0, .ref (wa w o0))]) C dX2_isLikedAtChair_35 rfl (by decide) rfl ?_
  refine J_aload_n C dX2_isLikedAtChair_36 rfl 1 rfl ?_
  refine J_iload_n C dX2_isLikedAtChair_37 rfl 0 rfl ?_
  refine J_cvi (As := [.int t0]) C (c2_knowsIn (gl g) w o0 h0 t0 M) (gd_v W3_109 W3_110 W3_111 W1_3 W3_112) rfl (by decide) (hdX2_knowsIn) h0 (by decide) (cl_2) rfl (Nat.le_of_ble_eq_true rfl) dX2_isLikedAtChair_38 rfl (fun r2 M1 => ?_)
  refine J_if_eq (tgt := 67) C dX2_isLikedAtChair_41 (by decide) (fun _ => ?_) (fun _ => ?_)
  · refine J_iconst C dX2_isLikedAtChair_67 kci_0 ?_
    exact J_iret C RT (by decide) dX2_isLikedAtChair_68
  · refine J_aload_n C dX2_isLikedAtChair_44 rfl 1 rfl ?_
    refine J_getr C fk2_0 W1_162 h0 dX2_isLikedAtChair_45 ?_
    refine J_aload_n C dX2_isLikedAtChair_48 rfl 1 rfl ?_
    refine J_getr C fk2_3 W1_174 h0 dX2_isLikedAtChair_49 ?_
    refine J_iload_n C dX2_isLikedAtChair_52 rfl 0 rfl ?_
    refine J_aaload C (tl_2_3 h0) dX2_isLikedAtChair_53 (fun hb3 => ?_)
    refine J_geti C fk7_0 W1_124 (t_wk (tl_2_3 h0) hb3) dX2_isLikedAtChair_54 ?_
    refine J_cvi (As := [.int (M1 (link (link o0 3) t0.toNatClampNeg) 0)]) C (c4_hasChair (gl g) w (link o0 0) (tl_2_0 h0) (M1 (link (link o0 3) t0.toNatClampNeg) 0) M1) (gd_v W2_217 W2_218 W2_219 W1_4 W2_220) rfl (by decide) (hdX4_hasChair) (tl_2_0 h0) (by decide) (cl_4) rfl (Nat.le_of_ble_eq_true rfl) dX2_isLikedAtChair_57 rfl (fun r5 M4 => ?_)
    refine J_if_eq (tgt := 67) C dX2_isLikedAtChair_60 (by decide) (fun _ => ?_) (fun _ => ?_)
    · refine J_iconst C dX2_isLikedAtChair_67 kci_0 ?_
      exact J_iret C RT (by decide) dX2_isLikedAtChair_68
    · refine J_iconst C dX2_isLikedAtChair_63 kci_1 ?_
      refine J_goto (tgt := 68) C dX2_isLikedAtChair_64 (by decide) ?_
      exact J_iret C RT (by decide) dX2_isLikedAtChair_68
def s2_isLikedAtChair_33 (n : Nat) (o0 : Nat) (M : Mem) : Option Res := s2_isLikedAtChair_35 n o0 (-9 : Int32) M
set_option maxRecDepth 100000 in
set_option maxHeartbeats 4000000 in
theorem b2_isLikedAtChair_33 {w : WE} {g : GT} (C : CT w g RX2 cX2_isLikedAtChair rm2_isLikedAtChair 2) (RT : RTi w g cX2_isLikedAtChair .boolean) (n : Nat) (o0 : Nat) (h0 : typ o0 = 2) (M : Mem) : J w g (s2_isLikedAtChair_33 n o0 M) M 33 [(0, .ref (wa w o0))] [] := by
  rw [s2_isLikedAtChair_33]
  refine J_bipush C dX2_isLikedAtChair_33 kcb_m9 ?_
  exact b2_isLikedAtChair_35 C RT n o0 h0 (-9 : Int32) M
def s2_isLikedAtChair (n : Nat) (o0 : Nat) (M : Mem) : Option Res := if (M (link o0 1) 0) = (3 : Int32) then (if (M o0 5) ≤ 0 then (s2_isLikedAtChair_33 n o0 M) else (if (M o0 5) = 0 then none else s2_isLikedAtChair_35 n o0 ((M (link o0 1) 1) - (M (link o0 1) 1) / (M o0 5) * (M o0 5)) M)) else (s2_isLikedAtChair_33 n o0 M)
set_option maxRecDepth 100000 in
set_option maxHeartbeats 4000000 in
theorem b2_isLikedAtChair {w : WE} {g : GT} (C : CT w g RX2 cX2_isLikedAtChair rm2_isLikedAtChair 2) (RT : RTi w g cX2_isLikedAtChair .boolean) (n : Nat) (o0 : Nat) (h0 : typ o0 = 2) (M : Mem) : J w g (s2_isLikedAtChair n o0 M) M 0 [(0, .ref (wa w o0))] [] := by
  rw [s2_isLikedAtChair]
  refine J_aload_n C dX2_isLikedAtChair_0 rfl 0 rfl ?_
  refine J_getr C fk2_1 W1_167 h0 dX2_isLikedAtChair_1 ?_
  refine J_geti C fk3_0 W1_75 (tl_2_1 h0) dX2_isLikedAtChair_4 ?_
  refine J_iconst C dX2_isLikedAtChair_7 kci_3 ?_
  refine J_icmp_ne (tgt := 33) C dX2_isLikedAtChair_8 (by decide) (fun _ => ?_) (fun _ => ?_)
  · exact b2_isLikedAtChair_33 C RT n o0 h0 M
  · refine J_aload_n C dX2_isLikedAtChair_11 rfl 0 rfl ?_
    refine J_geti C fk2_5 W1_179 h0 dX2_isLikedAtChair_12 ?_
    refine J_if_le (tgt := 33) C dX2_isLikedAtChair_15 (by decide) (fun _ => ?_) (fun _ => ?_)
    · exact b2_isLikedAtChair_33 C RT n o0 h0 M
    · refine J_aload_n C dX2_isLikedAtChair_18 rfl 0 rfl ?_
      refine J_getr C fk2_1 W1_167 h0 dX2_isLikedAtChair_19 ?_
      refine J_geti C fk3_1 W1_79 (tl_2_1 h0) dX2_isLikedAtChair_22 ?_
      refine J_aload_n C dX2_isLikedAtChair_25 rfl 0 rfl ?_
      refine J_geti C fk2_5 W1_179 h0 dX2_isLikedAtChair_26 ?_
      refine J_irem C dX2_isLikedAtChair_29 ?_
      refine J_goto (tgt := 35) C dX2_isLikedAtChair_30 (by decide) ?_
      exact b2_isLikedAtChair_35 C RT n o0 h0 ((M (link o0 1) 1) - (M (link o0 1) 1) / (M o0 5) * (M o0 5)) M
theorem c2_isLikedAtChair (l : Launch) (w : WE) (n : Nat) (o0 : Nat) (h0 : typ o0 = 2) (M : Mem) : MC l w yX2_isLikedAtChair (wz yX2_isLikedAtChair cX2_isLikedAtChair 2 (some .boolean)) rm2_isLikedAtChair [.ref (wa w o0)] (s2_isLikedAtChair n o0 M) M :=
  mc_of_J (own := RX2) rfl (by decide) rfl rfl (Nat.le_of_ble_eq_true rfl) (fun _ _ C RT => b2_isLikedAtChair C RT n o0 h0 M)
theorem hdX2_isLikedAtChair : yX2_isLikedAtChair.cls = RX2 ∧ yOK yX2_isLikedAtChair 0 := ⟨rfl, by decide, by decide, by decide⟩
abbrev rm3_stopsIn : Room := { frames := 0, cells := 0, slots := 0, locals := 0 }
def s3_stopsIn (o0 : Nat) (x1 : Int32) (x2 : Int32) (x3 : Int32) (M : Mem) : Option Res := if (M o0 0) = 0 then (if (M o0 1) ≤ x2 then (some ((0 : Int32), M)) else (some ((1 : Int32), M))) else (if (M o0 0) = 1 then (if (x1 - x1 / (8 : Int32) * (8 : Int32)) = 0 then (if (M o0 1) ≤ x2 then (some ((0 : Int32), M)) else (some ((1 : Int32), M))) else (some ((0 : Int32), M))) else (if (M o0 0) = 2 then (if x1 < (M o0 1) then (some ((0 : Int32), M)) else (if (M o0 1) ≤ x2 then (some ((0 : Int32), M)) else (some ((1 : Int32), M)))) else (if (M o0 0) = 3 then (if bz x3 then some (x3, M) else none) else (if x1 = (M o0 1) then (some ((1 : Int32), M)) else (some ((0 : Int32), M))))))
set_option maxRecDepth 100000 in
set_option maxHeartbeats 4000000 in
theorem b3_stopsIn {w : WE} {g : GT} (C : CT w g RX3 cX3_stopsIn rm3_stopsIn 4) (RT : RTi w g cX3_stopsIn .boolean) (o0 : Nat) (h0 : typ o0 = 3) (x1 : Int32) (x2 : Int32) (x3 : Int32) (M : Mem) : J w g (s3_stopsIn o0 x1 x2 x3 M) M 0 [(0, .ref (wa w o0)), (1, .int x1), (2, .int x2), (3, .int x3)] [] := by
  rw [s3_stopsIn]
  refine J_aload_n C dX3_stopsIn_0 rfl 0 rfl ?_
  refine J_geti C fk3_0 W1_72 h0 dX3_stopsIn_1 ?_
  refine J_ite (fun hc0 => ?_) (fun hc0 => ?_)
  · refine J_tsin (tgt := 36) C dX3_stopsIn_4 (by rw [hc0]; decide) (by rw [hc0]; decide) (off := 32) (by rw [hc0]; rfl) (by decide) ?_
    refine J_iload_n C dX3_stopsIn_36 rfl 2 rfl ?_
    refine J_aload_n C dX3_stopsIn_37 rfl 0 rfl ?_
    refine J_geti C fk3_1 W1_77 h0 dX3_stopsIn_38 ?_
    refine J_icmp_ge (tgt := 48) C dX3_stopsIn_41 (by decide) (fun _ => ?_) (fun _ => ?_)
    · refine J_iconst C dX3_stopsIn_48 kci_0 ?_
      exact J_iret C RT (by decide) dX3_stopsIn_49
    · refine J_iconst C dX3_stopsIn_44 kci_1 ?_
      refine J_goto (tgt := 49) C dX3_stopsIn_45 (by decide) ?_
      exact J_iret C RT (by decide) dX3_stopsIn_49
  · refine J_ite (fun hc1 => ?_) (fun hc1 => ?_)
    · refine J_tsin (tgt := 50) C dX3_stopsIn_4 (by rw [hc1]; decide) (by rw [hc1]; decide) (off := 46) (by rw [hc1]; rfl) (by decide) ?_
      refine J_iload_n C dX3_stopsIn_50 rfl 1 rfl ?_
      refine J_bipush C dX3_stopsIn_51 kcb_8 ?_
      refine J_irem_c C (by decide) dX3_stopsIn_53 ?_
      refine J_if_ne (tgt := 69) C dX3_stopsIn_54 (by decide) (fun _ => ?_) (fun _ => ?_)
      · refine J_iconst C dX3_stopsIn_69 kci_0 ?_
        exact J_iret C RT (by decide) dX3_stopsIn_70
      · refine J_iload_n C dX3_stopsIn_57 rfl 2 rfl ?_
        refine J_aload_n C dX3_stopsIn_58 rfl 0 rfl ?_
        refine J_geti C fk3_1 W1_77 h0 dX3_stopsIn_59 ?_
        refine J_icmp_ge (tgt := 69) C dX3_stopsIn_62 (by decide) (fun _ => ?_) (fun _ => ?_)
        · refine J_iconst C dX3_stopsIn_69 kci_0 ?_
          exact J_iret C RT (by decide) dX3_stopsIn_70
        · refine J_iconst C dX3_stopsIn_65 kci_1 ?_
          refine J_goto (tgt := 70) C dX3_stopsIn_66 (by decide) ?_
          exact J_iret C RT (by decide) dX3_stopsIn_70
    · refine J_ite (fun hc2 => ?_) (fun hc2 => ?_)
      · refine J_tsin (tgt := 71) C dX3_stopsIn_4 (by rw [hc2]; decide) (by rw [hc2]; decide) (off := 67) (by rw [hc2]; rfl) (by decide) ?_
        refine J_iload_n C dX3_stopsIn_71 rfl 1 rfl ?_
        refine J_aload_n C dX3_stopsIn_72 rfl 0 rfl ?_
        refine J_geti C fk3_1 W1_77 h0 dX3_stopsIn_73 ?_
        refine J_icmp_lt (tgt := 91) C dX3_stopsIn_76 (by decide) (fun _ => ?_) (fun _ => ?_)
        · refine J_iconst C dX3_stopsIn_91 kci_0 ?_
          exact J_iret C RT (by decide) dX3_stopsIn_92
        · refine J_iload_n C dX3_stopsIn_79 rfl 2 rfl ?_
          refine J_aload_n C dX3_stopsIn_80 rfl 0 rfl ?_
          refine J_geti C fk3_1 W1_77 h0 dX3_stopsIn_81 ?_
          refine J_icmp_ge (tgt := 91) C dX3_stopsIn_84 (by decide) (fun _ => ?_) (fun _ => ?_)
          · refine J_iconst C dX3_stopsIn_91 kci_0 ?_
            exact J_iret C RT (by decide) dX3_stopsIn_92
          · refine J_iconst C dX3_stopsIn_87 kci_1 ?_
            refine J_goto (tgt := 92) C dX3_stopsIn_88 (by decide) ?_
            exact J_iret C RT (by decide) dX3_stopsIn_92
      · refine J_ite (fun hc3 => ?_) (fun hc3 => ?_)
        · refine J_tsin (tgt := 93) C dX3_stopsIn_4 (by rw [hc3]; decide) (by rw [hc3]; decide) (off := 89) (by rw [hc3]; rfl) (by decide) ?_
          refine J_iload_n C dX3_stopsIn_93 rfl 3 rfl ?_
          exact J_zret C RT dX3_stopsIn_94
        · refine J_tsout (tgt := 95) C dX3_stopsIn_4 (by have q0 := lv_neT hc0 (a := 0) rfl; have q1 := lv_neT hc1 (a := 1) rfl; have q2 := lv_neT hc2 (a := 2) rfl; have q3 := lv_neT hc3 (a := 3) rfl; omega) (by decide) ?_
          refine J_iload_n C dX3_stopsIn_95 rfl 1 rfl ?_
          refine J_aload_n C dX3_stopsIn_96 rfl 0 rfl ?_
          refine J_geti C fk3_1 W1_77 h0 dX3_stopsIn_97 ?_
          refine J_icmp_ne (tgt := 107) C dX3_stopsIn_100 (by decide) (fun _ => ?_) (fun _ => ?_)
          · refine J_iconst C dX3_stopsIn_107 kci_0 ?_
            exact J_iret C RT (by decide) dX3_stopsIn_108
          · refine J_iconst C dX3_stopsIn_103 kci_1 ?_
            refine J_goto (tgt := 108) C dX3_stopsIn_104 (by decide) ?_
            exact J_iret C RT (by decide) dX3_stopsIn_108
theorem c3_stopsIn (l : Launch) (w : WE) (o0 : Nat) (h0 : typ o0 = 3) (x1 : Int32) (x2 : Int32) (x3 : Int32) (M : Mem) : MC l w yX3_stopsIn (wz yX3_stopsIn cX3_stopsIn 4 (some .boolean)) rm3_stopsIn [.ref (wa w o0), .int x1, .int x2, .int x3] (s3_stopsIn o0 x1 x2 x3 M) M :=
  mc_of_J (own := RX3) rfl (by decide) rfl rfl (Nat.le_of_ble_eq_true rfl) (fun _ _ C RT => b3_stopsIn C RT o0 h0 x1 x2 x3 M)
theorem hdX3_stopsIn : yX3_stopsIn.cls = RX3 ∧ yOK yX3_stopsIn 3 := ⟨rfl, by decide, by decide, by decide⟩
abbrev rm2_passTenth : Room := { frames := 3, cells := 0, slots := 0, locals := 65 }
def s2_passTenth (n : Nat) (o0 : Nat) (M : Mem) : Option Res := cb (s2_walkAll n o0 M) (fun _ M1 => mlet (mset M1 o0 7 ((M1 o0 7) + (1 : Int32))) (fun M3 => cb (s3_drawAgain (link o0 1) M3) (fun r5 M4 => if (300 : Int32) ≤ (M4 o0 7) then (some ((1 : Int32), M4)) else (cb (s2_isLikedAtChair n o0 M4) (fun r7 M6 => cb (s3_stopsIn (link o0 1) (M4 o0 7) r5 r7 M6) (fun r9 M8 => if r9 = 0 then (some ((0 : Int32), M8)) else (some ((1 : Int32), M8))))))))
set_option maxRecDepth 100000 in
set_option maxHeartbeats 4000000 in
theorem b2_passTenth {w : WE} {g : GT} (C : CT w g RX2 cX2_passTenth rm2_passTenth 2) (RT : RTi w g cX2_passTenth .boolean) (n : Nat) (o0 : Nat) (h0 : typ o0 = 2) (M : Mem) : J w g (s2_passTenth n o0 M) M 0 [(0, .ref (wa w o0))] [] := by
  rw [s2_passTenth]
  refine J_aload_n C dX2_passTenth_0 rfl 0 rfl ?_
  refine J_cvv (As := []) C (c2_walkAll (gl g) w n o0 h0 M) (gd_v W3_117 W3_118 W3_119 W1_3 W3_120) rfl (by decide) (hdX2_walkAll) h0 (by decide) (cl_2) rfl (Nat.le_of_ble_eq_true rfl) dX2_passTenth_1 rfl (fun r2 M1 => ?_)
  refine J_aload_n C dX2_passTenth_4 rfl 0 rfl ?_
  refine J_dup C rfl dX2_passTenth_5 ?_
  refine J_geti C fk2_7 W1_187 h0 dX2_passTenth_6 ?_
  refine J_iconst C dX2_passTenth_9 kci_1 ?_
  refine J_iadd C dX2_passTenth_10 ?_
  refine J_puti C fk2_7 W1_187 fp2_7 h0 dX2_passTenth_11 ?_
  refine J_mlet (fun M3 => ?_)
  refine J_aload_n C dX2_passTenth_14 rfl 0 rfl ?_
  refine J_getr C fk2_1 W1_167 h0 dX2_passTenth_15 ?_
  refine J_cvi (As := []) C (c3_drawAgain (gl g) w (link o0 1) (tl_2_1 h0) M3) (gd_v W3_125 W3_126 W3_127 W1_5 W3_128) rfl (by decide) (hdX3_drawAgain) (tl_2_1 h0) (by decide) (cl_3) rfl (Nat.le_of_ble_eq_true rfl) dX2_passTenth_18 rfl (fun r5 M4 => ?_)
  refine J_istore_n (lv' := [(1, .int r5), (0, .ref (wa w o0))]) C dX2_passTenth_21 rfl (by decide) rfl ?_
  refine J_aload_n C dX2_passTenth_22 rfl 1 rfl ?_
  refine J_geti C fk2_7 W1_187 h0 dX2_passTenth_23 ?_
  refine J_sipush C dX2_passTenth_26 kcs_300 ?_
  refine J_icmp_ge (tgt := 51) C dX2_passTenth_29 (by decide) (fun _ => ?_) (fun _ => ?_)
  · refine J_iconst C dX2_passTenth_51 kci_1 ?_
    refine J_goto (tgt := 56) C dX2_passTenth_52 (by decide) ?_
    exact J_iret C RT (by decide) dX2_passTenth_56
  · refine J_aload_n C dX2_passTenth_32 rfl 1 rfl ?_
    refine J_getr C fk2_1 W1_167 h0 dX2_passTenth_33 ?_
    refine J_aload_n C dX2_passTenth_36 rfl 1 rfl ?_
    refine J_geti C fk2_7 W1_187 h0 dX2_passTenth_37 ?_
    refine J_iload_n C dX2_passTenth_40 rfl 0 rfl ?_
    refine J_aload_n C dX2_passTenth_41 rfl 1 rfl ?_
    refine J_cvi (As := []) C (c2_isLikedAtChair (gl g) w n o0 h0 M4) (gd_v W3_132 W3_134 WP_14 W1_3 W3_135) rfl (by decide) (hdX2_isLikedAtChair) h0 (by decide) (cl_2) rfl (Nat.le_of_ble_eq_true rfl) dX2_passTenth_42 rfl (fun r7 M6 => ?_)
    refine J_cvi (As := [.int (M4 o0 7), .int r5, .int r7]) C (c3_stopsIn (gl g) w (link o0 1) (tl_2_1 h0) (M4 o0 7) r5 r7 M6) (gd_v W3_136 W3_137 W3_138 W1_5 W3_139) rfl (by decide) (hdX3_stopsIn) (tl_2_1 h0) (by decide) (cl_3) rfl (Nat.le_of_ble_eq_true rfl) dX2_passTenth_45 rfl (fun r9 M8 => ?_)
    refine J_if_eq (tgt := 55) C dX2_passTenth_48 (by decide) (fun _ => ?_) (fun _ => ?_)
    · refine J_iconst C dX2_passTenth_55 kci_0 ?_
      exact J_iret C RT (by decide) dX2_passTenth_56
    · refine J_iconst C dX2_passTenth_51 kci_1 ?_
      refine J_goto (tgt := 56) C dX2_passTenth_52 (by decide) ?_
      exact J_iret C RT (by decide) dX2_passTenth_56
theorem c2_passTenth (l : Launch) (w : WE) (n : Nat) (o0 : Nat) (h0 : typ o0 = 2) (M : Mem) : MC l w yX2_passTenth (wz yX2_passTenth cX2_passTenth 2 (some .boolean)) rm2_passTenth [.ref (wa w o0)] (s2_passTenth n o0 M) M :=
  mc_of_J (own := RX2) rfl (by decide) rfl rfl (Nat.le_of_ble_eq_true rfl) (fun _ _ C RT => b2_passTenth C RT n o0 h0 M)
theorem hdX2_passTenth : yX2_passTenth.cls = RX2 ∧ yOK yX2_passTenth 0 := ⟨rfl, by decide, by decide, by decide⟩
abbrev rm4_farFromChairs : Room := { frames := 1, cells := 0, slots := 0, locals := 23 }
def s4_farFromChairs_5 (n : Nat) (o0 : Nat) (x1 : Int32) : Nat → Int32 → Int32 → Mem → Option Res
  | 0, _, _, _ => none
  | f + 1, x2, x3, M => if (M o0 1) ≤ x3 then (some (x2, M)) else (cb (s4_placeOfChair o0 x3 M) (fun r2 M1 => cb (s4_far n o0 x1 r2 M1) (fun r4 M3 => if x2 ≤ r4 then (ilet (x3 + 1) (fun v5 => s4_farFromChairs_5 n o0 x1 f x2 v5 M3)) else (ilet (x3 + 1) (fun v6 => s4_farFromChairs_5 n o0 x1 f r4 v6 M3)))))
set_option maxRecDepth 100000 in
set_option maxHeartbeats 4000000 in
theorem b4_farFromChairs_5 {w : WE} {g : GT} (C : CT w g RX4 cX4_farFromChairs rm4_farFromChairs 5) (RT : RTi w g cX4_farFromChairs .int) (n : Nat) (o0 : Nat) (h0 : typ o0 = 4) (x1 : Int32) : ∀ (f : Nat) (x2 : Int32) (x3 : Int32) (M : Mem), J w g (s4_farFromChairs_5 n o0 x1 f x2 x3 M) M 5 [(0, .ref (wa w o0)), (1, .int x1), (2, .int x2), (3, .int x3)] [] := by
  intro f
  induction f with
  | zero =>
    intro x2 x3 M
    rw [s4_farFromChairs_5]
    exact J_none
  | succ f ih =>
    intro x2 x3 M
    rw [s4_farFromChairs_5]
    refine J_iload_n C dX4_farFromChairs_5 rfl 3 rfl ?_
    refine J_aload_n C dX4_farFromChairs_6 rfl 0 rfl ?_
    refine J_geti C fk4_1 W1_48 h0 dX4_farFromChairs_7 ?_
    refine J_icmp_ge (tgt := 40) C dX4_farFromChairs_10 (by decide) (fun _ => ?_) (fun _ => ?_)
    · refine J_iload_n C dX4_farFromChairs_40 rfl 2 rfl ?_
      exact J_iret C RT rfl dX4_farFromChairs_41
    · refine J_aload_n C dX4_farFromChairs_13 rfl 0 rfl ?_
      refine J_iload_n C dX4_farFromChairs_14 rfl 1 rfl ?_
      refine J_aload_n C dX4_farFromChairs_15 rfl 0 rfl ?_
      refine J_iload_n C dX4_farFromChairs_16 rfl 3 rfl ?_
      refine J_cvi (As := [.int x3]) C (c4_placeOfChair (gl g) w o0 h0 x3 M) (gd_v W3_179 W3_153 W3_154 W1_4 W3_155) rfl (by decide) (hdX4_placeOfChair) h0 (by decide) (cl_4) rfl (Nat.le_of_ble_eq_true rfl) dX4_farFromChairs_17 rfl (fun r2 M1 => ?_)
      refine J_cvi (As := [.int x1, .int r2]) C (c4_far (gl g) w n o0 h0 x1 r2 M1) (gd_v W3_180 W3_90 W3_91 W1_4 W3_92) rfl (by decide) (hdX4_far) h0 (by decide) (cl_4) rfl (Nat.le_of_ble_eq_true rfl) dX4_farFromChairs_20 rfl (fun r4 M3 => ?_)
      refine J_istore (lv' := [(4, .int r4), (0, .ref (wa w o0)), (1, .int x1), (2, .int x2), (3, .int x3)]) C dX4_farFromChairs_23 (by decide) rfl ?_
      refine J_iload C dX4_farFromChairs_25 0 rfl ?_
      refine J_iload_n C dX4_farFromChairs_27 rfl 3 rfl ?_
      refine J_icmp_ge (tgt := 34) C dX4_farFromChairs_28 (by decide) (fun _ => ?_) (fun _ => ?_)
      · refine J_iinc (lw := fun v5 => [(3, .int v5), (4, .int r4), (0, .ref (wa w o0)), (1, .int x1), (2, .int x2)]) (X := x3 + 1) C dX4_farFromChairs_34 (q := 4) rfl (by rw [kci_1]) (by decide) (fun _ => rfl) (fun v5 => ?_)
        refine J_goto (tgt := 5) C dX4_farFromChairs_37 (by decide) ?_
        refine J_lv [2, 3, 4, 0] rfl ?_
        exact ih x2 v5 M3
      · refine J_iload C dX4_farFromChairs_31 0 rfl ?_
        refine J_istore_n (lv' := [(2, .int r4), (4, .int r4), (0, .ref (wa w o0)), (1, .int x1), (3, .int x3)]) C dX4_farFromChairs_33 rfl (by decide) rfl ?_
        refine J_iinc (lw := fun v6 => [(3, .int v6), (2, .int r4), (4, .int r4), (0, .ref (wa w o0)), (1, .int x1)]) (X := x3 + 1) C dX4_farFromChairs_34 (q := 4) rfl (by rw [kci_1]) (by decide) (fun _ => rfl) (fun v6 => ?_)
        refine J_goto (tgt := 5) C dX4_farFromChairs_37 (by decide) ?_
        refine J_lv [3, 4, 1, 0] rfl ?_
        exact ih r4 v6 M3
def s4_farFromChairs (n : Nat) (o0 : Nat) (x1 : Int32) (M : Mem) : Option Res := s4_farFromChairs_5 n o0 x1 n (60 : Int32) (0 : Int32) M
set_option maxRecDepth 100000 in
set_option maxHeartbeats 4000000 in
theorem b4_farFromChairs {w : WE} {g : GT} (C : CT w g RX4 cX4_farFromChairs rm4_farFromChairs 5) (RT : RTi w g cX4_farFromChairs .int) (n : Nat) (o0 : Nat) (h0 : typ o0 = 4) (x1 : Int32) (M : Mem) : J w g (s4_farFromChairs n o0 x1 M) M 0 [(0, .ref (wa w o0)), (1, .int x1)] [] := by
  rw [s4_farFromChairs]
  refine J_bipush C dX4_farFromChairs_0 kcb_60 ?_
  refine J_istore_n (lv' := [(2, .int (60 : Int32)), (0, .ref (wa w o0)), (1, .int x1)]) C dX4_farFromChairs_2 rfl (by decide) rfl ?_
  refine J_iconst C dX4_farFromChairs_3 kci_0 ?_
  refine J_istore_n (lv' := [(3, .int (0 : Int32)), (2, .int (60 : Int32)), (0, .ref (wa w o0)), (1, .int x1)]) C dX4_farFromChairs_4 rfl (by decide) rfl ?_
  refine J_lv [2, 3, 1, 0] rfl ?_
  exact b4_farFromChairs_5 C RT n o0 h0 x1 n (60 : Int32) (0 : Int32) M
theorem c4_farFromChairs (l : Launch) (w : WE) (n : Nat) (o0 : Nat) (h0 : typ o0 = 4) (x1 : Int32) (M : Mem) : MC l w yX4_farFromChairs (wz yX4_farFromChairs cX4_farFromChairs 5 (some .int)) rm4_farFromChairs [.ref (wa w o0), .int x1] (s4_farFromChairs n o0 x1 M) M :=
  mc_of_J (own := RX4) rfl (by decide) rfl rfl (Nat.le_of_ble_eq_true rfl) (fun _ _ C RT => b4_farFromChairs C RT n o0 h0 x1 M)
theorem hdX4_farFromChairs : yX4_farFromChairs.cls = RX4 ∧ yOK yX4_farFromChairs 1 := ⟨rfl, by decide, by decide, by decide⟩
abbrev rm2_whoGoes : Room := { frames := 2, cells := 0, slots := 0, locals := 47 }
def s2_whoGoes_7 (n : Nat) (o0 : Nat) : Nat → Int32 → Int32 → Int32 → Mem → Option Res
  | 0, _, _, _, _ => none
  | f + 1, x1, x2, x3, M => if (M o0 5) ≤ x3 then (some (x1, M)) else (cb (s2_knowsIn o0 x3 M) (fun r2 M1 => if r2 = 0 then (ilet (x3 + 1) (fun v3 => s2_whoGoes_7 n o0 f x1 x2 v3 M1)) else (cb (s5_isSeated (link o0 2) x3 M1) (fun r5 M4 => if r5 = 0 then (if inB x3 (alen (link o0 3)) then cb (s4_farFromChairs n (link o0 0) (M4 (link (link o0 3) x3.toNatClampNeg) 0) M4) (fun r9 M8 => if r9 < x2 then (ilet (x3 + 1) (fun v10 => s2_whoGoes_7 n o0 f x1 x2 v10 M8)) else (ilet (x3 + 1) (fun v11 => s2_whoGoes_7 n o0 f x3 r9 v11 M8))) else none) else (ilet (x3 + 1) (fun v6 => s2_whoGoes_7 n o0 f x1 x2 v6 M4))))))
set_option maxRecDepth 100000 in
set_option maxHeartbeats 4000000 in
theorem b2_whoGoes_7 {w : WE} {g : GT} (C : CT w g RX2 cX2_whoGoes rm2_whoGoes 5) (RT : RTi w g cX2_whoGoes .int) (n : Nat) (o0 : Nat) (h0 : typ o0 = 2) : ∀ (f : Nat) (x1 : Int32) (x2 : Int32) (x3 : Int32) (M : Mem), J w g (s2_whoGoes_7 n o0 f x1 x2 x3 M) M 7 [(0, .ref (wa w o0)), (1, .int x1), (2, .int x2), (3, .int x3)] [] := by
  intro f
  induction f with
  | zero =>
    intro x1 x2 x3 M
    rw [s2_whoGoes_7]
    exact J_none
  | succ f ih =>
    intro x1 x2 x3 M
    rw [s2_whoGoes_7]
    refine J_iload_n C dX2_whoGoes_7 rfl 3 rfl ?_
    refine J_aload_n C dX2_whoGoes_8 rfl 0 rfl ?_
    refine J_geti C fk2_5 W1_179 h0 dX2_whoGoes_9 ?_
    refine J_icmp_ge (tgt := 69) C dX2_whoGoes_12 (by decide) (fun _ => ?_) (fun _ => ?_)
    · refine J_iload_n C dX2_whoGoes_69 rfl 1 rfl ?_
      exact J_iret C RT rfl dX2_whoGoes_70
    · refine J_aload_n C dX2_whoGoes_15 rfl 0 rfl ?_
      refine J_iload_n C dX2_whoGoes_16 rfl 3 rfl ?_
      refine J_cvi (As := [.int x3]) C (c2_knowsIn (gl g) w o0 h0 x3 M) (gd_v W3_109 W3_110 W3_111 W1_3 W3_112) rfl (by decide) (hdX2_knowsIn) h0 (by decide) (cl_2) rfl (Nat.le_of_ble_eq_true rfl) dX2_whoGoes_17 rfl (fun r2 M1 => ?_)
      refine J_if_eq (tgt := 63) C dX2_whoGoes_20 (by decide) (fun _ => ?_) (fun _ => ?_)
      · refine J_iinc (lw := fun v3 => [(3, .int v3), (0, .ref (wa w o0)), (1, .int x1), (2, .int x2)]) (X := x3 + 1) C dX2_whoGoes_63 (q := 3) rfl (by rw [kci_1]) (by decide) (fun _ => rfl) (fun v3 => ?_)
        refine J_goto (tgt := 7) C dX2_whoGoes_66 (by decide) ?_
        refine J_lv [1, 2, 3, 0] rfl ?_
        exact ih x1 x2 v3 M1
      · refine J_aload_n C dX2_whoGoes_23 rfl 0 rfl ?_
        refine J_getr C fk2_2 W1_171 h0 dX2_whoGoes_24 ?_
        refine J_iload_n C dX2_whoGoes_27 rfl 3 rfl ?_
        refine J_cvi (As := [.int x3]) C (c5_isSeated (gl g) w (link o0 2) (tl_2_2 h0) x3 M1) (gd_v W3_171 W3_172 W3_173 W1_6 W3_174) rfl (by decide) (hdX5_isSeated) (tl_2_2 h0) (by decide) (cl_5) rfl (Nat.le_of_ble_eq_true rfl) dX2_whoGoes_28 rfl (fun r5 M4 => ?_)
        refine J_if_ne (tgt := 63) C dX2_whoGoes_31 (by decide) (fun _ => ?_) (fun _ => ?_)
        · refine J_iinc (lw := fun v6 => [(3, .int v6), (0, .ref (wa w o0)), (1, .int x1), (2, .int x2)]) (X := x3 + 1) C dX2_whoGoes_63 (q := 3) rfl (by rw [kci_1]) (by decide) (fun _ => rfl) (fun v6 => ?_)
          refine J_goto (tgt := 7) C dX2_whoGoes_66 (by decide) ?_
          refine J_lv [1, 2, 3, 0] rfl ?_
          exact ih x1 x2 v6 M4
        · refine J_aload_n C dX2_whoGoes_34 rfl 0 rfl ?_
          refine J_getr C fk2_0 W1_162 h0 dX2_whoGoes_35 ?_
          refine J_aload_n C dX2_whoGoes_38 rfl 0 rfl ?_
          refine J_getr C fk2_3 W1_174 h0 dX2_whoGoes_39 ?_
          refine J_iload_n C dX2_whoGoes_42 rfl 3 rfl ?_
          refine J_aaload C (tl_2_3 h0) dX2_whoGoes_43 (fun hb7 => ?_)
          refine J_geti C fk7_0 W1_124 (t_wk (tl_2_3 h0) hb7) dX2_whoGoes_44 ?_
          refine J_cvi (As := [.int (M4 (link (link o0 3) x3.toNatClampNeg) 0)]) C (c4_farFromChairs (gl g) w n (link o0 0) (tl_2_0 h0) (M4 (link (link o0 3) x3.toNatClampNeg) 0) M4) (gd_v W3_175 W3_176 W3_177 W1_4 W3_178) rfl (by decide) (hdX4_farFromChairs) (tl_2_0 h0) (by decide) (cl_4) rfl (Nat.le_of_ble_eq_true rfl) dX2_whoGoes_47 rfl (fun r9 M8 => ?_)
          refine J_istore (lv' := [(4, .int r9), (0, .ref (wa w o0)), (1, .int x1), (2, .int x2), (3, .int x3)]) C dX2_whoGoes_50 (by decide) rfl ?_
          refine J_iload C dX2_whoGoes_52 0 rfl ?_
          refine J_iload_n C dX2_whoGoes_54 rfl 3 rfl ?_
          refine J_icmp_lt (tgt := 63) C dX2_whoGoes_55 (by decide) (fun _ => ?_) (fun _ => ?_)
          · refine J_iinc (lw := fun v10 => [(3, .int v10), (4, .int r9), (0, .ref (wa w o0)), (1, .int x1), (2, .int x2)]) (X := x3 + 1) C dX2_whoGoes_63 (q := 4) rfl (by rw [kci_1]) (by decide) (fun _ => rfl) (fun v10 => ?_)
            refine J_goto (tgt := 7) C dX2_whoGoes_66 (by decide) ?_
            refine J_lv [2, 3, 4, 0] rfl ?_
            exact ih x1 x2 v10 M8
          · refine J_iload C dX2_whoGoes_58 0 rfl ?_
            refine J_istore_n (lv' := [(2, .int r9), (4, .int r9), (0, .ref (wa w o0)), (1, .int x1), (3, .int x3)]) C dX2_whoGoes_60 rfl (by decide) rfl ?_
            refine J_iload_n C dX2_whoGoes_61 rfl 4 rfl ?_
            refine J_istore_n (lv' := [(1, .int x3), (2, .int r9), (4, .int r9), (0, .ref (wa w o0)), (3, .int x3)]) C dX2_whoGoes_62 rfl (by decide) rfl ?_
            refine J_iinc (lw := fun v11 => [(3, .int v11), (1, .int x3), (2, .int r9), (4, .int r9), (0, .ref (wa w o0))]) (X := x3 + 1) C dX2_whoGoes_63 (q := 4) rfl (by rw [kci_1]) (by decide) (fun _ => rfl) (fun v11 => ?_)
            refine J_goto (tgt := 7) C dX2_whoGoes_66 (by decide) ?_
            refine J_lv [4, 1, 2, 0] rfl ?_
            exact ih x3 r9 v11 M8
def s2_whoGoes (n : Nat) (o0 : Nat) (M : Mem) : Option Res := s2_whoGoes_7 n o0 n (-9 : Int32) (-1 : Int32) (0 : Int32) M
set_option maxRecDepth 100000 in
set_option maxHeartbeats 4000000 in
theorem b2_whoGoes {w : WE} {g : GT} (C : CT w g RX2 cX2_whoGoes rm2_whoGoes 5) (RT : RTi w g cX2_whoGoes .int) (n : Nat) (o0 : Nat) (h0 : typ o0 = 2) (M : Mem) : J w g (s2_whoGoes n o0 M) M 0 [(0, .ref (wa w o0))] [] := by
  rw [s2_whoGoes]
  refine J_bipush C dX2_whoGoes_0 kcb_m9 ?_
  refine J_istore_n (lv' := [(1, .int (-9 : Int32)), (0, .ref (wa w o0))]) C dX2_whoGoes_2 rfl (by decide) rfl ?_
  refine J_iconst C dX2_whoGoes_3 kci_m1 ?_
  refine J_istore_n (lv' := [(2, .int (-1 : Int32)), (1, .int (-9 : Int32)), (0, .ref (wa w o0))]) C dX2_whoGoes_4 rfl (by decide) rfl ?_
  refine J_iconst C dX2_whoGoes_5 kci_0 ?_
  refine J_istore_n (lv' := [(3, .int (0 : Int32)), (2, .int (-1 : Int32)), (1, .int (-9 : Int32)), (0, .ref (wa w o0))]) C dX2_whoGoes_6 rfl (by decide) rfl ?_
  refine J_lv [3, 2, 1, 0] rfl ?_
  exact b2_whoGoes_7 C RT n o0 h0 n (-9 : Int32) (-1 : Int32) (0 : Int32) M
theorem c2_whoGoes (l : Launch) (w : WE) (n : Nat) (o0 : Nat) (h0 : typ o0 = 2) (M : Mem) : MC l w yX2_whoGoes (wz yX2_whoGoes cX2_whoGoes 5 (some .int)) rm2_whoGoes [.ref (wa w o0)] (s2_whoGoes n o0 M) M :=
  mc_of_J (own := RX2) rfl (by decide) rfl rfl (Nat.le_of_ble_eq_true rfl) (fun _ _ C RT => b2_whoGoes C RT n o0 h0 M)
theorem hdX2_whoGoes : yX2_whoGoes.cls = RX2 ∧ yOK yX2_whoGoes 0 := ⟨rfl, by decide, by decide, by decide⟩
abbrev rm2_losesChair : Room := { frames := 0, cells := 0, slots := 0, locals := 0 }
def s2_losesChair (o0 : Nat) (x1 : Int32) (M : Mem) : Option Res := if x1 < 0 then (some ((0 : Int32), M)) else (if (M (link o0 0) 1) ≤ (1 : Int32) then (some ((0 : Int32), M)) else (some ((1 : Int32), M)))
set_option maxRecDepth 100000 in
set_option maxHeartbeats 4000000 in
theorem b2_losesChair {w : WE} {g : GT} (C : CT w g RX2 cX2_losesChair rm2_losesChair 2) (RT : RTi w g cX2_losesChair .boolean) (o0 : Nat) (h0 : typ o0 = 2) (x1 : Int32) (M : Mem) : J w g (s2_losesChair o0 x1 M) M 0 [(0, .ref (wa w o0)), (1, .int x1)] [] := by
  rw [s2_losesChair]
  refine J_iload_n C dX2_losesChair_0 rfl 1 rfl ?_
  refine J_if_lt (tgt := 19) C dX2_losesChair_1 (by decide) (fun _ => ?_) (fun _ => ?_)
  · refine J_iconst C dX2_losesChair_19 kci_0 ?_
    exact J_iret C RT (by decide) dX2_losesChair_20
  · refine J_aload_n C dX2_losesChair_4 rfl 0 rfl ?_
    refine J_getr C fk2_0 W1_162 h0 dX2_losesChair_5 ?_
    refine J_geti C fk4_1 W1_50 (tl_2_0 h0) dX2_losesChair_8 ?_
    refine J_iconst C dX2_losesChair_11 kci_1 ?_
    refine J_icmp_le (tgt := 19) C dX2_losesChair_12 (by decide) (fun _ => ?_) (fun _ => ?_)
    · refine J_iconst C dX2_losesChair_19 kci_0 ?_
      exact J_iret C RT (by decide) dX2_losesChair_20
    · refine J_iconst C dX2_losesChair_15 kci_1 ?_
      refine J_goto (tgt := 20) C dX2_losesChair_16 (by decide) ?_
      exact J_iret C RT (by decide) dX2_losesChair_20
theorem c2_losesChair (l : Launch) (w : WE) (o0 : Nat) (h0 : typ o0 = 2) (x1 : Int32) (M : Mem) : MC l w yX2_losesChair (wz yX2_losesChair cX2_losesChair 2 (some .boolean)) rm2_losesChair [.ref (wa w o0), .int x1] (s2_losesChair o0 x1 M) M :=
  mc_of_J (own := RX2) rfl (by decide) rfl rfl (Nat.le_of_ble_eq_true rfl) (fun _ _ C RT => b2_losesChair C RT o0 h0 x1 M)
theorem hdX2_losesChair : yX2_losesChair.cls = RX2 ∧ yOK yX2_losesChair 1 := ⟨rfl, by decide, by decide, by decide⟩
abbrev rm4_wayOn : Room := { frames := 0, cells := 0, slots := 0, locals := 0 }
def s4_wayOn (o0 : Nat) (x1 : Int32) (x2 : Int32) (M : Mem) : Option Res := if x2 ≤ x1 then (some ((x2 - x1) + (M o0 0), M)) else (some (x2 - x1, M))
set_option maxRecDepth 100000 in
set_option maxHeartbeats 4000000 in
theorem b4_wayOn {w : WE} {g : GT} (C : CT w g RX4 cX4_wayOn rm4_wayOn 3) (RT : RTi w g cX4_wayOn .int) (o0 : Nat) (h0 : typ o0 = 4) (x1 : Int32) (x2 : Int32) (M : Mem) : J w g (s4_wayOn o0 x1 x2 M) M 0 [(0, .ref (wa w o0)), (1, .int x1), (2, .int x2)] [] := by
  rw [s4_wayOn]
  refine J_iload_n C dX4_wayOn_0 rfl 2 rfl ?_
  refine J_iload_n C dX4_wayOn_1 rfl 1 rfl ?_
  refine J_icmp_le (tgt := 11) C dX4_wayOn_2 (by decide) (fun _ => ?_) (fun _ => ?_)
  · refine J_iload_n C dX4_wayOn_11 rfl 2 rfl ?_
    refine J_iload_n C dX4_wayOn_12 rfl 1 rfl ?_
    refine J_isub C dX4_wayOn_13 ?_
    refine J_aload_n C dX4_wayOn_14 rfl 0 rfl ?_
    refine J_geti C fk4_0 W1_44 h0 dX4_wayOn_15 ?_
    refine J_iadd C dX4_wayOn_18 ?_
    exact J_iret C RT rfl dX4_wayOn_19
  · refine J_iload_n C dX4_wayOn_5 rfl 2 rfl ?_
    refine J_iload_n C dX4_wayOn_6 rfl 1 rfl ?_
    refine J_isub C dX4_wayOn_7 ?_
    refine J_goto (tgt := 19) C dX4_wayOn_8 (by decide) ?_
    exact J_iret C RT rfl dX4_wayOn_19
theorem c4_wayOn (l : Launch) (w : WE) (o0 : Nat) (h0 : typ o0 = 4) (x1 : Int32) (x2 : Int32) (M : Mem) : MC l w yX4_wayOn (wz yX4_wayOn cX4_wayOn 3 (some .int)) rm4_wayOn [.ref (wa w o0), .int x1, .int x2] (s4_wayOn o0 x1 x2 M) M :=
  mc_of_J (own := RX4) rfl (by decide) rfl rfl (Nat.le_of_ble_eq_true rfl) (fun _ _ C RT => b4_wayOn C RT o0 h0 x1 x2 M)
theorem hdX4_wayOn : yX4_wayOn.cls = RX4 ∧ yOK yX4_wayOn 2 := ⟨rfl, by decide, by decide, by decide⟩
abbrev rm4_mostCrowdedChair : Room := { frames := 1, cells := 0, slots := 0, locals := 22 }
def s4_mostCrowdedChair_55 (n : Nat) (k7 : Int32 → Int32 → Int32 → Mem → Option Res) (o0 : Nat) (x1 : Int32) (x2 : Int32) (x3 : Int32) (x4 : Int32) (t0 : Int32) (q1 : Nat) (M : Mem) : Option Res := cb (s4_placeOfChair q1 t0 M) (fun r4 M3 => cb (s4_placeOfChair o0 x3 M3) (fun r6 M5 => cb (s4_wayOn o0 x4 r6 M5) (fun r8 M7 => cb (s4_placeOfChair o0 x3 M7) (fun r10 M9 => cb (s4_wayOn o0 r10 r4 M9) (fun r12 M11 => ilet (r8 + r12) (fun v13 => if x2 ≤ v13 then (ilet (x3 + 1) (fun v14 => k7 x1 x2 v14 M11)) else (ilet (x3 + 1) (fun v15 => k7 x3 v13 v15 M11))))))))
set_option maxRecDepth 100000 in
set_option maxHeartbeats 4000000 in
theorem b4_mostCrowdedChair_55 {w : WE} {g : GT} (C : CT w g RX4 cX4_mostCrowdedChair rm4_mostCrowdedChair 7) (RT : RTi w g cX4_mostCrowdedChair .int) (n : Nat) (k7 : Int32 → Int32 → Int32 → Mem → Option Res) (o0 : Nat) (h0 : typ o0 = 4) (x1 : Int32) (x2 : Int32) (x3 : Int32) (x4 : Int32) (t0 : Int32) (q1 : Nat) (hq1 : typ q1 = 4) (hk7 : ∀ (z1 : Int32) (z2 : Int32) (z3 : Int32) (M : Mem), J w g (k7 z1 z2 z3 M) M 7 [(0, .ref (wa w o0)), (1, .int z1), (2, .int z2), (3, .int z3)] []) (M : Mem) : J w g (s4_mostCrowdedChair_55 n k7 o0 x1 x2 x3 x4 t0 q1 M) M 55 [(0, .ref (wa w o0)), (1, .int x1), (2, .int x2), (3, .int x3), (4, .int x4)] [.int t0, .ref (wa w q1)] := by
  rw [s4_mostCrowdedChair_55]
  refine J_cvi (As := [.int t0]) C (c4_placeOfChair (gl g) w q1 hq1 t0 M) (gd_v W3_179 W3_153 W3_154 W1_4 W3_155) rfl (by decide) (hdX4_placeOfChair) hq1 (by decide) (cl_4) rfl (Nat.le_of_ble_eq_true rfl) dX4_mostCrowdedChair_55 rfl (fun r4 M3 => ?_)
  refine J_istore (lv' := [(5, .int r4), (0, .ref (wa w o0)), (1, .int x1), (2, .int x2), (3, .int x3), (4, .int x4)]) C dX4_mostCrowdedChair_58 (by decide) rfl ?_
  refine J_aload_n C dX4_mostCrowdedChair_60 rfl 1 rfl ?_
  refine J_iload C dX4_mostCrowdedChair_61 5 rfl ?_
  refine J_aload_n C dX4_mostCrowdedChair_63 rfl 1 rfl ?_
  refine J_iload_n C dX4_mostCrowdedChair_64 rfl 4 rfl ?_
  refine J_cvi (As := [.int x3]) C (c4_placeOfChair (gl g) w o0 h0 x3 M3) (gd_v W3_179 W3_153 W3_154 W1_4 W3_155) rfl (by decide) (hdX4_placeOfChair) h0 (by decide) (cl_4) rfl (Nat.le_of_ble_eq_true rfl) dX4_mostCrowdedChair_65 rfl (fun r6 M5 => ?_)
  refine J_cvi (As := [.int x4, .int r6]) C (c4_wayOn (gl g) w o0 h0 x4 r6 M5) (gd_v W3_194 W3_196 WP_19 W1_4 W3_197) rfl (by decide) (hdX4_wayOn) h0 (by decide) (cl_4) rfl (Nat.le_of_ble_eq_true rfl) dX4_mostCrowdedChair_68 rfl (fun r8 M7 => ?_)
  refine J_aload_n C dX4_mostCrowdedChair_71 rfl 1 rfl ?_
  refine J_aload_n C dX4_mostCrowdedChair_72 rfl 1 rfl ?_
  refine J_iload_n C dX4_mostCrowdedChair_73 rfl 4 rfl ?_
  refine J_cvi (As := [.int x3]) C (c4_placeOfChair (gl g) w o0 h0 x3 M7) (gd_v W3_179 W3_153 W3_154 W1_4 W3_155) rfl (by decide) (hdX4_placeOfChair) h0 (by decide) (cl_4) rfl (Nat.le_of_ble_eq_true rfl) dX4_mostCrowdedChair_74 rfl (fun r10 M9 => ?_)
  refine J_iload C dX4_mostCrowdedChair_77 0 rfl ?_
  refine J_cvi (As := [.int r10, .int r4]) C (c4_wayOn (gl g) w o0 h0 r10 r4 M9) (gd_v W3_194 W3_196 WP_19 W1_4 W3_197) rfl (by decide) (hdX4_wayOn) h0 (by decide) (cl_4) rfl (Nat.le_of_ble_eq_true rfl) dX4_mostCrowdedChair_79 rfl (fun r12 M11 => ?_)
  refine J_iadd C dX4_mostCrowdedChair_82 ?_
  refine J_ilet (fun v13 => ?_)
  refine J_istore (lv' := [(6, .int v13), (5, .int r4), (0, .ref (wa w o0)), (1, .int x1), (2, .int x2), (3, .int x3), (4, .int x4)]) C dX4_mostCrowdedChair_83 (by decide) rfl ?_
  refine J_iload C dX4_mostCrowdedChair_85 0 rfl ?_
  refine J_iload_n C dX4_mostCrowdedChair_87 rfl 4 rfl ?_
  refine J_icmp_ge (tgt := 96) C dX4_mostCrowdedChair_88 (by decide) (fun _ => ?_) (fun _ => ?_)
  · refine J_iinc (lw := fun v14 => [(3, .int v14), (6, .int v13), (5, .int r4), (0, .ref (wa w o0)), (1, .int x1), (2, .int x2), (4, .int x4)]) (X := x3 + 1) C dX4_mostCrowdedChair_96 (q := 5) rfl (by rw [kci_1]) (by decide) (fun _ => rfl) (fun v14 => ?_)
    refine J_goto (tgt := 7) C dX4_mostCrowdedChair_99 (by decide) ?_
    refine J_lv [3, 4, 5, 0] rfl ?_
    exact hk7 x1 x2 v14 M11
  · refine J_iload C dX4_mostCrowdedChair_91 0 rfl ?_
    refine J_istore_n (lv' := [(2, .int v13), (6, .int v13), (5, .int r4), (0, .ref (wa w o0)), (1, .int x1), (3, .int x3), (4, .int x4)]) C dX4_mostCrowdedChair_93 rfl (by decide) rfl ?_
    refine J_iload_n C dX4_mostCrowdedChair_94 rfl 5 rfl ?_
    refine J_istore_n (lv' := [(1, .int x3), (2, .int v13), (6, .int v13), (5, .int r4), (0, .ref (wa w o0)), (3, .int x3), (4, .int x4)]) C dX4_mostCrowdedChair_95 rfl (by decide) rfl ?_
    refine J_iinc (lw := fun v15 => [(3, .int v15), (1, .int x3), (2, .int v13), (6, .int v13), (5, .int r4), (0, .ref (wa w o0)), (4, .int x4)]) (X := x3 + 1) C dX4_mostCrowdedChair_96 (q := 5) rfl (by rw [kci_1]) (by decide) (fun _ => rfl) (fun v15 => ?_)
    refine J_goto (tgt := 7) C dX4_mostCrowdedChair_99 (by decide) ?_
    refine J_lv [5, 1, 2, 0] rfl ?_
    exact hk7 x3 v13 v15 M11
def s4_mostCrowdedChair_32 (n : Nat) (k7 : Int32 → Int32 → Int32 → Mem → Option Res) (o0 : Nat) (x1 : Int32) (x2 : Int32) (x3 : Int32) (t0 : Int32) (q1 : Nat) (M : Mem) : Option Res := cb (s4_placeOfChair q1 t0 M) (fun r2 M1 => if ((M1 o0 1) - (1 : Int32)) ≤ x3 then (s4_mostCrowdedChair_55 n k7 o0 x1 x2 x3 r2 (0 : Int32) o0 M1) else (s4_mostCrowdedChair_55 n k7 o0 x1 x2 x3 r2 (x3 + (1 : Int32)) o0 M1))
set_option maxRecDepth 100000 in
set_option maxHeartbeats 4000000 in
theorem b4_mostCrowdedChair_32 {w : WE} {g : GT} (C : CT w g RX4 cX4_mostCrowdedChair rm4_mostCrowdedChair 7) (RT : RTi w g cX4_mostCrowdedChair .int) (n : Nat) (k7 : Int32 → Int32 → Int32 → Mem → Option Res) (o0 : Nat) (h0 : typ o0 = 4) (x1 : Int32) (x2 : Int32) (x3 : Int32) (t0 : Int32) (q1 : Nat) (hq1 : typ q1 = 4) (hk7 : ∀ (z1 : Int32) (z2 : Int32) (z3 : Int32) (M : Mem), J w g (k7 z1 z2 z3 M) M 7 [(0, .ref (wa w o0)), (1, .int z1), (2, .int z2), (3, .int z3)] []) (M : Mem) : J w g (s4_mostCrowdedChair_32 n k7 o0 x1 x2 x3 t0 q1 M) M 32 [(0, .ref (wa w o0)), (1, .int x1), (2, .int x2), (3, .int x3)] [.int t0, .ref (wa w q1)] := by
  rw [s4_mostCrowdedChair_32]
  refine J_cvi (As := [.int t0]) C (c4_placeOfChair (gl g) w q1 hq1 t0 M) (gd_v W3_179 W3_153 W3_154 W1_4 W3_155) rfl (by decide) (hdX4_placeOfChair) hq1 (by decide) (cl_4) rfl (Nat.le_of_ble_eq_true rfl) dX4_mostCrowdedChair_32 rfl (fun r2 M1 => ?_)
  refine J_istore (lv' := [(4, .int r2), (0, .ref (wa w o0)), (1, .int x1), (2, .int x2), (3, .int x3)]) C dX4_mostCrowdedChair_35 (by decide) rfl ?_
  refine J_aload_n C dX4_mostCrowdedChair_37 rfl 1 rfl ?_
  refine J_iload_n C dX4_mostCrowdedChair_38 rfl 4 rfl ?_
  refine J_aload_n C dX4_mostCrowdedChair_39 rfl 1 rfl ?_
  refine J_geti C fk4_1 W1_48 h0 dX4_mostCrowdedChair_40 ?_
  refine J_iconst C dX4_mostCrowdedChair_43 kci_1 ?_
  refine J_isub C dX4_mostCrowdedChair_44 ?_
  refine J_icmp_ge (tgt := 54) C dX4_mostCrowdedChair_45 (by decide) (fun _ => ?_) (fun _ => ?_)
  · refine J_iconst C dX4_mostCrowdedChair_54 kci_0 ?_
    refine J_lv [1, 2, 3, 4, 0] rfl ?_
    exact b4_mostCrowdedChair_55 C RT n k7 o0 h0 x1 x2 x3 r2 (0 : Int32) o0 h0 hk7 M1
  · refine J_iload_n C dX4_mostCrowdedChair_48 rfl 4 rfl ?_
    refine J_iconst C dX4_mostCrowdedChair_49 kci_1 ?_
    refine J_iadd C dX4_mostCrowdedChair_50 ?_
    refine J_goto (tgt := 55) C dX4_mostCrowdedChair_51 (by decide) ?_
    refine J_lv [1, 2, 3, 4, 0] rfl ?_
    exact b4_mostCrowdedChair_55 C RT n k7 o0 h0 x1 x2 x3 r2 (x3 + (1 : Int32)) o0 h0 hk7 M1
def s4_mostCrowdedChair_7 (n : Nat) (o0 : Nat) : Nat → Int32 → Int32 → Int32 → Mem → Option Res
  | 0, _, _, _, _ => none
  | f + 1, x1, x2, x3, M => if (M o0 1) ≤ x3 then (some (x1, M)) else (if x3 ≤ 0 then (s4_mostCrowdedChair_32 n (s4_mostCrowdedChair_7 n o0 f) o0 x1 x2 x3 ((M o0 1) - (1 : Int32)) o0 M) else (s4_mostCrowdedChair_32 n (s4_mostCrowdedChair_7 n o0 f) o0 x1 x2 x3 (x3 - (1 : Int32)) o0 M))
set_option maxRecDepth 100000 in
set_option maxHeartbeats 4000000 in
theorem b4_mostCrowdedChair_7 {w : WE} {g : GT} (C : CT w g RX4 cX4_mostCrowdedChair rm4_mostCrowdedChair 7) (RT : RTi w g cX4_mostCrowdedChair .int) (n : Nat) (o0 : Nat) (h0 : typ o0 = 4) : ∀ (f : Nat) (x1 : Int32) (x2 : Int32) (x3 : Int32) (M : Mem), J w g (s4_mostCrowdedChair_7 n o0 f x1 x2 x3 M) M 7 [(0, .ref (wa w o0)), (1, .int x1), (2, .int x2), (3, .int x3)] [] := by
  intro f
  induction f with
  | zero =>
    intro x1 x2 x3 M
    rw [s4_mostCrowdedChair_7]
    exact J_none
  | succ f ih =>
    intro x1 x2 x3 M
    rw [s4_mostCrowdedChair_7]
    refine J_iload_n C dX4_mostCrowdedChair_7 rfl 3 rfl ?_
    refine J_aload_n C dX4_mostCrowdedChair_8 rfl 0 rfl ?_
    refine J_geti C fk4_1 W1_48 h0 dX4_mostCrowdedChair_9 ?_
    refine J_icmp_ge (tgt := 102) C dX4_mostCrowdedChair_12 (by decide) (fun _ => ?_) (fun _ => ?_)
    · refine J_iload_n C dX4_mostCrowdedChair_102 rfl 1 rfl ?_
      exact J_iret C RT rfl dX4_mostCrowdedChair_103
    · refine J_aload_n C dX4_mostCrowdedChair_15 rfl 0 rfl ?_
      refine J_iload_n C dX4_mostCrowdedChair_16 rfl 3 rfl ?_
      refine J_if_le (tgt := 26) C dX4_mostCrowdedChair_17 (by decide) (fun _ => ?_) (fun _ => ?_)
      · refine J_aload_n C dX4_mostCrowdedChair_26 rfl 0 rfl ?_
        refine J_geti C fk4_1 W1_48 h0 dX4_mostCrowdedChair_27 ?_
        refine J_iconst C dX4_mostCrowdedChair_30 kci_1 ?_
        refine J_isub C dX4_mostCrowdedChair_31 ?_
        exact b4_mostCrowdedChair_32 C RT n (s4_mostCrowdedChair_7 n o0 f) o0 h0 x1 x2 x3 ((M o0 1) - (1 : Int32)) o0 h0 ih M
      · refine J_iload_n C dX4_mostCrowdedChair_20 rfl 3 rfl ?_
        refine J_iconst C dX4_mostCrowdedChair_21 kci_1 ?_
        refine J_isub C dX4_mostCrowdedChair_22 ?_
        refine J_goto (tgt := 32) C dX4_mostCrowdedChair_23 (by decide) ?_
        exact b4_mostCrowdedChair_32 C RT n (s4_mostCrowdedChair_7 n o0 f) o0 h0 x1 x2 x3 (x3 - (1 : Int32)) o0 h0 ih M
def s4_mostCrowdedChair (n : Nat) (o0 : Nat) (M : Mem) : Option Res := s4_mostCrowdedChair_7 n o0 n (0 : Int32) (2147483647 : Int32) (0 : Int32) M
set_option maxRecDepth 100000 in
set_option maxHeartbeats 4000000 in
theorem b4_mostCrowdedChair {w : WE} {g : GT} (C : CT w g RX4 cX4_mostCrowdedChair rm4_mostCrowdedChair 7) (RT : RTi w g cX4_mostCrowdedChair .int) (n : Nat) (o0 : Nat) (h0 : typ o0 = 4) (M : Mem) : J w g (s4_mostCrowdedChair n o0 M) M 0 [(0, .ref (wa w o0))] [] := by
  rw [s4_mostCrowdedChair]
  refine J_iconst C dX4_mostCrowdedChair_0 kci_0 ?_
  refine J_istore_n (lv' := [(1, .int (0 : Int32)), (0, .ref (wa w o0))]) C dX4_mostCrowdedChair_1 rfl (by decide) rfl ?_
  refine J_ldc C W3_193 dX4_mostCrowdedChair_2 ?_
  refine J_istore_n (lv' := [(2, .int (2147483647 : Int32)), (1, .int (0 : Int32)), (0, .ref (wa w o0))]) C dX4_mostCrowdedChair_4 rfl (by decide) rfl ?_
  refine J_iconst C dX4_mostCrowdedChair_5 kci_0 ?_
  refine J_istore_n (lv' := [(3, .int (0 : Int32)), (2, .int (2147483647 : Int32)), (1, .int (0 : Int32)), (0, .ref (wa w o0))]) C dX4_mostCrowdedChair_6 rfl (by decide) rfl ?_
  refine J_lv [3, 2, 1, 0] rfl ?_
  exact b4_mostCrowdedChair_7 C RT n o0 h0 n (0 : Int32) (2147483647 : Int32) (0 : Int32) M
theorem c4_mostCrowdedChair (l : Launch) (w : WE) (n : Nat) (o0 : Nat) (h0 : typ o0 = 4) (M : Mem) : MC l w yX4_mostCrowdedChair (wz yX4_mostCrowdedChair cX4_mostCrowdedChair 7 (some .int)) rm4_mostCrowdedChair [.ref (wa w o0)] (s4_mostCrowdedChair n o0 M) M :=
  mc_of_J (own := RX4) rfl (by decide) rfl rfl (Nat.le_of_ble_eq_true rfl) (fun _ _ C RT => b4_mostCrowdedChair C RT n o0 h0 M)
theorem hdX4_mostCrowdedChair : yX4_mostCrowdedChair.cls = RX4 ∧ yOK yX4_mostCrowdedChair 0 := ⟨rfl, by decide, by decide, by decide⟩
abbrev rm4_leavingPlace : Room := { frames := 2, cells := 0, slots := 0, locals := 48 }
def s4_leavingPlace (n : Nat) (o0 : Nat) (x1 : Int32) (M : Mem) : Option Res := if x1 = 0 then (cb (s4_placeOfChair o0 (0 : Int32) M) (fun r8 M7 => some (r8, M7))) else (if x1 = (1 : Int32) then (cb (s4_placeOfChair o0 ((M o0 1) - (1 : Int32)) M) (fun r6 M5 => some (r6, M5))) else (cb (s4_mostCrowdedChair n o0 M) (fun r2 M1 => cb (s4_placeOfChair o0 r2 M1) (fun r4 M3 => some (r4, M3)))))
set_option maxRecDepth 100000 in
set_option maxHeartbeats 4000000 in
theorem b4_leavingPlace {w : WE} {g : GT} (C : CT w g RX4 cX4_leavingPlace rm4_leavingPlace 2) (RT : RTi w g cX4_leavingPlace .int) (n : Nat) (o0 : Nat) (h0 : typ o0 = 4) (x1 : Int32) (M : Mem) : J w g (s4_leavingPlace n o0 x1 M) M 0 [(0, .ref (wa w o0)), (1, .int x1)] [] := by
  rw [s4_leavingPlace]
  refine J_iload_n C dX4_leavingPlace_0 rfl 1 rfl ?_
  refine J_if_ne (tgt := 10) C dX4_leavingPlace_1 (by decide) (fun _ => ?_) (fun _ => ?_)
  · refine J_aload_n C dX4_leavingPlace_10 rfl 0 rfl ?_
    refine J_iload_n C dX4_leavingPlace_11 rfl 1 rfl ?_
    refine J_iconst C dX4_leavingPlace_12 kci_1 ?_
    refine J_icmp_ne (tgt := 25) C dX4_leavingPlace_13 (by decide) (fun _ => ?_) (fun _ => ?_)
    · refine J_aload_n C dX4_leavingPlace_25 rfl 0 rfl ?_
      refine J_cvi (As := []) C (c4_mostCrowdedChair (gl g) w n o0 h0 M) (gd_v W3_189 W3_191 WP_18 W1_4 W3_192) rfl (by decide) (hdX4_mostCrowdedChair) h0 (by decide) (cl_4) rfl (Nat.le_of_ble_eq_true rfl) dX4_leavingPlace_26 rfl (fun r2 M1 => ?_)
      refine J_cvi (As := [.int r2]) C (c4_placeOfChair (gl g) w o0 h0 r2 M1) (gd_v W3_179 W3_153 W3_154 W1_4 W3_155) rfl (by decide) (hdX4_placeOfChair) h0 (by decide) (cl_4) rfl (Nat.le_of_ble_eq_true rfl) dX4_leavingPlace_29 rfl (fun r4 M3 => ?_)
      exact J_iret C RT rfl dX4_leavingPlace_32
    · refine J_aload_n C dX4_leavingPlace_16 rfl 0 rfl ?_
      refine J_geti C fk4_1 W1_48 h0 dX4_leavingPlace_17 ?_
      refine J_iconst C dX4_leavingPlace_20 kci_1 ?_
      refine J_isub C dX4_leavingPlace_21 ?_
      refine J_goto (tgt := 29) C dX4_leavingPlace_22 (by decide) ?_
      refine J_cvi (As := [.int ((M o0 1) - (1 : Int32))]) C (c4_placeOfChair (gl g) w o0 h0 ((M o0 1) - (1 : Int32)) M) (gd_v W3_179 W3_153 W3_154 W1_4 W3_155) rfl (by decide) (hdX4_placeOfChair) h0 (by decide) (cl_4) rfl (Nat.le_of_ble_eq_true rfl) dX4_leavingPlace_29 rfl (fun r6 M5 => ?_)
      exact J_iret C RT rfl dX4_leavingPlace_32
  · refine J_aload_n C dX4_leavingPlace_4 rfl 0 rfl ?_
    refine J_iconst C dX4_leavingPlace_5 kci_0 ?_
    refine J_cvi (As := [.int (0 : Int32)]) C (c4_placeOfChair (gl g) w o0 h0 (0 : Int32) M) (gd_v W3_179 W3_153 W3_154 W1_4 W3_155) rfl (by decide) (hdX4_placeOfChair) h0 (by decide) (cl_4) rfl (Nat.le_of_ble_eq_true rfl) dX4_leavingPlace_6 rfl (fun r8 M7 => ?_)
    exact J_iret C RT rfl dX4_leavingPlace_9
theorem c4_leavingPlace (l : Launch) (w : WE) (n : Nat) (o0 : Nat) (h0 : typ o0 = 4) (x1 : Int32) (M : Mem) : MC l w yX4_leavingPlace (wz yX4_leavingPlace cX4_leavingPlace 2 (some .int)) rm4_leavingPlace [.ref (wa w o0), .int x1] (s4_leavingPlace n o0 x1 M) M :=
  mc_of_J (own := RX4) rfl (by decide) rfl rfl (Nat.le_of_ble_eq_true rfl) (fun _ _ C RT => b4_leavingPlace C RT n o0 h0 x1 M)
theorem hdX4_leavingPlace : yX4_leavingPlace.cls = RX4 ∧ yOK yX4_leavingPlace 1 := ⟨rfl, by decide, by decide, by decide⟩
abbrev rm4_takeChair : Room := { frames := 1, cells := 0, slots := 0, locals := 21 }
def s4_takeChair_58 (n : Nat) (o0 : Nat) (x1 : Int32) (x2 : Int32) (M : Mem) : Option Res := mlet (mset M o0 1 x2) (fun M3 => if inB x1 (alen (link o0 3)) then mlet (mset M3 (link o0 3) x1.toNatClampNeg (vp_nar .boolean (0 : Int32))) (fun M4 => some (0, M4)) else none)
set_option maxRecDepth 100000 in
set_option maxHeartbeats 4000000 in
theorem b4_takeChair_58 {w : WE} {g : GT} (C : CT w g RX4 cX4_takeChair rm4_takeChair 4) (RT : RTv w g cX4_takeChair) (n : Nat) (o0 : Nat) (h0 : typ o0 = 4) (x1 : Int32) (x2 : Int32) (M : Mem) : J w g (s4_takeChair_58 n o0 x1 x2 M) M 58 [(0, .ref (wa w o0)), (1, .int x1), (2, .int x2)] [] := by
  rw [s4_takeChair_58]
  refine J_aload_n C dX4_takeChair_58 rfl 0 rfl ?_
  refine J_iload_n C dX4_takeChair_59 rfl 2 rfl ?_
  refine J_puti C fk4_1 W1_48 fp4_1 h0 dX4_takeChair_60 ?_
  refine J_mlet (fun M3 => ?_)
  refine J_aload_n C dX4_takeChair_63 rfl 0 rfl ?_
  refine J_getr C fk4_3 W1_54 h0 dX4_takeChair_64 ?_
  refine J_iload_n C dX4_takeChair_67 rfl 1 rfl ?_
  refine J_iconst C dX4_takeChair_68 kci_0 ?_
  refine J_zastore C (tl_4_3 h0) dX4_takeChair_69 ?_
  refine J_mlet (fun M4 => ?_)
  exact J_vret C RT dX4_takeChair_70
def s4_takeChair_13 (n : Nat) (o0 : Nat) (x1 : Int32) : Nat → Int32 → Int32 → Mem → Option Res
  | 0, _, _, _ => none
  | f + 1, x2, x3, M => if (M o0 1) ≤ x3 then (s4_takeChair_58 n o0 x1 x2 M) else (if (11 : Int32) ≤ x3 then (s4_takeChair_58 n o0 x1 x2 M) else (if inB x3 (alen (link o0 2)) then if (M (link o0 2) x3.toNatClampNeg) = x1 then (ilet (x3 + 1) (fun v5 => s4_takeChair_13 n o0 x1 f x2 v5 M)) else (if inB x3 (alen (link o0 2)) then if inB x2 (alen (link o0 2)) then mlet (mset M (link o0 2) x2.toNatClampNeg (M (link o0 2) x3.toNatClampNeg)) (fun M6 => ilet (x2 + 1) (fun v7 => ilet (x3 + 1) (fun v8 => s4_takeChair_13 n o0 x1 f v7 v8 M6))) else none else none) else none))
set_option maxRecDepth 100000 in
set_option maxHeartbeats 4000000 in
theorem b4_takeChair_13 {w : WE} {g : GT} (C : CT w g RX4 cX4_takeChair rm4_takeChair 4) (RT : RTv w g cX4_takeChair) (n : Nat) (o0 : Nat) (h0 : typ o0 = 4) (x1 : Int32) : ∀ (f : Nat) (x2 : Int32) (x3 : Int32) (M : Mem), J w g (s4_takeChair_13 n o0 x1 f x2 x3 M) M 13 [(0, .ref (wa w o0)), (1, .int x1), (2, .int x2), (3, .int x3)] [] := by
  intro f
  induction f with
  | zero =>
    intro x2 x3 M
    rw [s4_takeChair_13]
    exact J_none
  | succ f ih =>
    intro x2 x3 M
    rw [s4_takeChair_13]
    refine J_iload_n C dX4_takeChair_13 rfl 3 rfl ?_
    refine J_aload_n C dX4_takeChair_14 rfl 0 rfl ?_
    refine J_geti C fk4_1 W1_48 h0 dX4_takeChair_15 ?_
    refine J_icmp_ge (tgt := 58) C dX4_takeChair_18 (by decide) (fun _ => ?_) (fun _ => ?_)
    · refine J_lv [0, 1, 2] rfl ?_
      exact b4_takeChair_58 C RT n o0 h0 x1 x2 M
    · refine J_iload_n C dX4_takeChair_21 rfl 3 rfl ?_
      refine J_bipush C dX4_takeChair_22 kcb_11 ?_
      refine J_icmp_ge (tgt := 58) C dX4_takeChair_24 (by decide) (fun _ => ?_) (fun _ => ?_)
      · refine J_lv [0, 1, 2] rfl ?_
        exact b4_takeChair_58 C RT n o0 h0 x1 x2 M
      · refine J_aload_n C dX4_takeChair_27 rfl 0 rfl ?_
        refine J_getr C fk4_2 W1_53 h0 dX4_takeChair_28 ?_
        refine J_iload_n C dX4_takeChair_31 rfl 3 rfl ?_
        refine J_aload_ C (tl_4_2 h0) dX4_takeChair_32 ?_
        refine J_iload_n C dX4_takeChair_33 rfl 1 rfl ?_
        refine J_icmp_eq (tgt := 52) C dX4_takeChair_34 (by decide) (fun _ => ?_) (fun _ => ?_)
        · refine J_iinc (lw := fun v5 => [(3, .int v5), (0, .ref (wa w o0)), (1, .int x1), (2, .int x2)]) (X := x3 + 1) C dX4_takeChair_52 (q := 3) rfl (by rw [kci_1]) (by decide) (fun _ => rfl) (fun v5 => ?_)
          refine J_goto (tgt := 13) C dX4_takeChair_55 (by decide) ?_
          refine J_lv [1, 2, 3, 0] rfl ?_
          exact ih x2 v5 M
        · refine J_aload_n C dX4_takeChair_37 rfl 0 rfl ?_
          refine J_getr C fk4_2 W1_53 h0 dX4_takeChair_38 ?_
          refine J_iload_n C dX4_takeChair_41 rfl 2 rfl ?_
          refine J_aload_n C dX4_takeChair_42 rfl 0 rfl ?_
          refine J_getr C fk4_2 W1_53 h0 dX4_takeChair_43 ?_
          refine J_iload_n C dX4_takeChair_46 rfl 3 rfl ?_
          refine J_aload_ C (tl_4_2 h0) dX4_takeChair_47 ?_
          refine J_iastore C (tl_4_2 h0) dX4_takeChair_48 ?_
          refine J_mlet (fun M6 => ?_)
          refine J_iinc (lw := fun v7 => [(2, .int v7), (0, .ref (wa w o0)), (1, .int x1), (3, .int x3)]) (X := x2 + 1) C dX4_takeChair_49 (q := 2) rfl (by rw [kci_1]) (by decide) (fun _ => rfl) (fun v7 => ?_)
          refine J_iinc (lw := fun v8 => [(3, .int v8), (2, .int v7), (0, .ref (wa w o0)), (1, .int x1)]) (X := x3 + 1) C dX4_takeChair_52 (q := 3) rfl (by rw [kci_1]) (by decide) (fun _ => rfl) (fun v8 => ?_)
          refine J_goto (tgt := 13) C dX4_takeChair_55 (by decide) ?_
          refine J_lv [2, 3, 1, 0] rfl ?_
          exact ih v7 v8 M6
def s4_takeChair (n : Nat) (o0 : Nat) (x1 : Int32) (M : Mem) : Option Res := cb (s4_hasChair o0 x1 M) (fun r2 M1 => if r2 = 0 then (some (0, M1)) else (s4_takeChair_13 n o0 x1 n (0 : Int32) (0 : Int32) M1))
set_option maxRecDepth 100000 in
set_option maxHeartbeats 4000000 in
theorem b4_takeChair {w : WE} {g : GT} (C : CT w g RX4 cX4_takeChair rm4_takeChair 4) (RT : RTv w g cX4_takeChair) (n : Nat) (o0 : Nat) (h0 : typ o0 = 4) (x1 : Int32) (M : Mem) : J w g (s4_takeChair n o0 x1 M) M 0 [(0, .ref (wa w o0)), (1, .int x1)] [] := by
  rw [s4_takeChair]
  refine J_aload_n C dX4_takeChair_0 rfl 0 rfl ?_
  refine J_iload_n C dX4_takeChair_1 rfl 1 rfl ?_
  refine J_cvi (As := [.int x1]) C (c4_hasChair (gl g) w o0 h0 x1 M) (gd_v W3_202 W2_218 W2_219 W1_4 W2_220) rfl (by decide) (hdX4_hasChair) h0 (by decide) (cl_4) rfl (Nat.le_of_ble_eq_true rfl) dX4_takeChair_2 rfl (fun r2 M1 => ?_)
  refine J_if_ne (tgt := 9) C dX4_takeChair_5 (by decide) (fun _ => ?_) (fun _ => ?_)
  · refine J_iconst C dX4_takeChair_9 kci_0 ?_
    refine J_istore_n (lv' := [(2, .int (0 : Int32)), (0, .ref (wa w o0)), (1, .int x1)]) C dX4_takeChair_10 rfl (by decide) rfl ?_
    refine J_iconst C dX4_takeChair_11 kci_0 ?_
    refine J_istore_n (lv' := [(3, .int (0 : Int32)), (2, .int (0 : Int32)), (0, .ref (wa w o0)), (1, .int x1)]) C dX4_takeChair_12 rfl (by decide) rfl ?_
    refine J_lv [2, 3, 1, 0] rfl ?_
    exact b4_takeChair_13 C RT n o0 h0 x1 n (0 : Int32) (0 : Int32) M1
  · exact J_vret C RT dX4_takeChair_8
theorem c4_takeChair (l : Launch) (w : WE) (n : Nat) (o0 : Nat) (h0 : typ o0 = 4) (x1 : Int32) (M : Mem) : MV l w yX4_takeChair (wz yX4_takeChair cX4_takeChair 4 none) rm4_takeChair [.ref (wa w o0), .int x1] (s4_takeChair n o0 x1 M) M :=
  mv_of_J (own := RX4) rfl (by decide) rfl rfl (Nat.le_of_ble_eq_true rfl) (fun _ _ C RT => b4_takeChair C RT n o0 h0 x1 M)
theorem hdX4_takeChair : yX4_takeChair.cls = RX4 ∧ yOK yX4_takeChair 1 := ⟨rfl, by decide, by decide, by decide⟩
abbrev rm2_knows : Room := { frames := 0, cells := 0, slots := 0, locals := 0 }
def s2_knows (o0 : Nat) (x1 : Int32) (M : Mem) : Option Res := if x1 < 0 then (some ((0 : Int32), M)) else (if (M o0 5) ≤ x1 then (some ((0 : Int32), M)) else (if (12 : Int32) ≤ x1 then (some ((0 : Int32), M)) else (some ((1 : Int32), M))))
set_option maxRecDepth 100000 in
set_option maxHeartbeats 4000000 in
theorem b2_knows {w : WE} {g : GT} (C : CT w g RX2 cX2_knows rm2_knows 2) (RT : RTi w g cX2_knows .boolean) (o0 : Nat) (h0 : typ o0 = 2) (x1 : Int32) (M : Mem) : J w g (s2_knows o0 x1 M) M 0 [(0, .ref (wa w o0)), (1, .int x1)] [] := by
  rw [s2_knows]
  refine J_iload_n C dX2_knows_0 rfl 1 rfl ?_
  refine J_if_lt (tgt := 22) C dX2_knows_1 (by decide) (fun _ => ?_) (fun _ => ?_)
  · refine J_iconst C dX2_knows_22 kci_0 ?_
    exact J_iret C RT (by decide) dX2_knows_23
  · refine J_iload_n C dX2_knows_4 rfl 1 rfl ?_
    refine J_aload_n C dX2_knows_5 rfl 0 rfl ?_
    refine J_geti C fk2_5 W1_179 h0 dX2_knows_6 ?_
    refine J_icmp_ge (tgt := 22) C dX2_knows_9 (by decide) (fun _ => ?_) (fun _ => ?_)
    · refine J_iconst C dX2_knows_22 kci_0 ?_
      exact J_iret C RT (by decide) dX2_knows_23
    · refine J_iload_n C dX2_knows_12 rfl 1 rfl ?_
      refine J_bipush C dX2_knows_13 kcb_12 ?_
      refine J_icmp_ge (tgt := 22) C dX2_knows_15 (by decide) (fun _ => ?_) (fun _ => ?_)
      · refine J_iconst C dX2_knows_22 kci_0 ?_
        exact J_iret C RT (by decide) dX2_knows_23
      · refine J_iconst C dX2_knows_18 kci_1 ?_
        refine J_goto (tgt := 23) C dX2_knows_19 (by decide) ?_
        exact J_iret C RT (by decide) dX2_knows_23
theorem c2_knows (l : Launch) (w : WE) (o0 : Nat) (h0 : typ o0 = 2) (x1 : Int32) (M : Mem) : MC l w yX2_knows (wz yX2_knows cX2_knows 2 (some .boolean)) rm2_knows [.ref (wa w o0), .int x1] (s2_knows o0 x1 M) M :=
  mc_of_J (own := RX2) rfl (by decide) rfl rfl (Nat.le_of_ble_eq_true rfl) (fun _ _ C RT => b2_knows C RT o0 h0 x1 M)
theorem hdX2_knows : yX2_knows.cls = RX2 ∧ yOK yX2_knows 1 := ⟨rfl, by decide, by decide, by decide⟩
abbrev rm2_countIn : Room := { frames := 1, cells := 0, slots := 0, locals := 21 }
def s2_countIn_4 (n : Nat) (o0 : Nat) : Nat → Int32 → Int32 → Mem → Option Res
  | 0, _, _, _ => none
  | f + 1, x1, x2, M => if (M o0 5) ≤ x2 then (some (x1, M)) else (cb (s2_knowsIn o0 x2 M) (fun r2 M1 => if r2 = 0 then (ilet (x2 + 1) (fun v3 => s2_countIn_4 n o0 f x1 v3 M1)) else (ilet (x1 + 1) (fun v4 => ilet (x2 + 1) (fun v5 => s2_countIn_4 n o0 f v4 v5 M1)))))
set_option maxRecDepth 100000 in
set_option maxHeartbeats 4000000 in
theorem b2_countIn_4 {w : WE} {g : GT} (C : CT w g RX2 cX2_countIn rm2_countIn 3) (RT : RTi w g cX2_countIn .int) (n : Nat) (o0 : Nat) (h0 : typ o0 = 2) : ∀ (f : Nat) (x1 : Int32) (x2 : Int32) (M : Mem), J w g (s2_countIn_4 n o0 f x1 x2 M) M 4 [(0, .ref (wa w o0)), (1, .int x1), (2, .int x2)] [] := by
  intro f
  induction f with
  | zero =>
    intro x1 x2 M
    rw [s2_countIn_4]
    exact J_none
  | succ f ih =>
    intro x1 x2 M
    rw [s2_countIn_4]
    refine J_iload_n C dX2_countIn_4 rfl 2 rfl ?_
    refine J_aload_n C dX2_countIn_5 rfl 0 rfl ?_
    refine J_geti C fk2_5 W1_179 h0 dX2_countIn_6 ?_
    refine J_icmp_ge (tgt := 29) C dX2_countIn_9 (by decide) (fun _ => ?_) (fun _ => ?_)
    · refine J_iload_n C dX2_countIn_29 rfl 1 rfl ?_
      exact J_iret C RT rfl dX2_countIn_30
    · refine J_aload_n C dX2_countIn_12 rfl 0 rfl ?_
      refine J_iload_n C dX2_countIn_13 rfl 2 rfl ?_
      refine J_cvi (As := [.int x2]) C (c2_knowsIn (gl g) w o0 h0 x2 M) (gd_v W3_109 W3_110 W3_111 W1_3 W3_112) rfl (by decide) (hdX2_knowsIn) h0 (by decide) (cl_2) rfl (Nat.le_of_ble_eq_true rfl) dX2_countIn_14 rfl (fun r2 M1 => ?_)
      refine J_if_eq (tgt := 23) C dX2_countIn_17 (by decide) (fun _ => ?_) (fun _ => ?_)
      · refine J_iinc (lw := fun v3 => [(2, .int v3), (0, .ref (wa w o0)), (1, .int x1)]) (X := x2 + 1) C dX2_countIn_23 (q := 2) rfl (by rw [kci_1]) (by decide) (fun _ => rfl) (fun v3 => ?_)
        refine J_goto (tgt := 4) C dX2_countIn_26 (by decide) ?_
        refine J_lv [1, 2, 0] rfl ?_
        exact ih x1 v3 M1
      · refine J_iinc (lw := fun v4 => [(1, .int v4), (0, .ref (wa w o0)), (2, .int x2)]) (X := x1 + 1) C dX2_countIn_20 (q := 1) rfl (by rw [kci_1]) (by decide) (fun _ => rfl) (fun v4 => ?_)
        refine J_iinc (lw := fun v5 => [(2, .int v5), (1, .int v4), (0, .ref (wa w o0))]) (X := x2 + 1) C dX2_countIn_23 (q := 2) rfl (by rw [kci_1]) (by decide) (fun _ => rfl) (fun v5 => ?_)
        refine J_goto (tgt := 4) C dX2_countIn_26 (by decide) ?_
        refine J_lv [2, 1, 0] rfl ?_
        exact ih v4 v5 M1
def s2_countIn (n : Nat) (o0 : Nat) (M : Mem) : Option Res := s2_countIn_4 n o0 n (0 : Int32) (0 : Int32) M
set_option maxRecDepth 100000 in
set_option maxHeartbeats 4000000 in
theorem b2_countIn {w : WE} {g : GT} (C : CT w g RX2 cX2_countIn rm2_countIn 3) (RT : RTi w g cX2_countIn .int) (n : Nat) (o0 : Nat) (h0 : typ o0 = 2) (M : Mem) : J w g (s2_countIn n o0 M) M 0 [(0, .ref (wa w o0))] [] := by
  rw [s2_countIn]
  refine J_iconst C dX2_countIn_0 kci_0 ?_
  refine J_istore_n (lv' := [(1, .int (0 : Int32)), (0, .ref (wa w o0))]) C dX2_countIn_1 rfl (by decide) rfl ?_
  refine J_iconst C dX2_countIn_2 kci_0 ?_
  refine J_istore_n (lv' := [(2, .int (0 : Int32)), (1, .int (0 : Int32)), (0, .ref (wa w o0))]) C dX2_countIn_3 rfl (by decide) rfl ?_
  refine J_lv [2, 1, 0] rfl ?_
  exact b2_countIn_4 C RT n o0 h0 n (0 : Int32) (0 : Int32) M
theorem c2_countIn (l : Launch) (w : WE) (n : Nat) (o0 : Nat) (h0 : typ o0 = 2) (M : Mem) : MC l w yX2_countIn (wz yX2_countIn cX2_countIn 3 (some .int)) rm2_countIn [.ref (wa w o0)] (s2_countIn n o0 M) M :=
  mc_of_J (own := RX2) rfl (by decide) rfl rfl (Nat.le_of_ble_eq_true rfl) (fun _ _ C RT => b2_countIn C RT n o0 h0 M)
theorem hdX2_countIn : yX2_countIn.cls = RX2 ∧ yOK yX2_countIn 0 := ⟨rfl, by decide, by decide, by decide⟩
abbrev rm2_endRound : Room := { frames := 3, cells := 0, slots := 0, locals := 72 }
def s2_endRound_71 (n : Nat) (o0 : Nat) (x1 : Int32) (M : Mem) : Option Res := mlet (mset M o0 7 (0 : Int32)) (fun M9 => mlet (mset M9 o0 8 ((M9 o0 8) + (1 : Int32))) (fun M10 => if x1 < 0 then (mlet (mset M10 o0 9 (1 : Int32)) (fun M11 => some (x1, M11))) else (cb (s2_countIn n o0 M10) (fun r13 M12 => if (1 : Int32) < r13 then (mlet (mset M12 o0 9 (0 : Int32)) (fun M14 => some (x1, M14))) else (mlet (mset M12 o0 9 (1 : Int32)) (fun M15 => some (x1, M15)))))))
set_option maxRecDepth 100000 in
set_option maxHeartbeats 4000000 in
theorem b2_endRound_71 {w : WE} {g : GT} (C : CT w g RX2 cX2_endRound rm2_endRound 2) (RT : RTi w g cX2_endRound .int) (n : Nat) (o0 : Nat) (h0 : typ o0 = 2) (x1 : Int32) (M : Mem) : J w g (s2_endRound_71 n o0 x1 M) M 71 [(0, .ref (wa w o0)), (1, .int x1)] [] := by
  rw [s2_endRound_71]
  refine J_aload_n C dX2_endRound_71 rfl 0 rfl ?_
  refine J_iconst C dX2_endRound_72 kci_0 ?_
  refine J_puti C fk2_7 W1_187 fp2_7 h0 dX2_endRound_73 ?_
  refine J_mlet (fun M9 => ?_)
  refine J_aload_n C dX2_endRound_76 rfl 0 rfl ?_
  refine J_dup C rfl dX2_endRound_77 ?_
  refine J_geti C fk2_8 W1_189 h0 dX2_endRound_78 ?_
  refine J_iconst C dX2_endRound_81 kci_1 ?_
  refine J_iadd C dX2_endRound_82 ?_
  refine J_puti C fk2_8 W1_189 fp2_8 h0 dX2_endRound_83 ?_
  refine J_mlet (fun M10 => ?_)
  refine J_aload_n C dX2_endRound_86 rfl 0 rfl ?_
  refine J_iload_n C dX2_endRound_87 rfl 1 rfl ?_
  refine J_if_lt (tgt := 99) C dX2_endRound_88 (by decide) (fun _ => ?_) (fun _ => ?_)
  · refine J_iconst C dX2_endRound_99 kci_1 ?_
    refine J_goto (tgt := 104) C dX2_endRound_100 (by decide) ?_
    refine J_putzc C (by decide) fk2_9 W1_191 fp2_9 h0 dX2_endRound_104 ?_
    refine J_mlet (fun M11 => ?_)
    refine J_iload_n C dX2_endRound_107 rfl 1 rfl ?_
    exact J_iret C RT rfl dX2_endRound_108
  · refine J_aload_n C dX2_endRound_91 rfl 0 rfl ?_
    refine J_cvi (As := []) C (c2_countIn (gl g) w n o0 h0 M10) (gd_v W3_105 W3_106 W3_107 W1_3 W3_108) rfl (by decide) (hdX2_countIn) h0 (by decide) (cl_2) rfl (Nat.le_of_ble_eq_true rfl) dX2_endRound_92 rfl (fun r13 M12 => ?_)
    refine J_iconst C dX2_endRound_95 kci_1 ?_
    refine J_icmp_gt (tgt := 103) C dX2_endRound_96 (by decide) (fun _ => ?_) (fun _ => ?_)
    · refine J_iconst C dX2_endRound_103 kci_0 ?_
      refine J_putzc C (by decide) fk2_9 W1_191 fp2_9 h0 dX2_endRound_104 ?_
      refine J_mlet (fun M14 => ?_)
      refine J_iload_n C dX2_endRound_107 rfl 1 rfl ?_
      exact J_iret C RT rfl dX2_endRound_108
    · refine J_iconst C dX2_endRound_99 kci_1 ?_
      refine J_goto (tgt := 104) C dX2_endRound_100 (by decide) ?_
      refine J_putzc C (by decide) fk2_9 W1_191 fp2_9 h0 dX2_endRound_104 ?_
      refine J_mlet (fun M15 => ?_)
      refine J_iload_n C dX2_endRound_107 rfl 1 rfl ?_
      exact J_iret C RT rfl dX2_endRound_108
def s2_endRound_39 (n : Nat) (o0 : Nat) (x1 : Int32) (M : Mem) : Option Res := cb (s2_knows o0 x1 M) (fun r8 M7 => if r8 = 0 then (s2_endRound_71 n o0 x1 M7) else (if inB x1 (alen (link o0 3)) then mlet (mset M7 (link (link o0 3) x1.toNatClampNeg) 2 (0 : Int32)) (fun M17 => if inB x1 (alen (link o0 3)) then cb (s2_mark o0 (M17 (link (link o0 3) x1.toNatClampNeg) 0) (0 : Int32) M17) (fun _ M19 => s2_endRound_71 n o0 x1 M19) else none) else none))
set_option maxRecDepth 100000 in
set_option maxHeartbeats 4000000 in
theorem b2_endRound_39 {w : WE} {g : GT} (C : CT w g RX2 cX2_endRound rm2_endRound 2) (RT : RTi w g cX2_endRound .int) (n : Nat) (o0 : Nat) (h0 : typ o0 = 2) (x1 : Int32) (M : Mem) : J w g (s2_endRound_39 n o0 x1 M) M 39 [(0, .ref (wa w o0)), (1, .int x1)] [] := by
  rw [s2_endRound_39]
  refine J_aload_n C dX2_endRound_39 rfl 0 rfl ?_
  refine J_iload_n C dX2_endRound_40 rfl 1 rfl ?_
  refine J_cvi (As := [.int x1]) C (c2_knows (gl g) w o0 h0 x1 M) (gd_v W3_203 W3_44 W3_45 W1_3 W3_46) rfl (by decide) (hdX2_knows) h0 (by decide) (cl_2) rfl (Nat.le_of_ble_eq_true rfl) dX2_endRound_41 rfl (fun r8 M7 => ?_)
  refine J_if_eq (tgt := 71) C dX2_endRound_44 (by decide) (fun _ => ?_) (fun _ => ?_)
  · exact b2_endRound_71 C RT n o0 h0 x1 M7
  · refine J_aload_n C dX2_endRound_47 rfl 0 rfl ?_
    refine J_getr C fk2_3 W1_174 h0 dX2_endRound_48 ?_
    refine J_iload_n C dX2_endRound_51 rfl 1 rfl ?_
    refine J_aaload C (tl_2_3 h0) dX2_endRound_52 (fun hb16 => ?_)
    refine J_iconst C dX2_endRound_53 kci_0 ?_
    refine J_putzc C (by decide) fk7_2 W1_128 fp7_2 (t_wk (tl_2_3 h0) hb16) dX2_endRound_54 ?_
    refine J_mlet (fun M17 => ?_)
    refine J_aload_n C dX2_endRound_57 rfl 0 rfl ?_
    refine J_aload_n C dX2_endRound_58 rfl 0 rfl ?_
    refine J_getr C fk2_3 W1_174 h0 dX2_endRound_59 ?_
    refine J_iload_n C dX2_endRound_62 rfl 1 rfl ?_
    refine J_aaload C (tl_2_3 h0) dX2_endRound_63 (fun hb18 => ?_)
    refine J_geti C fk7_0 W1_124 (t_wk (tl_2_3 h0) hb18) dX2_endRound_64 ?_
    refine J_iconst C dX2_endRound_67 kci_0 ?_
    refine J_cvv (As := [.int (M17 (link (link o0 3) x1.toNatClampNeg) 0), .int (0 : Int32)]) C (c2_mark (gl g) w o0 h0 (M17 (link (link o0 3) x1.toNatClampNeg) 0) (0 : Int32) M17) (gd_v W3_10 W3_12 WP_10 W1_3 W3_13) rfl (by decide) (hdX2_mark) h0 (by decide) (cl_2) rfl (Nat.le_of_ble_eq_true rfl) dX2_endRound_68 rfl (fun r20 M19 => ?_)
    exact b2_endRound_71 C RT n o0 h0 x1 M19
def s2_endRound (n : Nat) (o0 : Nat) (M : Mem) : Option Res := cb (s5_seatAll n (link o0 2) o0 M) (fun _ M1 => cb (s2_whoGoes n o0 M1) (fun r4 M3 => cb (s2_losesChair o0 r4 M3) (fun r6 M5 => if r6 = 0 then (s2_endRound_39 n o0 r4 M5) else (cb (s4_leavingPlace n (link o0 0) (M5 o0 6) M5) (fun r22 M21 => cb (s4_takeChair n (link o0 0) r22 M21) (fun _ M23 => s2_endRound_39 n o0 r4 M23))))))
set_option maxRecDepth 100000 in
set_option maxHeartbeats 4000000 in
theorem b2_endRound {w : WE} {g : GT} (C : CT w g RX2 cX2_endRound rm2_endRound 2) (RT : RTi w g cX2_endRound .int) (n : Nat) (o0 : Nat) (h0 : typ o0 = 2) (M : Mem) : J w g (s2_endRound n o0 M) M 0 [(0, .ref (wa w o0))] [] := by
  rw [s2_endRound]
  refine J_aload_n C dX2_endRound_0 rfl 0 rfl ?_
  refine J_getr C fk2_2 W1_171 h0 dX2_endRound_1 ?_
  refine J_aload_n C dX2_endRound_4 rfl 0 rfl ?_
  refine J_cvv (As := [.ref (wa w o0)]) C (c5_seatAll (gl g) w n (link o0 2) (tl_2_2 h0) o0 h0 M) (gd_v W3_144 W3_145 W3_146 W1_6 W3_147) rfl (by decide) (hdX5_seatAll) (tl_2_2 h0) (by decide) (cl_5) rfl (Nat.le_of_ble_eq_true rfl) dX2_endRound_5 rfl (fun r2 M1 => ?_)
  refine J_aload_n C dX2_endRound_8 rfl 0 rfl ?_
  refine J_cvi (As := []) C (c2_whoGoes (gl g) w n o0 h0 M1) (gd_v W3_167 W3_168 W3_169 W1_3 W3_170) rfl (by decide) (hdX2_whoGoes) h0 (by decide) (cl_2) rfl (Nat.le_of_ble_eq_true rfl) dX2_endRound_9 rfl (fun r4 M3 => ?_)
  refine J_istore_n (lv' := [(1, .int r4), (0, .ref (wa w o0))]) C dX2_endRound_12 rfl (by decide) rfl ?_
  refine J_aload_n C dX2_endRound_13 rfl 1 rfl ?_
  refine J_iload_n C dX2_endRound_14 rfl 0 rfl ?_
  refine J_cvi (As := [.int r4]) C (c2_losesChair (gl g) w o0 h0 r4 M3) (gd_v W3_181 W3_182 W3_183 W1_3 W3_184) rfl (by decide) (hdX2_losesChair) h0 (by decide) (cl_2) rfl (Nat.le_of_ble_eq_true rfl) dX2_endRound_15 rfl (fun r6 M5 => ?_)
  refine J_if_eq (tgt := 39) C dX2_endRound_18 (by decide) (fun _ => ?_) (fun _ => ?_)
  · refine J_lv [1, 0] rfl ?_
    exact b2_endRound_39 C RT n o0 h0 r4 M5
  · refine J_aload_n C dX2_endRound_21 rfl 1 rfl ?_
    refine J_getr C fk2_0 W1_162 h0 dX2_endRound_22 ?_
    refine J_aload_n C dX2_endRound_25 rfl 1 rfl ?_
    refine J_getr C fk2_0 W1_162 h0 dX2_endRound_26 ?_
    refine J_aload_n C dX2_endRound_29 rfl 1 rfl ?_
    refine J_geti C fk2_6 W1_183 h0 dX2_endRound_30 ?_
    refine J_cvi (As := [.int (M5 o0 6)]) C (c4_leavingPlace (gl g) w n (link o0 0) (tl_2_0 h0) (M5 o0 6) M5) (gd_v W3_185 W3_186 W3_187 W1_4 W3_188) rfl (by decide) (hdX4_leavingPlace) (tl_2_0 h0) (by decide) (cl_4) rfl (Nat.le_of_ble_eq_true rfl) dX2_endRound_33 rfl (fun r22 M21 => ?_)
    refine J_cvv (As := [.int r22]) C (c4_takeChair (gl g) w n (link o0 0) (tl_2_0 h0) r22 M21) (gd_v W3_198 W3_199 W3_200 W1_4 W3_201) rfl (by decide) (hdX4_takeChair) (tl_2_0 h0) (by decide) (cl_4) rfl (Nat.le_of_ble_eq_true rfl) dX2_endRound_36 rfl (fun r24 M23 => ?_)
    refine J_lv [1, 0] rfl ?_
    exact b2_endRound_39 C RT n o0 h0 r4 M23
theorem c2_endRound (l : Launch) (w : WE) (n : Nat) (o0 : Nat) (h0 : typ o0 = 2) (M : Mem) : MC l w yX2_endRound (wz yX2_endRound cX2_endRound 2 (some .int)) rm2_endRound [.ref (wa w o0)] (s2_endRound n o0 M) M :=
  mc_of_J (own := RX2) rfl (by decide) rfl rfl (Nat.le_of_ble_eq_true rfl) (fun _ _ C RT => b2_endRound C RT n o0 h0 M)
theorem hdX2_endRound : yX2_endRound.cls = RX2 ∧ yOK yX2_endRound 0 := ⟨rfl, by decide, by decide, by decide⟩
