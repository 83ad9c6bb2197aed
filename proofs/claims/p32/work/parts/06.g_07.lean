abbrev rm3_couldStop : Room := { frames := 0, cells := 0, slots := 0, locals := 0 }
def s3_couldStop (o0 : Nat) (x1 : Int32) (x2 : Int32) (M : Mem) : Option Res := if x1 = 0 then (some ((1 : Int32), M)) else (if x1 = 1 then (if (x2 - x2 / (8 : Int32) * (8 : Int32)) = 0 then (some ((1 : Int32), M)) else (if x2 = (300 : Int32) then (some ((1 : Int32), M)) else (some ((0 : Int32), M)))) else (if x1 = 2 then (if (M o0 1) ≤ x2 then (some ((1 : Int32), M)) else (if x2 = (300 : Int32) then (some ((1 : Int32), M)) else (some ((0 : Int32), M)))) else (if x1 = 3 then (some ((1 : Int32), M)) else (if x2 = (M o0 1) then (some ((1 : Int32), M)) else (some ((0 : Int32), M))))))
set_option maxRecDepth 100000 in
set_option maxHeartbeats 4000000 in
theorem b3_couldStop {w : WE} {g : GT} (C : CT w g RX3 cX3_couldStop rm3_couldStop 3) (RT : RTi w g cX3_couldStop .boolean) (o0 : Nat) (h0 : typ o0 = 3) (x1 : Int32) (x2 : Int32) (M : Mem) : J w g (s3_couldStop o0 x1 x2 M) M 0 [(0, .ref (wa w o0)), (1, .int x1), (2, .int x2)] [] := by
  rw [s3_couldStop]
  refine J_iload_n C dX3_couldStop_0 rfl 1 rfl ?_
  refine J_ite (fun hc0 => ?_) (fun hc0 => ?_)
  · refine J_tsin (tgt := 32) C dX3_couldStop_1 (by rw [hc0]; decide) (by rw [hc0]; decide) (off := 31) (by rw [hc0]; rfl) (by decide) ?_
    refine J_iconst C dX3_couldStop_32 kci_1 ?_
    exact J_iret C RT (by decide) dX3_couldStop_33
  · refine J_ite (fun hc1 => ?_) (fun hc1 => ?_)
    · refine J_tsin (tgt := 34) C dX3_couldStop_1 (by rw [hc1]; decide) (by rw [hc1]; decide) (off := 33) (by rw [hc1]; rfl) (by decide) ?_
      refine J_iload_n C dX3_couldStop_34 rfl 2 rfl ?_
      refine J_bipush C dX3_couldStop_35 kcb_8 ?_
      refine J_irem_c C (by decide) dX3_couldStop_37 ?_
      refine J_if_eq (tgt := 48) C dX3_couldStop_38 (by decide) (fun _ => ?_) (fun _ => ?_)
      · refine J_iconst C dX3_couldStop_48 kci_1 ?_
        refine J_goto (tgt := 53) C dX3_couldStop_49 (by decide) ?_
        exact J_iret C RT (by decide) dX3_couldStop_53
      · refine J_iload_n C dX3_couldStop_41 rfl 2 rfl ?_
        refine J_sipush C dX3_couldStop_42 kcs_300 ?_
        refine J_icmp_ne (tgt := 52) C dX3_couldStop_45 (by decide) (fun _ => ?_) (fun _ => ?_)
        · refine J_iconst C dX3_couldStop_52 kci_0 ?_
          exact J_iret C RT (by decide) dX3_couldStop_53
        · refine J_iconst C dX3_couldStop_48 kci_1 ?_
          refine J_goto (tgt := 53) C dX3_couldStop_49 (by decide) ?_
          exact J_iret C RT (by decide) dX3_couldStop_53
    · refine J_ite (fun hc2 => ?_) (fun hc2 => ?_)
      · refine J_tsin (tgt := 54) C dX3_couldStop_1 (by rw [hc2]; decide) (by rw [hc2]; decide) (off := 53) (by rw [hc2]; rfl) (by decide) ?_
        refine J_iload_n C dX3_couldStop_54 rfl 2 rfl ?_
        refine J_aload_n C dX3_couldStop_55 rfl 0 rfl ?_
        refine J_geti C fk3_1 W1_77 h0 dX3_couldStop_56 ?_
        refine J_icmp_ge (tgt := 69) C dX3_couldStop_59 (by decide) (fun _ => ?_) (fun _ => ?_)
        · refine J_iconst C dX3_couldStop_69 kci_1 ?_
          refine J_goto (tgt := 74) C dX3_couldStop_70 (by decide) ?_
          exact J_iret C RT (by decide) dX3_couldStop_74
        · refine J_iload_n C dX3_couldStop_62 rfl 2 rfl ?_
          refine J_sipush C dX3_couldStop_63 kcs_300 ?_
          refine J_icmp_ne (tgt := 73) C dX3_couldStop_66 (by decide) (fun _ => ?_) (fun _ => ?_)
          · refine J_iconst C dX3_couldStop_73 kci_0 ?_
            exact J_iret C RT (by decide) dX3_couldStop_74
          · refine J_iconst C dX3_couldStop_69 kci_1 ?_
            refine J_goto (tgt := 74) C dX3_couldStop_70 (by decide) ?_
            exact J_iret C RT (by decide) dX3_couldStop_74
      · refine J_ite (fun hc3 => ?_) (fun hc3 => ?_)
        · refine J_tsin (tgt := 75) C dX3_couldStop_1 (by rw [hc3]; decide) (by rw [hc3]; decide) (off := 74) (by rw [hc3]; rfl) (by decide) ?_
          refine J_iconst C dX3_couldStop_75 kci_1 ?_
          exact J_iret C RT (by decide) dX3_couldStop_76
        · refine J_tsout (tgt := 77) C dX3_couldStop_1 (by have q0 := lv_neT hc0 (a := 0) rfl; have q1 := lv_neT hc1 (a := 1) rfl; have q2 := lv_neT hc2 (a := 2) rfl; have q3 := lv_neT hc3 (a := 3) rfl; omega) (by decide) ?_
          refine J_iload_n C dX3_couldStop_77 rfl 2 rfl ?_
          refine J_aload_n C dX3_couldStop_78 rfl 0 rfl ?_
          refine J_geti C fk3_1 W1_77 h0 dX3_couldStop_79 ?_
          refine J_icmp_ne (tgt := 89) C dX3_couldStop_82 (by decide) (fun _ => ?_) (fun _ => ?_)
          · refine J_iconst C dX3_couldStop_89 kci_0 ?_
            exact J_iret C RT (by decide) dX3_couldStop_90
          · refine J_iconst C dX3_couldStop_85 kci_1 ?_
            refine J_goto (tgt := 90) C dX3_couldStop_86 (by decide) ?_
            exact J_iret C RT (by decide) dX3_couldStop_90
theorem c3_couldStop (l : Launch) (w : WE) (o0 : Nat) (h0 : typ o0 = 3) (x1 : Int32) (x2 : Int32) (M : Mem) : MC l w yX3_couldStop (wz yX3_couldStop cX3_couldStop 3 (some .boolean)) rm3_couldStop [.ref (wa w o0), .int x1, .int x2] (s3_couldStop o0 x1 x2 M) M :=
  mc_of_J (own := RX3) rfl (by decide) rfl rfl (Nat.le_of_ble_eq_true rfl) (fun _ _ C RT => b3_couldStop C RT o0 h0 x1 x2 M)
theorem hdX3_couldStop : yX3_couldStop.cls = RX3 ∧ yOK yX3_couldStop 2 := ⟨rfl, by decide, by decide, by decide⟩
abbrev rm6_append : Room := { frames := 0, cells := 0, slots := 0, locals := 0 }
def s6_append_3 (n : Nat) (o0 : Nat) (x1 : Int32) (y2 : Int64) : Nat → Int32 → Mem → Option Res
  | 0, _, _ => none
  | f + 1, x4, M => if x1 ≤ x4 then (some (0, M)) else (if (64 : Int32) ≤ (M o0 4) then (some (0, M)) else (if inB (M o0 4) (alen (link o0 0)) then mlet (mset M (link o0 0) (M o0 4).toNatClampNeg (vp_nar .byte ((((y2.toUInt64 >>> (((8 : Int32) * x4).toInt64.toUInt64 &&& Int64.toUInt64 63)).toInt64).toInt32).toInt8.toInt32))) (fun M1 => mlet (mset M1 o0 4 ((M1 o0 4) + (1 : Int32))) (fun M2 => ilet (x4 + 1) (fun v3 => s6_append_3 n o0 x1 y2 f v3 M2))) else none))
set_option maxRecDepth 100000 in
set_option maxHeartbeats 4000000 in
theorem b6_append_3 {w : WE} {g : GT} (C : CT w g RX6 cX6_append rm6_append 5) (RT : RTv w g cX6_append) (n : Nat) (o0 : Nat) (h0 : typ o0 = 6) (x1 : Int32) (y2 : Int64) : ∀ (f : Nat) (x4 : Int32) (M : Mem), J w g (s6_append_3 n o0 x1 y2 f x4 M) M 3 [(0, .ref (wa w o0)), (1, .int x1), (2, .long y2), (4, .int x4)] [] := by
  intro f
  induction f with
  | zero =>
    intro x4 M
    rw [s6_append_3]
    exact J_none
  | succ f ih =>
    intro x4 M
    rw [s6_append_3]
    refine J_iload C dX6_append_3 3 rfl ?_
    refine J_iload_n C dX6_append_5 rfl 1 rfl ?_
    refine J_icmp_ge (tgt := 52) C dX6_append_6 (by decide) (fun _ => ?_) (fun _ => ?_)
    · exact J_vret C RT dX6_append_52
    · refine J_aload_n C dX6_append_9 rfl 0 rfl ?_
      refine J_geti C fk6_4 W2_19 h0 dX6_append_10 ?_
      refine J_bipush C dX6_append_13 kcb_64 ?_
      refine J_icmp_ge (tgt := 52) C dX6_append_15 (by decide) (fun _ => ?_) (fun _ => ?_)
      · exact J_vret C RT dX6_append_52
      · refine J_aload_n C dX6_append_18 rfl 0 rfl ?_
        refine J_getr C fk6_0 W2_15 h0 dX6_append_19 ?_
        refine J_aload_n C dX6_append_22 rfl 0 rfl ?_
        refine J_geti C fk6_4 W2_19 h0 dX6_append_23 ?_
        refine J_lload_n C dX6_append_26 rfl 2 rfl ?_
        refine J_bipush C dX6_append_27 kcb_8 ?_
        refine J_iload C dX6_append_29 3 rfl ?_
        refine J_imul C dX6_append_31 ?_
        refine J_lushr C dX6_append_32 ?_
        refine J_l2i C dX6_append_33 ?_
        refine J_i2b C dX6_append_34 ?_
        refine J_bastore C (tl_6_0 h0) dX6_append_35 ?_
        refine J_mlet (fun M1 => ?_)
        refine J_aload_n C dX6_append_36 rfl 0 rfl ?_
        refine J_dup C rfl dX6_append_37 ?_
        refine J_geti C fk6_4 W2_19 h0 dX6_append_38 ?_
        refine J_iconst C dX6_append_41 kci_1 ?_
        refine J_iadd C dX6_append_42 ?_
        refine J_puti C fk6_4 W2_19 fp6_4 h0 dX6_append_43 ?_
        refine J_mlet (fun M2 => ?_)
        refine J_iinc (lw := fun v3 => [(4, .int v3), (0, .ref (wa w o0)), (1, .int x1), (2, .long y2)]) (X := x4 + 1) C dX6_append_46 (q := 3) rfl (by rw [kci_1]) (by decide) (fun _ => rfl) (fun v3 => ?_)
        refine J_goto (tgt := 3) C dX6_append_49 (by decide) ?_
        refine J_lv [1, 2, 3, 0] rfl ?_
        exact ih v3 M2
def s6_append (n : Nat) (o0 : Nat) (x1 : Int32) (y2 : Int64) (M : Mem) : Option Res := s6_append_3 n o0 x1 y2 n (0 : Int32) M
set_option maxRecDepth 100000 in
set_option maxHeartbeats 4000000 in
theorem b6_append {w : WE} {g : GT} (C : CT w g RX6 cX6_append rm6_append 5) (RT : RTv w g cX6_append) (n : Nat) (o0 : Nat) (h0 : typ o0 = 6) (x1 : Int32) (y2 : Int64) (M : Mem) : J w g (s6_append n o0 x1 y2 M) M 0 [(0, .ref (wa w o0)), (1, .int x1), (2, .long y2)] [] := by
  rw [s6_append]
  refine J_iconst C dX6_append_0 kci_0 ?_
  refine J_istore (lv' := [(4, .int (0 : Int32)), (0, .ref (wa w o0)), (1, .int x1), (2, .long y2)]) C dX6_append_1 (by decide) rfl ?_
  refine J_lv [1, 2, 3, 0] rfl ?_
  exact b6_append_3 C RT n o0 h0 x1 y2 n (0 : Int32) M
theorem c6_append (l : Launch) (w : WE) (n : Nat) (o0 : Nat) (h0 : typ o0 = 6) (x1 : Int32) (y2 : Int64) (M : Mem) : MV l w yX6_append (wz yX6_append cX6_append 5 none) rm6_append [.ref (wa w o0), .int x1, .long y2] (s6_append n o0 x1 y2 M) M :=
  mv_of_J (own := RX6) rfl (by decide) rfl rfl (Nat.le_of_ble_eq_true rfl) (fun _ _ C RT => b6_append C RT n o0 h0 x1 y2 M)
theorem hdX6_append : yX6_append.cls = RX6 ∧ yOK yX6_append 2 := ⟨rfl, by decide, by decide, by decide⟩
abbrev rm7_change : Room := { frames := 0, cells := 0, slots := 0, locals := 0 }
def s7_change (o0 : Nat) (x1 : Int32) (x2 : Int32) (M : Mem) : Option Res := if x1 = 0 then (ilet (M o0 4) (fun v1 => mlet (mset M o0 4 x2) (fun M2 => some (v1, M2)))) else (if x1 = 1 then (ilet (M o0 5) (fun v3 => mlet (mset M o0 5 x2) (fun M4 => some (v3, M4)))) else (if x1 = 2 then (ilet (M o0 6) (fun v5 => mlet (mset M o0 6 x2) (fun M6 => some (v5, M6)))) else (if x1 = 3 then (ilet (M o0 7) (fun v7 => mlet (mset M o0 7 x2) (fun M8 => some (v7, M8)))) else (if x1 = 4 then (ilet (M o0 8) (fun v9 => mlet (mset M o0 8 x2) (fun M10 => some (v9, M10)))) else (ilet (M o0 3) (fun v11 => mlet (mset M o0 3 x2) (fun M12 => some (v11, M12))))))))
set_option maxRecDepth 100000 in
set_option maxHeartbeats 4000000 in
theorem b7_change {w : WE} {g : GT} (C : CT w g RX7 cX7_change rm7_change 4) (RT : RTi w g cX7_change .int) (o0 : Nat) (h0 : typ o0 = 7) (x1 : Int32) (x2 : Int32) (M : Mem) : J w g (s7_change o0 x1 x2 M) M 0 [(0, .ref (wa w o0)), (1, .int x1), (2, .int x2)] [] := by
  rw [s7_change]
  refine J_iload_n C dX7_change_0 rfl 1 rfl ?_
  refine J_ite (fun hc0 => ?_) (fun hc0 => ?_)
  · refine J_tsin (tgt := 36) C dX7_change_1 (by rw [hc0]; decide) (by rw [hc0]; decide) (off := 35) (by rw [hc0]; rfl) (by decide) ?_
    refine J_aload_n C dX7_change_36 rfl 0 rfl ?_
    refine J_geti C fk7_4 W1_132 h0 dX7_change_37 ?_
    refine J_ilet (fun v1 => ?_)
    refine J_istore_n (lv' := [(3, .int v1), (0, .ref (wa w o0)), (1, .int x1), (2, .int x2)]) C dX7_change_40 rfl (by decide) rfl ?_
    refine J_aload_n C dX7_change_41 rfl 1 rfl ?_
    refine J_iload_n C dX7_change_42 rfl 3 rfl ?_
    refine J_puti C fk7_4 W1_132 fp7_4 h0 dX7_change_43 ?_
    refine J_mlet (fun M2 => ?_)
    refine J_goto (tgt := 111) C dX7_change_46 (by decide) ?_
    refine J_iload_n C dX7_change_111 rfl 0 rfl ?_
    exact J_iret C RT rfl dX7_change_112
  · refine J_ite (fun hc1 => ?_) (fun hc1 => ?_)
    · refine J_tsin (tgt := 49) C dX7_change_1 (by rw [hc1]; decide) (by rw [hc1]; decide) (off := 48) (by rw [hc1]; rfl) (by decide) ?_
      refine J_aload_n C dX7_change_49 rfl 0 rfl ?_
      refine J_geti C fk7_5 W1_134 h0 dX7_change_50 ?_
      refine J_ilet (fun v3 => ?_)
      refine J_istore_n (lv' := [(3, .int v3), (0, .ref (wa w o0)), (1, .int x1), (2, .int x2)]) C dX7_change_53 rfl (by decide) rfl ?_
      refine J_aload_n C dX7_change_54 rfl 1 rfl ?_
      refine J_iload_n C dX7_change_55 rfl 3 rfl ?_
      refine J_puti C fk7_5 W1_134 fp7_5 h0 dX7_change_56 ?_
      refine J_mlet (fun M4 => ?_)
      refine J_goto (tgt := 111) C dX7_change_59 (by decide) ?_
      refine J_iload_n C dX7_change_111 rfl 0 rfl ?_
      exact J_iret C RT rfl dX7_change_112
    · refine J_ite (fun hc2 => ?_) (fun hc2 => ?_)
      · refine J_tsin (tgt := 62) C dX7_change_1 (by rw [hc2]; decide) (by rw [hc2]; decide) (off := 61) (by rw [hc2]; rfl) (by decide) ?_
        refine J_aload_n C dX7_change_62 rfl 0 rfl ?_
        refine J_geti C fk7_6 W1_138 h0 dX7_change_63 ?_
        refine J_ilet (fun v5 => ?_)
        refine J_istore_n (lv' := [(3, .int v5), (0, .ref (wa w o0)), (1, .int x1), (2, .int x2)]) C dX7_change_66 rfl (by decide) rfl ?_
        refine J_aload_n C dX7_change_67 rfl 1 rfl ?_
        refine J_iload_n C dX7_change_68 rfl 3 rfl ?_
        refine J_puti C fk7_6 W1_138 fp7_6 h0 dX7_change_69 ?_
        refine J_mlet (fun M6 => ?_)
        refine J_goto (tgt := 111) C dX7_change_72 (by decide) ?_
        refine J_iload_n C dX7_change_111 rfl 0 rfl ?_
        exact J_iret C RT rfl dX7_change_112
      · refine J_ite (fun hc3 => ?_) (fun hc3 => ?_)
        · refine J_tsin (tgt := 75) C dX7_change_1 (by rw [hc3]; decide) (by rw [hc3]; decide) (off := 74) (by rw [hc3]; rfl) (by decide) ?_
          refine J_aload_n C dX7_change_75 rfl 0 rfl ?_
          refine J_geti C fk7_7 W1_141 h0 dX7_change_76 ?_
          refine J_ilet (fun v7 => ?_)
          refine J_istore_n (lv' := [(3, .int v7), (0, .ref (wa w o0)), (1, .int x1), (2, .int x2)]) C dX7_change_79 rfl (by decide) rfl ?_
          refine J_aload_n C dX7_change_80 rfl 1 rfl ?_
          refine J_iload_n C dX7_change_81 rfl 3 rfl ?_
          refine J_puti C fk7_7 W1_141 fp7_7 h0 dX7_change_82 ?_
          refine J_mlet (fun M8 => ?_)
          refine J_goto (tgt := 111) C dX7_change_85 (by decide) ?_
          refine J_iload_n C dX7_change_111 rfl 0 rfl ?_
          exact J_iret C RT rfl dX7_change_112
        · refine J_ite (fun hc4 => ?_) (fun hc4 => ?_)
          · refine J_tsin (tgt := 88) C dX7_change_1 (by rw [hc4]; decide) (by rw [hc4]; decide) (off := 87) (by rw [hc4]; rfl) (by decide) ?_
            refine J_aload_n C dX7_change_88 rfl 0 rfl ?_
            refine J_geti C fk7_8 W1_142 h0 dX7_change_89 ?_
            refine J_ilet (fun v9 => ?_)
            refine J_istore_n (lv' := [(3, .int v9), (0, .ref (wa w o0)), (1, .int x1), (2, .int x2)]) C dX7_change_92 rfl (by decide) rfl ?_
            refine J_aload_n C dX7_change_93 rfl 1 rfl ?_
            refine J_iload_n C dX7_change_94 rfl 3 rfl ?_
            refine J_puti C fk7_8 W1_142 fp7_8 h0 dX7_change_95 ?_
            refine J_mlet (fun M10 => ?_)
            refine J_goto (tgt := 111) C dX7_change_98 (by decide) ?_
            refine J_iload_n C dX7_change_111 rfl 0 rfl ?_
            exact J_iret C RT rfl dX7_change_112
          · refine J_tsout (tgt := 101) C dX7_change_1 (by have q0 := lv_neT hc0 (a := 0) rfl; have q1 := lv_neT hc1 (a := 1) rfl; have q2 := lv_neT hc2 (a := 2) rfl; have q3 := lv_neT hc3 (a := 3) rfl; have q4 := lv_neT hc4 (a := 4) rfl; omega) (by decide) ?_
            refine J_aload_n C dX7_change_101 rfl 0 rfl ?_
            refine J_geti C fk7_3 W1_130 h0 dX7_change_102 ?_
            refine J_ilet (fun v11 => ?_)
            refine J_istore_n (lv' := [(3, .int v11), (0, .ref (wa w o0)), (1, .int x1), (2, .int x2)]) C dX7_change_105 rfl (by decide) rfl ?_
            refine J_aload_n C dX7_change_106 rfl 1 rfl ?_
            refine J_iload_n C dX7_change_107 rfl 3 rfl ?_
            refine J_puti C fk7_3 W1_130 fp7_3 h0 dX7_change_108 ?_
            refine J_mlet (fun M12 => ?_)
            refine J_iload_n C dX7_change_111 rfl 0 rfl ?_
            exact J_iret C RT rfl dX7_change_112
theorem c7_change (l : Launch) (w : WE) (o0 : Nat) (h0 : typ o0 = 7) (x1 : Int32) (x2 : Int32) (M : Mem) : MC l w yX7_change (wz yX7_change cX7_change 4 (some .int)) rm7_change [.ref (wa w o0), .int x1, .int x2] (s7_change o0 x1 x2 M) M :=
  mc_of_J (own := RX7) rfl (by decide) rfl rfl (Nat.le_of_ble_eq_true rfl) (fun _ _ C RT => b7_change C RT o0 h0 x1 x2 M)
theorem hdX7_change : yX7_change.cls = RX7 ∧ yOK yX7_change 2 := ⟨rfl, by decide, by decide, by decide⟩
abbrev rm7_tell : Room := { frames := 0, cells := 0, slots := 0, locals := 0 }
def s7_tell (o0 : Nat) (x1 : Int32) (M : Mem) : Option Res := if x1 = 0 then (some (M o0 0, M)) else (if x1 = 1 then (some (M o0 1, M)) else (if x1 = 2 then (if (M o0 2) = 0 then (some ((0 : Int32), M)) else (some ((1 : Int32), M))) else (if x1 = 3 then (some (M o0 3, M)) else (if x1 = 4 then (some (M o0 4, M)) else (some (M o0 5, M))))))
set_option maxRecDepth 100000 in
set_option maxHeartbeats 4000000 in
theorem b7_tell {w : WE} {g : GT} (C : CT w g RX7 cX7_tell rm7_tell 2) (RT : RTi w g cX7_tell .int) (o0 : Nat) (h0 : typ o0 = 7) (x1 : Int32) (M : Mem) : J w g (s7_tell o0 x1 M) M 0 [(0, .ref (wa w o0)), (1, .int x1)] [] := by
  rw [s7_tell]
  refine J_iload_n C dX7_tell_0 rfl 1 rfl ?_
  refine J_ite (fun hc0 => ?_) (fun hc0 => ?_)
  · refine J_tsin (tgt := 36) C dX7_tell_1 (by rw [hc0]; decide) (by rw [hc0]; decide) (off := 35) (by rw [hc0]; rfl) (by decide) ?_
    refine J_aload_n C dX7_tell_36 rfl 0 rfl ?_
    refine J_geti C fk7_0 W1_120 h0 dX7_tell_37 ?_
    exact J_iret C RT rfl dX7_tell_40
  · refine J_ite (fun hc1 => ?_) (fun hc1 => ?_)
    · refine J_tsin (tgt := 41) C dX7_tell_1 (by rw [hc1]; decide) (by rw [hc1]; decide) (off := 40) (by rw [hc1]; rfl) (by decide) ?_
      refine J_aload_n C dX7_tell_41 rfl 0 rfl ?_
      refine J_geti C fk7_1 W1_125 h0 dX7_tell_42 ?_
      exact J_iret C RT rfl dX7_tell_45
    · refine J_ite (fun hc2 => ?_) (fun hc2 => ?_)
      · refine J_tsin (tgt := 46) C dX7_tell_1 (by rw [hc2]; decide) (by rw [hc2]; decide) (off := 45) (by rw [hc2]; rfl) (by decide) ?_
        refine J_aload_n C dX7_tell_46 rfl 0 rfl ?_
        refine J_geti C fk7_2 W1_127 h0 dX7_tell_47 ?_
        refine J_if_eq (tgt := 57) C dX7_tell_50 (by decide) (fun _ => ?_) (fun _ => ?_)
        · refine J_iconst C dX7_tell_57 kci_0 ?_
          exact J_iret C RT rfl dX7_tell_58
        · refine J_iconst C dX7_tell_53 kci_1 ?_
          refine J_goto (tgt := 58) C dX7_tell_54 (by decide) ?_
          exact J_iret C RT rfl dX7_tell_58
      · refine J_ite (fun hc3 => ?_) (fun hc3 => ?_)
        · refine J_tsin (tgt := 59) C dX7_tell_1 (by rw [hc3]; decide) (by rw [hc3]; decide) (off := 58) (by rw [hc3]; rfl) (by decide) ?_
          refine J_aload_n C dX7_tell_59 rfl 0 rfl ?_
          refine J_geti C fk7_3 W1_130 h0 dX7_tell_60 ?_
          exact J_iret C RT rfl dX7_tell_63
        · refine J_ite (fun hc4 => ?_) (fun hc4 => ?_)
          · refine J_tsin (tgt := 64) C dX7_tell_1 (by rw [hc4]; decide) (by rw [hc4]; decide) (off := 63) (by rw [hc4]; rfl) (by decide) ?_
            refine J_aload_n C dX7_tell_64 rfl 0 rfl ?_
            refine J_geti C fk7_4 W1_132 h0 dX7_tell_65 ?_
            exact J_iret C RT rfl dX7_tell_68
          · refine J_tsout (tgt := 69) C dX7_tell_1 (by have q0 := lv_neT hc0 (a := 0) rfl; have q1 := lv_neT hc1 (a := 1) rfl; have q2 := lv_neT hc2 (a := 2) rfl; have q3 := lv_neT hc3 (a := 3) rfl; have q4 := lv_neT hc4 (a := 4) rfl; omega) (by decide) ?_
            refine J_aload_n C dX7_tell_69 rfl 0 rfl ?_
            refine J_geti C fk7_5 W1_134 h0 dX7_tell_70 ?_
            exact J_iret C RT rfl dX7_tell_73
theorem c7_tell (l : Launch) (w : WE) (o0 : Nat) (h0 : typ o0 = 7) (x1 : Int32) (M : Mem) : MC l w yX7_tell (wz yX7_tell cX7_tell 2 (some .int)) rm7_tell [.ref (wa w o0), .int x1] (s7_tell o0 x1 M) M :=
  mc_of_J (own := RX7) rfl (by decide) rfl rfl (Nat.le_of_ble_eq_true rfl) (fun _ _ C RT => b7_tell C RT o0 h0 x1 M)
theorem hdX7_tell : yX7_tell.cls = RX7 ∧ yOK yX7_tell 1 := ⟨rfl, by decide, by decide, by decide⟩
abbrev rm8_refuse : Room := { frames := 0, cells := 0, slots := 0, locals := 0 }
def s8_refuse (o0 : Nat) (x1 : Int32) (M : Mem) : Option Res := if x1 < (1 : Int32) then (some (-x1, M)) else (if (6 : Int32) < x1 then (some (-x1, M)) else (if inB x1 (alen (link o0 6)) then if inB x1 (alen (link o0 6)) then mlet (mset M (link o0 6) x1.toNatClampNeg ((M (link o0 6) x1.toNatClampNeg) + (1 : Int32))) (fun M1 => some (-x1, M1)) else none else none))
set_option maxRecDepth 100000 in
set_option maxHeartbeats 4000000 in
theorem b8_refuse {w : WE} {g : GT} (C : CT w g RX8 cX8_refuse rm8_refuse 2) (RT : RTi w g cX8_refuse .int) (o0 : Nat) (h0 : typ o0 = 8) (x1 : Int32) (M : Mem) : J w g (s8_refuse o0 x1 M) M 0 [(0, .ref (wa w o0)), (1, .int x1)] [] := by
  rw [s8_refuse]
  refine J_iload_n C dX8_refuse_0 rfl 1 rfl ?_
  refine J_iconst C dX8_refuse_1 kci_1 ?_
  refine J_icmp_lt (tgt := 21) C dX8_refuse_2 (by decide) (fun _ => ?_) (fun _ => ?_)
  · refine J_iload_n C dX8_refuse_21 rfl 1 rfl ?_
    refine J_ineg C dX8_refuse_22 ?_
    exact J_iret C RT rfl dX8_refuse_23
  · refine J_iload_n C dX8_refuse_5 rfl 1 rfl ?_
    refine J_bipush C dX8_refuse_6 kcb_6 ?_
    refine J_icmp_gt (tgt := 21) C dX8_refuse_8 (by decide) (fun _ => ?_) (fun _ => ?_)
    · refine J_iload_n C dX8_refuse_21 rfl 1 rfl ?_
      refine J_ineg C dX8_refuse_22 ?_
      exact J_iret C RT rfl dX8_refuse_23
    · refine J_aload_n C dX8_refuse_11 rfl 0 rfl ?_
      refine J_getr C fk8_6 W2_43 h0 dX8_refuse_12 ?_
      refine J_iload_n C dX8_refuse_15 rfl 1 rfl ?_
      refine J_dup2 C rfl rfl dX8_refuse_16 ?_
      refine J_aload_ C (tl_8_6 h0) dX8_refuse_17 ?_
      refine J_iconst C dX8_refuse_18 kci_1 ?_
      refine J_iadd C dX8_refuse_19 ?_
      refine J_iastore C (tl_8_6 h0) dX8_refuse_20 ?_
      refine J_mlet (fun M1 => ?_)
      refine J_iload_n C dX8_refuse_21 rfl 1 rfl ?_
      refine J_ineg C dX8_refuse_22 ?_
      exact J_iret C RT rfl dX8_refuse_23
theorem c8_refuse (l : Launch) (w : WE) (o0 : Nat) (h0 : typ o0 = 8) (x1 : Int32) (M : Mem) : MC l w yX8_refuse (wz yX8_refuse cX8_refuse 2 (some .int)) rm8_refuse [.ref (wa w o0), .int x1] (s8_refuse o0 x1 M) M :=
  mc_of_J (own := RX8) rfl (by decide) rfl rfl (Nat.le_of_ble_eq_true rfl) (fun _ _ C RT => b8_refuse C RT o0 h0 x1 M)
theorem hdX8_refuse : yX8_refuse.cls = RX8 ∧ yOK yX8_refuse 1 := ⟨rfl, by decide, by decide, by decide⟩
abbrev rm8_feed : Room := { frames := 1, cells := 0, slots := 0, locals := 24 }
def s8_feed (n : Nat) (o0 : Nat) (x1 : Int32) (y2 : Int64) (M : Mem) : Option Res := if (1 : Int32) ≤ x1 then (if (8 : Int32) < x1 then (cb (s8_refuse o0 (6 : Int32) M) (fun r2 M1 => some (r2, M1))) else (if ((M (link o0 5) 4) + x1) ≤ (64 : Int32) then (cb (s6_append n (link o0 5) x1 y2 M) (fun _ M3 => some (M3 (link o0 5) 4, M3))) else (cb (s8_refuse o0 (6 : Int32) M) (fun r6 M5 => some (r6, M5))))) else (cb (s8_refuse o0 (4 : Int32) M) (fun r8 M7 => some (r8, M7)))
set_option maxRecDepth 100000 in
set_option maxHeartbeats 4000000 in
theorem b8_feed {w : WE} {g : GT} (C : CT w g RX8 cX8_feed rm8_feed 4) (RT : RTi w g cX8_feed .int) (n : Nat) (o0 : Nat) (h0 : typ o0 = 8) (x1 : Int32) (y2 : Int64) (M : Mem) : J w g (s8_feed n o0 x1 y2 M) M 0 [(0, .ref (wa w o0)), (1, .int x1), (2, .long y2)] [] := by
  rw [s8_feed]
  refine J_iload_n C dX8_feed_0 rfl 1 rfl ?_
  refine J_iconst C dX8_feed_1 kci_1 ?_
  refine J_icmp_ge (tgt := 11) C dX8_feed_2 (by decide) (fun _ => ?_) (fun _ => ?_)
  · refine J_iload_n C dX8_feed_11 rfl 1 rfl ?_
    refine J_bipush C dX8_feed_12 kcb_8 ?_
    refine J_icmp_gt (tgt := 31) C dX8_feed_14 (by decide) (fun _ => ?_) (fun _ => ?_)
    · refine J_aload_n C dX8_feed_31 rfl 0 rfl ?_
      refine J_bipush C dX8_feed_32 kcb_6 ?_
      refine J_cvi (As := [.int (6 : Int32)]) C (c8_refuse (gl g) w o0 h0 (6 : Int32) M) (gd_v W2_66 W2_68 WP_0 W1_1 W2_69) rfl (by decide) (hdX8_refuse) h0 (by decide) (cl_8) rfl (Nat.le_of_ble_eq_true rfl) dX8_feed_34 rfl (fun r2 M1 => ?_)
      exact J_iret C RT rfl dX8_feed_37
    · refine J_aload_n C dX8_feed_17 rfl 0 rfl ?_
      refine J_getr C fk8_5 W2_42 h0 dX8_feed_18 ?_
      refine J_geti C fk6_4 W2_20 (tl_8_5 h0) dX8_feed_21 ?_
      refine J_iload_n C dX8_feed_24 rfl 1 rfl ?_
      refine J_iadd C dX8_feed_25 ?_
      refine J_bipush C dX8_feed_26 kcb_64 ?_
      refine J_icmp_le (tgt := 38) C dX8_feed_28 (by decide) (fun _ => ?_) (fun _ => ?_)
      · refine J_aload_n C dX8_feed_38 rfl 0 rfl ?_
        refine J_getr C fk8_5 W2_42 h0 dX8_feed_39 ?_
        refine J_iload_n C dX8_feed_42 rfl 1 rfl ?_
        refine J_lload_n C dX8_feed_43 rfl 2 rfl ?_
        refine J_cvv (As := [.int x1, .long y2]) C (c6_append (gl g) w n (link o0 5) (tl_8_5 h0) x1 y2 M) (gd_v W2_70 W2_71 W2_72 W1_9 W2_73) rfl (by decide) (hdX6_append) (tl_8_5 h0) (by decide) (cl_6) rfl (Nat.le_of_ble_eq_true rfl) dX8_feed_44 rfl (fun r4 M3 => ?_)
        refine J_aload_n C dX8_feed_47 rfl 0 rfl ?_
        refine J_getr C fk8_5 W2_42 h0 dX8_feed_48 ?_
        refine J_geti C fk6_4 W2_20 (tl_8_5 h0) dX8_feed_51 ?_
        exact J_iret C RT rfl dX8_feed_54
      · refine J_aload_n C dX8_feed_31 rfl 0 rfl ?_
        refine J_bipush C dX8_feed_32 kcb_6 ?_
        refine J_cvi (As := [.int (6 : Int32)]) C (c8_refuse (gl g) w o0 h0 (6 : Int32) M) (gd_v W2_66 W2_68 WP_0 W1_1 W2_69) rfl (by decide) (hdX8_refuse) h0 (by decide) (cl_8) rfl (Nat.le_of_ble_eq_true rfl) dX8_feed_34 rfl (fun r6 M5 => ?_)
        exact J_iret C RT rfl dX8_feed_37
  · refine J_aload_n C dX8_feed_5 rfl 0 rfl ?_
    refine J_iconst C dX8_feed_6 kci_4 ?_
    refine J_cvi (As := [.int (4 : Int32)]) C (c8_refuse (gl g) w o0 h0 (4 : Int32) M) (gd_v W2_66 W2_68 WP_0 W1_1 W2_69) rfl (by decide) (hdX8_refuse) h0 (by decide) (cl_8) rfl (Nat.le_of_ble_eq_true rfl) dX8_feed_7 rfl (fun r8 M7 => ?_)
    exact J_iret C RT rfl dX8_feed_10
theorem c8_feed (l : Launch) (w : WE) (n : Nat) (o0 : Nat) (h0 : typ o0 = 8) (x1 : Int32) (y2 : Int64) (M : Mem) : MC l w yX8_feed (wz yX8_feed cX8_feed 4 (some .int)) rm8_feed [.ref (wa w o0), .int x1, .long y2] (s8_feed n o0 x1 y2 M) M :=
  mc_of_J (own := RX8) rfl (by decide) rfl rfl (Nat.le_of_ble_eq_true rfl) (fun _ _ C RT => b8_feed C RT n o0 h0 x1 y2 M)
theorem hdX8_feed : yX8_feed.cls = RX8 ∧ yOK yX8_feed 2 := ⟨rfl, by decide, by decide, by decide⟩
abbrev rm8_chair : Room := { frames := 2, cells := 0, slots := 0, locals := 43 }
def s8_chair (n : Nat) (o0 : Nat) (x1 : Int32) (M : Mem) : Option Res := cb (s2_whyNoChair (link o0 1) x1 M) (fun r2 M1 => if r2 = 0 then (cb (s2_addChair n (link o0 1) x1 M1) (fun r4 M3 => some (r4, M3))) else (cb (s8_refuse o0 r2 M1) (fun r6 M5 => some (r6, M5))))
set_option maxRecDepth 100000 in
set_option maxHeartbeats 4000000 in
theorem b8_chair {w : WE} {g : GT} (C : CT w g RX8 cX8_chair rm8_chair 3) (RT : RTi w g cX8_chair .int) (n : Nat) (o0 : Nat) (h0 : typ o0 = 8) (x1 : Int32) (M : Mem) : J w g (s8_chair n o0 x1 M) M 0 [(0, .ref (wa w o0)), (1, .int x1)] [] := by
  rw [s8_chair]
  refine J_aload_n C dX8_chair_0 rfl 0 rfl ?_
  refine J_getr C fk8_1 W2_38 h0 dX8_chair_1 ?_
  refine J_iload_n C dX8_chair_4 rfl 1 rfl ?_
  refine J_cvi (As := [.int x1]) C (c2_whyNoChair (gl g) w (link o0 1) (tl_8_1 h0) x1 M) (gd_v W3_31 W2_210 W2_211 W1_3 W2_212) rfl (by decide) (hdX2_whyNoChair) (tl_8_1 h0) (by decide) (cl_2) rfl (Nat.le_of_ble_eq_true rfl) dX8_chair_5 rfl (fun r2 M1 => ?_)
  refine J_istore_n (lv' := [(2, .int r2), (0, .ref (wa w o0)), (1, .int x1)]) C dX8_chair_8 rfl (by decide) rfl ?_
  refine J_iload_n C dX8_chair_9 rfl 0 rfl ?_
  refine J_if_eq (tgt := 21) C dX8_chair_10 (by decide) (fun _ => ?_) (fun _ => ?_)
  · refine J_aload_n C dX8_chair_21 rfl 1 rfl ?_
    refine J_getr C fk8_1 W2_38 h0 dX8_chair_22 ?_
    refine J_iload_n C dX8_chair_25 rfl 2 rfl ?_
    refine J_cvi (As := [.int x1]) C (c2_addChair (gl g) w n (link o0 1) (tl_8_1 h0) x1 M1) (gd_v W3_32 W2_222 W2_223 W1_3 W2_224) rfl (by decide) (hdX2_addChair) (tl_8_1 h0) (by decide) (cl_2) rfl (Nat.le_of_ble_eq_true rfl) dX8_chair_26 rfl (fun r4 M3 => ?_)
    exact J_iret C RT rfl dX8_chair_29
  · refine J_aload_n C dX8_chair_13 rfl 1 rfl ?_
    refine J_iload_n C dX8_chair_14 rfl 0 rfl ?_
    refine J_cvi (As := [.int r2]) C (c8_refuse (gl g) w o0 h0 r2 M1) (gd_v W2_66 W2_68 WP_0 W1_1 W2_69) rfl (by decide) (hdX8_refuse) h0 (by decide) (cl_8) rfl (Nat.le_of_ble_eq_true rfl) dX8_chair_15 rfl (fun r6 M5 => ?_)
    refine J_goto (tgt := 29) C dX8_chair_18 (by decide) ?_
    exact J_iret C RT rfl dX8_chair_29
theorem c8_chair (l : Launch) (w : WE) (n : Nat) (o0 : Nat) (h0 : typ o0 = 8) (x1 : Int32) (M : Mem) : MC l w yX8_chair (wz yX8_chair cX8_chair 3 (some .int)) rm8_chair [.ref (wa w o0), .int x1] (s8_chair n o0 x1 M) M :=
  mc_of_J (own := RX8) rfl (by decide) rfl rfl (Nat.le_of_ble_eq_true rfl) (fun _ _ C RT => b8_chair C RT n o0 h0 x1 M)
theorem hdX8_chair : yX8_chair.cls = RX8 ∧ yOK yX8_chair 1 := ⟨rfl, by decide, by decide, by decide⟩
abbrev rm8_walker : Room := { frames := 2, cells := 0, slots := 0, locals := 47 }
def s8_walker (n : Nat) (o0 : Nat) (x1 : Int32) (x2 : Int32) (x3 : Int32) (M : Mem) : Option Res := cb (s2_whyNoWalker (link o0 1) x1 x2 x3 M) (fun r2 M1 => if r2 = 0 then (cb (s2_addWalker n (link o0 1) x1 x2 x3 M1) (fun r4 M3 => some (r4, M3))) else (cb (s8_refuse o0 r2 M1) (fun r6 M5 => some (r6, M5))))
set_option maxRecDepth 100000 in
set_option maxHeartbeats 4000000 in
theorem b8_walker {w : WE} {g : GT} (C : CT w g RX8 cX8_walker rm8_walker 5) (RT : RTi w g cX8_walker .int) (n : Nat) (o0 : Nat) (h0 : typ o0 = 8) (x1 : Int32) (x2 : Int32) (x3 : Int32) (M : Mem) : J w g (s8_walker n o0 x1 x2 x3 M) M 0 [(0, .ref (wa w o0)), (1, .int x1), (2, .int x2), (3, .int x3)] [] := by
  rw [s8_walker]
  refine J_aload_n C dX8_walker_0 rfl 0 rfl ?_
  refine J_getr C fk8_1 W2_38 h0 dX8_walker_1 ?_
  refine J_iload_n C dX8_walker_4 rfl 1 rfl ?_
  refine J_iload_n C dX8_walker_5 rfl 2 rfl ?_
  refine J_iload_n C dX8_walker_6 rfl 3 rfl ?_
  refine J_cvi (As := [.int x1, .int x2, .int x3]) C (c2_whyNoWalker (gl g) w (link o0 1) (tl_8_1 h0) x1 x2 x3 M) (gd_v W3_37 W2_234 W2_235 W1_3 W2_236) rfl (by decide) (hdX2_whyNoWalker) (tl_8_1 h0) (by decide) (cl_2) rfl (Nat.le_of_ble_eq_true rfl) dX8_walker_7 rfl (fun r2 M1 => ?_)
  refine J_istore (lv' := [(4, .int r2), (0, .ref (wa w o0)), (1, .int x1), (2, .int x2), (3, .int x3)]) C dX8_walker_10 (by decide) rfl ?_
  refine J_iload C dX8_walker_12 0 rfl ?_
  refine J_if_eq (tgt := 26) C dX8_walker_14 (by decide) (fun _ => ?_) (fun _ => ?_)
  · refine J_aload_n C dX8_walker_26 rfl 1 rfl ?_
    refine J_getr C fk8_1 W2_38 h0 dX8_walker_27 ?_
    refine J_iload_n C dX8_walker_30 rfl 2 rfl ?_
    refine J_iload_n C dX8_walker_31 rfl 3 rfl ?_
    refine J_iload_n C dX8_walker_32 rfl 4 rfl ?_
    refine J_cvi (As := [.int x1, .int x2, .int x3]) C (c2_addWalker (gl g) w n (link o0 1) (tl_8_1 h0) x1 x2 x3 M1) (gd_v W3_38 W3_3 W3_4 W1_3 W3_5) rfl (by decide) (hdX2_addWalker) (tl_8_1 h0) (by decide) (cl_2) rfl (Nat.le_of_ble_eq_true rfl) dX8_walker_33 rfl (fun r4 M3 => ?_)
    exact J_iret C RT rfl dX8_walker_36
  · refine J_aload_n C dX8_walker_17 rfl 1 rfl ?_
    refine J_iload C dX8_walker_18 0 rfl ?_
    refine J_cvi (As := [.int r2]) C (c8_refuse (gl g) w o0 h0 r2 M1) (gd_v W2_66 W2_68 WP_0 W1_1 W2_69) rfl (by decide) (hdX8_refuse) h0 (by decide) (cl_8) rfl (Nat.le_of_ble_eq_true rfl) dX8_walker_20 rfl (fun r6 M5 => ?_)
    refine J_goto (tgt := 36) C dX8_walker_23 (by decide) ?_
    exact J_iret C RT rfl dX8_walker_36
theorem c8_walker (l : Launch) (w : WE) (n : Nat) (o0 : Nat) (h0 : typ o0 = 8) (x1 : Int32) (x2 : Int32) (x3 : Int32) (M : Mem) : MC l w yX8_walker (wz yX8_walker cX8_walker 5 (some .int)) rm8_walker [.ref (wa w o0), .int x1, .int x2, .int x3] (s8_walker n o0 x1 x2 x3 M) M :=
  mc_of_J (own := RX8) rfl (by decide) rfl rfl (Nat.le_of_ble_eq_true rfl) (fun _ _ C RT => b8_walker C RT n o0 h0 x1 x2 x3 M)
theorem hdX8_walker : yX8_walker.cls = RX8 ∧ yOK yX8_walker 3 := ⟨rfl, by decide, by decide, by decide⟩
abbrev rm8_leastOf : Room := { frames := 0, cells := 0, slots := 0, locals := 0 }
def s8_leastOf (x0 : Int32) (M : Mem) : Option Res := if (2 : Int32) ≤ x0 then (some ((0 : Int32), M)) else (some ((1 : Int32), M))
set_option maxRecDepth 100000 in
set_option maxHeartbeats 4000000 in
theorem b8_leastOf {w : WE} {g : GT} (C : CT w g RX8 cX8_leastOf rm8_leastOf 1) (RT : RTi w g cX8_leastOf .int) (x0 : Int32) (M : Mem) : J w g (s8_leastOf x0 M) M 0 [(0, .int x0)] [] := by
  rw [s8_leastOf]
  refine J_iload_n C dX8_leastOf_0 rfl 0 rfl ?_
  refine J_iconst C dX8_leastOf_1 kci_2 ?_
  refine J_icmp_ge (tgt := 9) C dX8_leastOf_2 (by decide) (fun _ => ?_) (fun _ => ?_)
  · refine J_iconst C dX8_leastOf_9 kci_0 ?_
    exact J_iret C RT rfl dX8_leastOf_10
  · refine J_iconst C dX8_leastOf_5 kci_1 ?_
    refine J_goto (tgt := 10) C dX8_leastOf_6 (by decide) ?_
    exact J_iret C RT rfl dX8_leastOf_10
theorem c8_leastOf (l : Launch) (w : WE) (x0 : Int32) (M : Mem) : MC l w yX8_leastOf (wz yX8_leastOf cX8_leastOf 1 (some .int)) rm8_leastOf [.int x0] (s8_leastOf x0 M) M :=
  mc_of_J (own := RX8) rfl (by decide) rfl rfl (Nat.le_of_ble_eq_true rfl) (fun _ _ C RT => b8_leastOf C RT x0 M)
theorem hdX8_leastOf : yX8_leastOf.cls = RX8 ∧ yOK yX8_leastOf 1 := ⟨rfl, by decide, by decide, by decide⟩
abbrev rm8_greatestOf : Room := { frames := 0, cells := 0, slots := 0, locals := 0 }
def s8_greatestOf (x0 : Int32) (M : Mem) : Option Res := if (2 : Int32) ≤ x0 then (if x0 = (5 : Int32) then (some ((6 : Int32), M)) else (some ((9 : Int32), M))) else (some ((99 : Int32), M))
set_option maxRecDepth 100000 in
set_option maxHeartbeats 4000000 in
theorem b8_greatestOf {w : WE} {g : GT} (C : CT w g RX8 cX8_greatestOf rm8_greatestOf 1) (RT : RTi w g cX8_greatestOf .int) (x0 : Int32) (M : Mem) : J w g (s8_greatestOf x0 M) M 0 [(0, .int x0)] [] := by
  rw [s8_greatestOf]
  refine J_iload_n C dX8_greatestOf_0 rfl 0 rfl ?_
  refine J_iconst C dX8_greatestOf_1 kci_2 ?_
  refine J_icmp_ge (tgt := 8) C dX8_greatestOf_2 (by decide) (fun _ => ?_) (fun _ => ?_)
  · refine J_iload_n C dX8_greatestOf_8 rfl 0 rfl ?_
    refine J_iconst C dX8_greatestOf_9 kci_5 ?_
    refine J_icmp_ne (tgt := 18) C dX8_greatestOf_10 (by decide) (fun _ => ?_) (fun _ => ?_)
    · refine J_bipush C dX8_greatestOf_18 kcb_9 ?_
      exact J_iret C RT rfl dX8_greatestOf_20
    · refine J_bipush C dX8_greatestOf_13 kcb_6 ?_
      refine J_goto (tgt := 20) C dX8_greatestOf_15 (by decide) ?_
      exact J_iret C RT rfl dX8_greatestOf_20
  · refine J_bipush C dX8_greatestOf_5 kcb_99 ?_
    exact J_iret C RT rfl dX8_greatestOf_7
theorem c8_greatestOf (l : Launch) (w : WE) (x0 : Int32) (M : Mem) : MC l w yX8_greatestOf (wz yX8_greatestOf cX8_greatestOf 1 (some .int)) rm8_greatestOf [.int x0] (s8_greatestOf x0 M) M :=
  mc_of_J (own := RX8) rfl (by decide) rfl rfl (Nat.le_of_ble_eq_true rfl) (fun _ _ C RT => b8_greatestOf C RT x0 M)
theorem hdX8_greatestOf : yX8_greatestOf.cls = RX8 ∧ yOK yX8_greatestOf 1 := ⟨rfl, by decide, by decide, by decide⟩
abbrev rm8_set : Room := { frames := 1, cells := 0, slots := 0, locals := 23 }
def s8_set (o0 : Nat) (x1 : Int32) (x2 : Int32) (x3 : Int32) (M : Mem) : Option Res := cb (s2_knows (link o0 1) x1 M) (fun r2 M1 => if r2 = 0 then (cb (s8_refuse o0 (1 : Int32) M1) (fun r19 M18 => some (r19, M18))) else (if x2 < 0 then (cb (s8_refuse o0 (2 : Int32) M1) (fun r4 M3 => some (r4, M3))) else (if x2 ≤ (5 : Int32) then (cb (s8_leastOf x2 M1) (fun r6 M5 => if r6 ≤ x3 then (cb (s8_greatestOf x2 M5) (fun r8 M7 => if x3 ≤ r8 then (if inB x1 (alen (link (link o0 1) 3)) then cb (s7_change (link (link (link o0 1) 3) x1.toNatClampNeg) x2 x3 M7) (fun r11 M10 => some (r11, M10)) else none) else (cb (s8_refuse o0 (6 : Int32) M7) (fun r13 M12 => some (r13, M12))))) else (cb (s8_refuse o0 (4 : Int32) M5) (fun r15 M14 => some (r15, M14))))) else (cb (s8_refuse o0 (2 : Int32) M1) (fun r17 M16 => some (r17, M16))))))
set_option maxRecDepth 100000 in
set_option maxHeartbeats 4000000 in
theorem b8_set {w : WE} {g : GT} (C : CT w g RX8 cX8_set rm8_set 4) (RT : RTi w g cX8_set .int) (o0 : Nat) (h0 : typ o0 = 8) (x1 : Int32) (x2 : Int32) (x3 : Int32) (M : Mem) : J w g (s8_set o0 x1 x2 x3 M) M 0 [(0, .ref (wa w o0)), (1, .int x1), (2, .int x2), (3, .int x3)] [] := by
  rw [s8_set]
  refine J_aload_n C dX8_set_0 rfl 0 rfl ?_
  refine J_getr C fk8_1 W2_38 h0 dX8_set_1 ?_
  refine J_iload_n C dX8_set_4 rfl 1 rfl ?_
  refine J_cvi (As := [.int x1]) C (c2_knows (gl g) w (link o0 1) (tl_8_1 h0) x1 M) (gd_v W3_43 W3_44 W3_45 W1_3 W3_46) rfl (by decide) (hdX2_knows) (tl_8_1 h0) (by decide) (cl_2) rfl (Nat.le_of_ble_eq_true rfl) dX8_set_5 rfl (fun r2 M1 => ?_)
  refine J_if_ne (tgt := 17) C dX8_set_8 (by decide) (fun _ => ?_) (fun _ => ?_)
  · refine J_iload_n C dX8_set_17 rfl 2 rfl ?_
    refine J_if_lt (tgt := 26) C dX8_set_18 (by decide) (fun _ => ?_) (fun _ => ?_)
    · refine J_aload_n C dX8_set_26 rfl 0 rfl ?_
      refine J_iconst C dX8_set_27 kci_2 ?_
      refine J_cvi (As := [.int (2 : Int32)]) C (c8_refuse (gl g) w o0 h0 (2 : Int32) M1) (gd_v W2_66 W2_68 WP_0 W1_1 W2_69) rfl (by decide) (hdX8_refuse) h0 (by decide) (cl_8) rfl (Nat.le_of_ble_eq_true rfl) dX8_set_28 rfl (fun r4 M3 => ?_)
      exact J_iret C RT rfl dX8_set_31
    · refine J_iload_n C dX8_set_21 rfl 2 rfl ?_
      refine J_iconst C dX8_set_22 kci_5 ?_
      refine J_icmp_le (tgt := 32) C dX8_set_23 (by decide) (fun _ => ?_) (fun _ => ?_)
      · refine J_iload_n C dX8_set_32 rfl 3 rfl ?_
        refine J_iload_n C dX8_set_33 rfl 2 rfl ?_
        refine J_csi (As := [.int x2]) (dm := 0) C (c8_leastOf (gl g) w x2 M1) (gd_s W3_47 W3_48 W1_1 W3_49) rfl (by decide) (hdX8_leastOf.2) rfl (Nat.le_of_ble_eq_true rfl) dX8_set_34 rfl (fun r6 M5 => ?_)
        refine J_icmp_ge (tgt := 46) C dX8_set_37 (by decide) (fun _ => ?_) (fun _ => ?_)
        · refine J_iload_n C dX8_set_46 rfl 3 rfl ?_
          refine J_iload_n C dX8_set_47 rfl 2 rfl ?_
          refine J_csi (As := [.int x2]) (dm := 0) C (c8_greatestOf (gl g) w x2 M5) (gd_s W3_50 W3_51 W1_1 W3_52) rfl (by decide) (hdX8_greatestOf.2) rfl (Nat.le_of_ble_eq_true rfl) dX8_set_48 rfl (fun r8 M7 => ?_)
          refine J_icmp_le (tgt := 61) C dX8_set_51 (by decide) (fun _ => ?_) (fun _ => ?_)
          · refine J_aload_n C dX8_set_61 rfl 0 rfl ?_
            refine J_getr C fk8_1 W2_38 h0 dX8_set_62 ?_
            refine J_getr C fk2_3 W1_177 (tl_8_1 h0) dX8_set_65 ?_
            refine J_iload_n C dX8_set_68 rfl 1 rfl ?_
            refine J_aaload C (tl_2_3 (tl_8_1 h0)) dX8_set_69 (fun hb9 => ?_)
            refine J_iload_n C dX8_set_70 rfl 2 rfl ?_
            refine J_iload_n C dX8_set_71 rfl 3 rfl ?_
            refine J_cvi (As := [.int x2, .int x3]) C (c7_change (gl g) w (link (link (link o0 1) 3) x1.toNatClampNeg) (t_wk (tl_2_3 (tl_8_1 h0)) hb9) x2 x3 M7) (gd_v W3_53 W3_54 W3_55 W1_7 W3_56) rfl (by decide) (hdX7_change) (t_wk (tl_2_3 (tl_8_1 h0)) hb9) (by decide) (cl_7) rfl (Nat.le_of_ble_eq_true rfl) dX8_set_72 rfl (fun r11 M10 => ?_)
            exact J_iret C RT rfl dX8_set_75
          · refine J_aload_n C dX8_set_54 rfl 0 rfl ?_
            refine J_bipush C dX8_set_55 kcb_6 ?_
            refine J_cvi (As := [.int (6 : Int32)]) C (c8_refuse (gl g) w o0 h0 (6 : Int32) M7) (gd_v W2_66 W2_68 WP_0 W1_1 W2_69) rfl (by decide) (hdX8_refuse) h0 (by decide) (cl_8) rfl (Nat.le_of_ble_eq_true rfl) dX8_set_57 rfl (fun r13 M12 => ?_)
            exact J_iret C RT rfl dX8_set_60
        · refine J_aload_n C dX8_set_40 rfl 0 rfl ?_
          refine J_iconst C dX8_set_41 kci_4 ?_
          refine J_cvi (As := [.int (4 : Int32)]) C (c8_refuse (gl g) w o0 h0 (4 : Int32) M5) (gd_v W2_66 W2_68 WP_0 W1_1 W2_69) rfl (by decide) (hdX8_refuse) h0 (by decide) (cl_8) rfl (Nat.le_of_ble_eq_true rfl) dX8_set_42 rfl (fun r15 M14 => ?_)
          exact J_iret C RT rfl dX8_set_45
      · refine J_aload_n C dX8_set_26 rfl 0 rfl ?_
        refine J_iconst C dX8_set_27 kci_2 ?_
        refine J_cvi (As := [.int (2 : Int32)]) C (c8_refuse (gl g) w o0 h0 (2 : Int32) M1) (gd_v W2_66 W2_68 WP_0 W1_1 W2_69) rfl (by decide) (hdX8_refuse) h0 (by decide) (cl_8) rfl (Nat.le_of_ble_eq_true rfl) dX8_set_28 rfl (fun r17 M16 => ?_)
        exact J_iret C RT rfl dX8_set_31
  · refine J_aload_n C dX8_set_11 rfl 0 rfl ?_
    refine J_iconst C dX8_set_12 kci_1 ?_
    refine J_cvi (As := [.int (1 : Int32)]) C (c8_refuse (gl g) w o0 h0 (1 : Int32) M1) (gd_v W2_66 W2_68 WP_0 W1_1 W2_69) rfl (by decide) (hdX8_refuse) h0 (by decide) (cl_8) rfl (Nat.le_of_ble_eq_true rfl) dX8_set_13 rfl (fun r19 M18 => ?_)
    exact J_iret C RT rfl dX8_set_16
theorem c8_set (l : Launch) (w : WE) (o0 : Nat) (h0 : typ o0 = 8) (x1 : Int32) (x2 : Int32) (x3 : Int32) (M : Mem) : MC l w yX8_set (wz yX8_set cX8_set 4 (some .int)) rm8_set [.ref (wa w o0), .int x1, .int x2, .int x3] (s8_set o0 x1 x2 x3 M) M :=
  mc_of_J (own := RX8) rfl (by decide) rfl rfl (Nat.le_of_ble_eq_true rfl) (fun _ _ C RT => b8_set C RT o0 h0 x1 x2 x3 M)
theorem hdX8_set : yX8_set.cls = RX8 ∧ yOK yX8_set 3 := ⟨rfl, by decide, by decide, by decide⟩
abbrev rm8_player : Room := { frames := 2, cells := 0, slots := 0, locals := 44 }
def s8_player (o0 : Nat) (x1 : Int32) (x2 : Int32) (M : Mem) : Option Res := cb (s3_whyNot (link (link o0 1) 1) x1 x2 M) (fun r2 M1 => if r2 = 0 then (ilet (M1 (link (link o0 1) 1) 0) (fun v3 => mlet (mset M1 (link (link o0 1) 1) 0 x1) (fun M4 => mlet (mset M4 (link (link o0 1) 1) 1 x2) (fun M5 => some (v3, M5))))) else (cb (s8_refuse o0 r2 M1) (fun r7 M6 => some (r7, M6))))
set_option maxRecDepth 100000 in
set_option maxHeartbeats 4000000 in
theorem b8_player {w : WE} {g : GT} (C : CT w g RX8 cX8_player rm8_player 5) (RT : RTi w g cX8_player .int) (o0 : Nat) (h0 : typ o0 = 8) (x1 : Int32) (x2 : Int32) (M : Mem) : J w g (s8_player o0 x1 x2 M) M 0 [(0, .ref (wa w o0)), (1, .int x1), (2, .int x2)] [] := by
  rw [s8_player]
  refine J_aload_n C dX8_player_0 rfl 0 rfl ?_
  refine J_getr C fk8_1 W2_38 h0 dX8_player_1 ?_
  refine J_getr C fk2_1 W1_168 (tl_8_1 h0) dX8_player_4 ?_
  refine J_iload_n C dX8_player_7 rfl 1 rfl ?_
  refine J_iload_n C dX8_player_8 rfl 2 rfl ?_
  refine J_cvi (As := [.int x1, .int x2]) C (c3_whyNot (gl g) w (link (link o0 1) 1) (tl_2_1 (tl_8_1 h0)) x1 x2 M) (gd_v W3_61 W3_19 W3_20 W1_5 W3_21) rfl (by decide) (hdX3_whyNot) (tl_2_1 (tl_8_1 h0)) (by decide) (cl_3) rfl (Nat.le_of_ble_eq_true rfl) dX8_player_9 rfl (fun r2 M1 => ?_)
  refine J_istore_n (lv' := [(3, .int r2), (0, .ref (wa w o0)), (1, .int x1), (2, .int x2)]) C dX8_player_12 rfl (by decide) rfl ?_
  refine J_iload_n C dX8_player_13 rfl 0 rfl ?_
  refine J_if_eq (tgt := 23) C dX8_player_14 (by decide) (fun _ => ?_) (fun _ => ?_)
  · refine J_aload_n C dX8_player_23 rfl 1 rfl ?_
    refine J_getr C fk8_1 W2_38 h0 dX8_player_24 ?_
    refine J_getr C fk2_1 W1_168 (tl_8_1 h0) dX8_player_27 ?_
    refine J_geti C fk3_0 W1_73 (tl_2_1 (tl_8_1 h0)) dX8_player_30 ?_
    refine J_ilet (fun v3 => ?_)
    refine J_istore (lv' := [(4, .int v3), (3, .int r2), (0, .ref (wa w o0)), (1, .int x1), (2, .int x2)]) C dX8_player_33 (by decide) rfl ?_
    refine J_aload_n C dX8_player_35 rfl 2 rfl ?_
    refine J_getr C fk8_1 W2_38 h0 dX8_player_36 ?_
    refine J_getr C fk2_1 W1_168 (tl_8_1 h0) dX8_player_39 ?_
    refine J_iload_n C dX8_player_42 rfl 3 rfl ?_
    refine J_puti C fk3_0 W1_73 fp3_0 (tl_2_1 (tl_8_1 h0)) dX8_player_43 ?_
    refine J_mlet (fun M4 => ?_)
    refine J_aload_n C dX8_player_46 rfl 2 rfl ?_
    refine J_getr C fk8_1 W2_38 h0 dX8_player_47 ?_
    refine J_getr C fk2_1 W1_168 (tl_8_1 h0) dX8_player_50 ?_
    refine J_iload_n C dX8_player_53 rfl 4 rfl ?_
    refine J_puti C fk3_1 W1_78 fp3_1 (tl_2_1 (tl_8_1 h0)) dX8_player_54 ?_
    refine J_mlet (fun M5 => ?_)
    refine J_iload C dX8_player_57 0 rfl ?_
    exact J_iret C RT rfl dX8_player_59
  · refine J_aload_n C dX8_player_17 rfl 1 rfl ?_
    refine J_iload_n C dX8_player_18 rfl 0 rfl ?_
    refine J_cvi (As := [.int r2]) C (c8_refuse (gl g) w o0 h0 r2 M1) (gd_v W2_66 W2_68 WP_0 W1_1 W2_69) rfl (by decide) (hdX8_refuse) h0 (by decide) (cl_8) rfl (Nat.le_of_ble_eq_true rfl) dX8_player_19 rfl (fun r7 M6 => ?_)
    exact J_iret C RT rfl dX8_player_22
theorem c8_player (l : Launch) (w : WE) (o0 : Nat) (h0 : typ o0 = 8) (x1 : Int32) (x2 : Int32) (M : Mem) : MC l w yX8_player (wz yX8_player cX8_player 5 (some .int)) rm8_player [.ref (wa w o0), .int x1, .int x2] (s8_player o0 x1 x2 M) M :=
  mc_of_J (own := RX8) rfl (by decide) rfl rfl (Nat.le_of_ble_eq_true rfl) (fun _ _ C RT => b8_player C RT o0 h0 x1 x2 M)
theorem hdX8_player : yX8_player.cls = RX8 ∧ yOK yX8_player 2 := ⟨rfl, by decide, by decide, by decide⟩
abbrev rm8_form : Room := { frames := 1, cells := 0, slots := 0, locals := 22 }
def s8_form (o0 : Nat) (x1 : Int32) (M : Mem) : Option Res := cb (s8_whyNotWithin x1 (0 : Int32) (2 : Int32) M) (fun r2 M1 => if r2 = 0 then (ilet (M1 (link o0 1) 6) (fun v3 => mlet (mset M1 (link o0 1) 6 x1) (fun M4 => some (v3, M4)))) else (cb (s8_refuse o0 r2 M1) (fun r6 M5 => some (r6, M5))))
set_option maxRecDepth 100000 in
set_option maxHeartbeats 4000000 in
theorem b8_form {w : WE} {g : GT} (C : CT w g RX8 cX8_form rm8_form 4) (RT : RTi w g cX8_form .int) (o0 : Nat) (h0 : typ o0 = 8) (x1 : Int32) (M : Mem) : J w g (s8_form o0 x1 M) M 0 [(0, .ref (wa w o0)), (1, .int x1)] [] := by
  rw [s8_form]
  refine J_iload_n C dX8_form_0 rfl 1 rfl ?_
  refine J_iconst C dX8_form_1 kci_0 ?_
  refine J_iconst C dX8_form_2 kci_2 ?_
  refine J_csi (As := [.int x1, .int (0 : Int32), .int (2 : Int32)]) (dm := 0) C (c8_whyNotWithin (gl g) w x1 (0 : Int32) (2 : Int32) M) (gd_s W3_66 W2_203 W1_1 W2_204) rfl (by decide) (hdX8_whyNotWithin.2) rfl (Nat.le_of_ble_eq_true rfl) dX8_form_3 rfl (fun r2 M1 => ?_)
  refine J_istore_n (lv' := [(2, .int r2), (0, .ref (wa w o0)), (1, .int x1)]) C dX8_form_6 rfl (by decide) rfl ?_
  refine J_iload_n C dX8_form_7 rfl 0 rfl ?_
  refine J_if_eq (tgt := 17) C dX8_form_8 (by decide) (fun _ => ?_) (fun _ => ?_)
  · refine J_aload_n C dX8_form_17 rfl 1 rfl ?_
    refine J_getr C fk8_1 W2_38 h0 dX8_form_18 ?_
    refine J_geti C fk2_6 W1_184 (tl_8_1 h0) dX8_form_21 ?_
    refine J_ilet (fun v3 => ?_)
    refine J_istore_n (lv' := [(3, .int v3), (2, .int r2), (0, .ref (wa w o0)), (1, .int x1)]) C dX8_form_24 rfl (by decide) rfl ?_
    refine J_aload_n C dX8_form_25 rfl 2 rfl ?_
    refine J_getr C fk8_1 W2_38 h0 dX8_form_26 ?_
    refine J_iload_n C dX8_form_29 rfl 3 rfl ?_
    refine J_puti C fk2_6 W1_184 fp2_6 (tl_8_1 h0) dX8_form_30 ?_
    refine J_mlet (fun M4 => ?_)
    refine J_iload_n C dX8_form_33 rfl 0 rfl ?_
    exact J_iret C RT rfl dX8_form_34
  · refine J_aload_n C dX8_form_11 rfl 1 rfl ?_
    refine J_iload_n C dX8_form_12 rfl 0 rfl ?_
    refine J_cvi (As := [.int r2]) C (c8_refuse (gl g) w o0 h0 r2 M1) (gd_v W2_66 W2_68 WP_0 W1_1 W2_69) rfl (by decide) (hdX8_refuse) h0 (by decide) (cl_8) rfl (Nat.le_of_ble_eq_true rfl) dX8_form_13 rfl (fun r6 M5 => ?_)
    exact J_iret C RT rfl dX8_form_16
theorem c8_form (l : Launch) (w : WE) (o0 : Nat) (h0 : typ o0 = 8) (x1 : Int32) (M : Mem) : MC l w yX8_form (wz yX8_form cX8_form 4 (some .int)) rm8_form [.ref (wa w o0), .int x1] (s8_form o0 x1 M) M :=
  mc_of_J (own := RX8) rfl (by decide) rfl rfl (Nat.le_of_ble_eq_true rfl) (fun _ _ C RT => b8_form C RT o0 h0 x1 M)
theorem hdX8_form : yX8_form.cls = RX8 ∧ yOK yX8_form 1 := ⟨rfl, by decide, by decide, by decide⟩
abbrev rm8_seed : Room := { frames := 0, cells := 0, slots := 0, locals := 0 }
def s8_seed (o0 : Nat) (x1 : Int32) (M : Mem) : Option Res := ilet (M (link (link o0 1) 1) 2) (fun v1 => mlet (mset M (link (link o0 1) 1) 2 x1) (fun M2 => some (v1, M2)))
set_option maxRecDepth 100000 in
set_option maxHeartbeats 4000000 in
theorem b8_seed {w : WE} {g : GT} (C : CT w g RX8 cX8_seed rm8_seed 3) (RT : RTi w g cX8_seed .int) (o0 : Nat) (h0 : typ o0 = 8) (x1 : Int32) (M : Mem) : J w g (s8_seed o0 x1 M) M 0 [(0, .ref (wa w o0)), (1, .int x1)] [] := by
  rw [s8_seed]
  refine J_aload_n C dX8_seed_0 rfl 0 rfl ?_
  refine J_getr C fk8_1 W2_38 h0 dX8_seed_1 ?_
  refine J_getr C fk2_1 W1_168 (tl_8_1 h0) dX8_seed_4 ?_
  refine J_geti C fk3_2 W1_83 (tl_2_1 (tl_8_1 h0)) dX8_seed_7 ?_
  refine J_ilet (fun v1 => ?_)
  refine J_istore_n (lv' := [(2, .int v1), (0, .ref (wa w o0)), (1, .int x1)]) C dX8_seed_10 rfl (by decide) rfl ?_
  refine J_aload_n C dX8_seed_11 rfl 1 rfl ?_
  refine J_getr C fk8_1 W2_38 h0 dX8_seed_12 ?_
  refine J_getr C fk2_1 W1_168 (tl_8_1 h0) dX8_seed_15 ?_
  refine J_iload_n C dX8_seed_18 rfl 2 rfl ?_
  refine J_puti C fk3_2 W1_83 fp3_2 (tl_2_1 (tl_8_1 h0)) dX8_seed_19 ?_
  refine J_mlet (fun M2 => ?_)
  refine J_iload_n C dX8_seed_22 rfl 0 rfl ?_
  exact J_iret C RT rfl dX8_seed_23
theorem c8_seed (l : Launch) (w : WE) (o0 : Nat) (h0 : typ o0 = 8) (x1 : Int32) (M : Mem) : MC l w yX8_seed (wz yX8_seed cX8_seed 3 (some .int)) rm8_seed [.ref (wa w o0), .int x1] (s8_seed o0 x1 M) M :=
  mc_of_J (own := RX8) rfl (by decide) rfl rfl (Nat.le_of_ble_eq_true rfl) (fun _ _ C RT => b8_seed C RT o0 h0 x1 M)
theorem hdX8_seed : yX8_seed.cls = RX8 ∧ yOK yX8_seed 1 := ⟨rfl, by decide, by decide, by decide⟩
abbrev rm8_of : Room := { frames := 1, cells := 0, slots := 0, locals := 21 }
def s8_of (o0 : Nat) (x1 : Int32) (x2 : Int32) (M : Mem) : Option Res := cb (s2_knows (link o0 1) x1 M) (fun r2 M1 => if r2 = 0 then (cb (s8_refuse o0 (1 : Int32) M1) (fun r11 M10 => some (r11, M10))) else (if x2 < 0 then (cb (s8_refuse o0 (2 : Int32) M1) (fun r4 M3 => some (r4, M3))) else (if x2 ≤ (5 : Int32) then (if inB x1 (alen (link (link o0 1) 3)) then cb (s7_tell (link (link (link o0 1) 3) x1.toNatClampNeg) x2 M1) (fun r7 M6 => some (r7, M6)) else none) else (cb (s8_refuse o0 (2 : Int32) M1) (fun r9 M8 => some (r9, M8))))))
set_option maxRecDepth 100000 in
set_option maxHeartbeats 4000000 in
theorem b8_of {w : WE} {g : GT} (C : CT w g RX8 cX8_of rm8_of 3) (RT : RTi w g cX8_of .int) (o0 : Nat) (h0 : typ o0 = 8) (x1 : Int32) (x2 : Int32) (M : Mem) : J w g (s8_of o0 x1 x2 M) M 0 [(0, .ref (wa w o0)), (1, .int x1), (2, .int x2)] [] := by
  rw [s8_of]
  refine J_aload_n C dX8_of_0 rfl 0 rfl ?_
  refine J_getr C fk8_1 W2_38 h0 dX8_of_1 ?_
  refine J_iload_n C dX8_of_4 rfl 1 rfl ?_
  refine J_cvi (As := [.int x1]) C (c2_knows (gl g) w (link o0 1) (tl_8_1 h0) x1 M) (gd_v W3_43 W3_44 W3_45 W1_3 W3_46) rfl (by decide) (hdX2_knows) (tl_8_1 h0) (by decide) (cl_2) rfl (Nat.le_of_ble_eq_true rfl) dX8_of_5 rfl (fun r2 M1 => ?_)
  refine J_if_ne (tgt := 17) C dX8_of_8 (by decide) (fun _ => ?_) (fun _ => ?_)
  · refine J_iload_n C dX8_of_17 rfl 2 rfl ?_
    refine J_if_lt (tgt := 26) C dX8_of_18 (by decide) (fun _ => ?_) (fun _ => ?_)
    · refine J_aload_n C dX8_of_26 rfl 0 rfl ?_
      refine J_iconst C dX8_of_27 kci_2 ?_
      refine J_cvi (As := [.int (2 : Int32)]) C (c8_refuse (gl g) w o0 h0 (2 : Int32) M1) (gd_v W2_66 W2_68 WP_0 W1_1 W2_69) rfl (by decide) (hdX8_refuse) h0 (by decide) (cl_8) rfl (Nat.le_of_ble_eq_true rfl) dX8_of_28 rfl (fun r4 M3 => ?_)
      exact J_iret C RT rfl dX8_of_31
    · refine J_iload_n C dX8_of_21 rfl 2 rfl ?_
      refine J_iconst C dX8_of_22 kci_5 ?_
      refine J_icmp_le (tgt := 32) C dX8_of_23 (by decide) (fun _ => ?_) (fun _ => ?_)
      · refine J_aload_n C dX8_of_32 rfl 0 rfl ?_
        refine J_getr C fk8_1 W2_38 h0 dX8_of_33 ?_
        refine J_getr C fk2_3 W1_177 (tl_8_1 h0) dX8_of_36 ?_
        refine J_iload_n C dX8_of_39 rfl 1 rfl ?_
        refine J_aaload C (tl_2_3 (tl_8_1 h0)) dX8_of_40 (fun hb5 => ?_)
        refine J_iload_n C dX8_of_41 rfl 2 rfl ?_
        refine J_cvi (As := [.int x2]) C (c7_tell (gl g) w (link (link (link o0 1) 3) x1.toNatClampNeg) (t_wk (tl_2_3 (tl_8_1 h0)) hb5) x2 M1) (gd_v W3_75 W3_76 W3_77 W1_7 W3_78) rfl (by decide) (hdX7_tell) (t_wk (tl_2_3 (tl_8_1 h0)) hb5) (by decide) (cl_7) rfl (Nat.le_of_ble_eq_true rfl) dX8_of_42 rfl (fun r7 M6 => ?_)
        exact J_iret C RT rfl dX8_of_45
      · refine J_aload_n C dX8_of_26 rfl 0 rfl ?_
        refine J_iconst C dX8_of_27 kci_2 ?_
        refine J_cvi (As := [.int (2 : Int32)]) C (c8_refuse (gl g) w o0 h0 (2 : Int32) M1) (gd_v W2_66 W2_68 WP_0 W1_1 W2_69) rfl (by decide) (hdX8_refuse) h0 (by decide) (cl_8) rfl (Nat.le_of_ble_eq_true rfl) dX8_of_28 rfl (fun r9 M8 => ?_)
        exact J_iret C RT rfl dX8_of_31
  · refine J_aload_n C dX8_of_11 rfl 0 rfl ?_
    refine J_iconst C dX8_of_12 kci_1 ?_
    refine J_cvi (As := [.int (1 : Int32)]) C (c8_refuse (gl g) w o0 h0 (1 : Int32) M1) (gd_v W2_66 W2_68 WP_0 W1_1 W2_69) rfl (by decide) (hdX8_refuse) h0 (by decide) (cl_8) rfl (Nat.le_of_ble_eq_true rfl) dX8_of_13 rfl (fun r11 M10 => ?_)
    exact J_iret C RT rfl dX8_of_16
theorem c8_of (l : Launch) (w : WE) (o0 : Nat) (h0 : typ o0 = 8) (x1 : Int32) (x2 : Int32) (M : Mem) : MC l w yX8_of (wz yX8_of cX8_of 3 (some .int)) rm8_of [.ref (wa w o0), .int x1, .int x2] (s8_of o0 x1 x2 M) M :=
  mc_of_J (own := RX8) rfl (by decide) rfl rfl (Nat.le_of_ble_eq_true rfl) (fun _ _ C RT => b8_of C RT o0 h0 x1 x2 M)
theorem hdX8_of : yX8_of.cls = RX8 ∧ yOK yX8_of 2 := ⟨rfl, by decide, by decide, by decide⟩
abbrev rm8_has : Room := { frames := 1, cells := 0, slots := 0, locals := 21 }
def s8_has (o0 : Nat) (x1 : Int32) (M : Mem) : Option Res := cb (s4_isPlace (link (link o0 1) 0) x1 M) (fun r2 M1 => if r2 = 0 then (cb (s8_refuse o0 (1 : Int32) M1) (fun r6 M5 => some (r6, M5))) else (cb (s4_hasChair (link (link o0 1) 0) x1 M1) (fun r4 M3 => if r4 = 0 then (some ((0 : Int32), M3)) else (some ((1 : Int32), M3)))))
set_option maxRecDepth 100000 in
set_option maxHeartbeats 4000000 in
theorem b8_has {w : WE} {g : GT} (C : CT w g RX8 cX8_has rm8_has 2) (RT : RTi w g cX8_has .int) (o0 : Nat) (h0 : typ o0 = 8) (x1 : Int32) (M : Mem) : J w g (s8_has o0 x1 M) M 0 [(0, .ref (wa w o0)), (1, .int x1)] [] := by
  rw [s8_has]
  refine J_aload_n C dX8_has_0 rfl 0 rfl ?_
  refine J_getr C fk8_1 W2_38 h0 dX8_has_1 ?_
  refine J_getr C fk2_0 W1_164 (tl_8_1 h0) dX8_has_4 ?_
  refine J_iload_n C dX8_has_7 rfl 1 rfl ?_
  refine J_cvi (As := [.int x1]) C (c4_isPlace (gl g) w (link (link o0 1) 0) (tl_2_0 (tl_8_1 h0)) x1 M) (gd_v W3_83 W2_214 W2_215 W1_4 W2_216) rfl (by decide) (hdX4_isPlace) (tl_2_0 (tl_8_1 h0)) (by decide) (cl_4) rfl (Nat.le_of_ble_eq_true rfl) dX8_has_8 rfl (fun r2 M1 => ?_)
  refine J_if_ne (tgt := 20) C dX8_has_11 (by decide) (fun _ => ?_) (fun _ => ?_)
  · refine J_aload_n C dX8_has_20 rfl 0 rfl ?_
    refine J_getr C fk8_1 W2_38 h0 dX8_has_21 ?_
    refine J_getr C fk2_0 W1_164 (tl_8_1 h0) dX8_has_24 ?_
    refine J_iload_n C dX8_has_27 rfl 1 rfl ?_
    refine J_cvi (As := [.int x1]) C (c4_hasChair (gl g) w (link (link o0 1) 0) (tl_2_0 (tl_8_1 h0)) x1 M1) (gd_v W3_84 W2_218 W2_219 W1_4 W2_220) rfl (by decide) (hdX4_hasChair) (tl_2_0 (tl_8_1 h0)) (by decide) (cl_4) rfl (Nat.le_of_ble_eq_true rfl) dX8_has_28 rfl (fun r4 M3 => ?_)
    refine J_if_eq (tgt := 38) C dX8_has_31 (by decide) (fun _ => ?_) (fun _ => ?_)
    · refine J_iconst C dX8_has_38 kci_0 ?_
      exact J_iret C RT rfl dX8_has_39
    · refine J_iconst C dX8_has_34 kci_1 ?_
      refine J_goto (tgt := 39) C dX8_has_35 (by decide) ?_
      exact J_iret C RT rfl dX8_has_39
  · refine J_aload_n C dX8_has_14 rfl 0 rfl ?_
    refine J_iconst C dX8_has_15 kci_1 ?_
    refine J_cvi (As := [.int (1 : Int32)]) C (c8_refuse (gl g) w o0 h0 (1 : Int32) M1) (gd_v W2_66 W2_68 WP_0 W1_1 W2_69) rfl (by decide) (hdX8_refuse) h0 (by decide) (cl_8) rfl (Nat.le_of_ble_eq_true rfl) dX8_has_16 rfl (fun r6 M5 => ?_)
    exact J_iret C RT rfl dX8_has_19
theorem c8_has (l : Launch) (w : WE) (o0 : Nat) (h0 : typ o0 = 8) (x1 : Int32) (M : Mem) : MC l w yX8_has (wz yX8_has cX8_has 2 (some .int)) rm8_has [.ref (wa w o0), .int x1] (s8_has o0 x1 M) M :=
  mc_of_J (own := RX8) rfl (by decide) rfl rfl (Nat.le_of_ble_eq_true rfl) (fun _ _ C RT => b8_has C RT o0 h0 x1 M)
theorem hdX8_has : yX8_has.cls = RX8 ∧ yOK yX8_has 1 := ⟨rfl, by decide, by decide, by decide⟩
abbrev rm8_haste : Room := { frames := 1, cells := 0, slots := 0, locals := 23 }
def s8_haste (n : Nat) (o0 : Nat) (x1 : Int32) (x2 : Int32) (M : Mem) : Option Res := cb (s2_knows (link o0 1) x1 M) (fun r2 M1 => if r2 = 0 then (cb (s8_refuse o0 (1 : Int32) M1) (fun r4 M3 => some (r4, M3))) else (cb (s4_isPlace (link (link o0 1) 0) x2 M1) (fun r6 M5 => if r6 = 0 then (cb (s8_refuse o0 (1 : Int32) M5) (fun r13 M12 => some (r13, M12))) else (if inB x1 (alen (link (link o0 1) 3)) then cb (s4_far n (link (link o0 1) 0) (M5 (link (link (link o0 1) 3) x1.toNatClampNeg) 0) x2 M5) (fun r9 M8 => cb (s7_hasteOver n (link (link (link o0 1) 3) x1.toNatClampNeg) r9 M8) (fun r11 M10 => some (r11, M10))) else none))))
set_option maxRecDepth 100000 in
set_option maxHeartbeats 4000000 in
theorem b8_haste {w : WE} {g : GT} (C : CT w g RX8 cX8_haste rm8_haste 4) (RT : RTi w g cX8_haste .int) (n : Nat) (o0 : Nat) (h0 : typ o0 = 8) (x1 : Int32) (x2 : Int32) (M : Mem) : J w g (s8_haste n o0 x1 x2 M) M 0 [(0, .ref (wa w o0)), (1, .int x1), (2, .int x2)] [] := by
  rw [s8_haste]
  refine J_aload_n C dX8_haste_0 rfl 0 rfl ?_
  refine J_getr C fk8_1 W2_38 h0 dX8_haste_1 ?_
  refine J_iload_n C dX8_haste_4 rfl 1 rfl ?_
  refine J_cvi (As := [.int x1]) C (c2_knows (gl g) w (link o0 1) (tl_8_1 h0) x1 M) (gd_v W3_43 W3_44 W3_45 W1_3 W3_46) rfl (by decide) (hdX2_knows) (tl_8_1 h0) (by decide) (cl_2) rfl (Nat.le_of_ble_eq_true rfl) dX8_haste_5 rfl (fun r2 M1 => ?_)
  refine J_if_eq (tgt := 25) C dX8_haste_8 (by decide) (fun _ => ?_) (fun _ => ?_)
  · refine J_aload_n C dX8_haste_25 rfl 0 rfl ?_
    refine J_iconst C dX8_haste_26 kci_1 ?_
    refine J_cvi (As := [.int (1 : Int32)]) C (c8_refuse (gl g) w o0 h0 (1 : Int32) M1) (gd_v W2_66 W2_68 WP_0 W1_1 W2_69) rfl (by decide) (hdX8_refuse) h0 (by decide) (cl_8) rfl (Nat.le_of_ble_eq_true rfl) dX8_haste_27 rfl (fun r4 M3 => ?_)
    exact J_iret C RT rfl dX8_haste_30
  · refine J_aload_n C dX8_haste_11 rfl 0 rfl ?_
    refine J_getr C fk8_1 W2_38 h0 dX8_haste_12 ?_
    refine J_getr C fk2_0 W1_164 (tl_8_1 h0) dX8_haste_15 ?_
    refine J_iload_n C dX8_haste_18 rfl 2 rfl ?_
    refine J_cvi (As := [.int x2]) C (c4_isPlace (gl g) w (link (link o0 1) 0) (tl_2_0 (tl_8_1 h0)) x2 M1) (gd_v W3_83 W2_214 W2_215 W1_4 W2_216) rfl (by decide) (hdX4_isPlace) (tl_2_0 (tl_8_1 h0)) (by decide) (cl_4) rfl (Nat.le_of_ble_eq_true rfl) dX8_haste_19 rfl (fun r6 M5 => ?_)
    refine J_if_ne (tgt := 31) C dX8_haste_22 (by decide) (fun _ => ?_) (fun _ => ?_)
    · refine J_aload_n C dX8_haste_31 rfl 0 rfl ?_
      refine J_getr C fk8_1 W2_38 h0 dX8_haste_32 ?_
      refine J_getr C fk2_3 W1_177 (tl_8_1 h0) dX8_haste_35 ?_
      refine J_iload_n C dX8_haste_38 rfl 1 rfl ?_
      refine J_aaload C (tl_2_3 (tl_8_1 h0)) dX8_haste_39 (fun hb7 => ?_)
      refine J_astore_n (lv' := [(3, .ref (wa w (link (link (link o0 1) 3) x1.toNatClampNeg))), (0, .ref (wa w o0)), (1, .int x1), (2, .int x2)]) C dX8_haste_40 rfl (by decide) rfl ?_
      refine J_aload_n C dX8_haste_41 rfl 0 rfl ?_
      refine J_aload_n C dX8_haste_42 rfl 1 rfl ?_
      refine J_getr C fk8_1 W2_38 h0 dX8_haste_43 ?_
      refine J_getr C fk2_0 W1_164 (tl_8_1 h0) dX8_haste_46 ?_
      refine J_aload_n C dX8_haste_49 rfl 0 rfl ?_
      refine J_geti C fk7_0 W1_122 (t_wk (tl_2_3 (tl_8_1 h0)) hb7) dX8_haste_50 ?_
      refine J_iload_n C dX8_haste_53 rfl 3 rfl ?_
      refine J_cvi (As := [.int (M5 (link (link (link o0 1) 3) x1.toNatClampNeg) 0), .int x2]) C (c4_far (gl g) w n (link (link o0 1) 0) (tl_2_0 (tl_8_1 h0)) (M5 (link (link (link o0 1) 3) x1.toNatClampNeg) 0) x2 M5) (gd_v W3_89 W3_90 W3_91 W1_4 W3_92) rfl (by decide) (hdX4_far) (tl_2_0 (tl_8_1 h0)) (by decide) (cl_4) rfl (Nat.le_of_ble_eq_true rfl) dX8_haste_54 rfl (fun r9 M8 => ?_)
      refine J_cvi (As := [.int r9]) C (c7_hasteOver (gl g) w n (link (link (link o0 1) 3) x1.toNatClampNeg) (t_wk (tl_2_3 (tl_8_1 h0)) hb7) r9 M8) (gd_v W3_93 W3_94 W3_95 W1_7 W3_96) rfl (by decide) (hdX7_hasteOver) (t_wk (tl_2_3 (tl_8_1 h0)) hb7) (by decide) (cl_7) rfl (Nat.le_of_ble_eq_true rfl) dX8_haste_57 rfl (fun r11 M10 => ?_)
      exact J_iret C RT rfl dX8_haste_60
    · refine J_aload_n C dX8_haste_25 rfl 0 rfl ?_
      refine J_iconst C dX8_haste_26 kci_1 ?_
      refine J_cvi (As := [.int (1 : Int32)]) C (c8_refuse (gl g) w o0 h0 (1 : Int32) M5) (gd_v W2_66 W2_68 WP_0 W1_1 W2_69) rfl (by decide) (hdX8_refuse) h0 (by decide) (cl_8) rfl (Nat.le_of_ble_eq_true rfl) dX8_haste_27 rfl (fun r13 M12 => ?_)
      exact J_iret C RT rfl dX8_haste_30
theorem c8_haste (l : Launch) (w : WE) (n : Nat) (o0 : Nat) (h0 : typ o0 = 8) (x1 : Int32) (x2 : Int32) (M : Mem) : MC l w yX8_haste (wz yX8_haste cX8_haste 4 (some .int)) rm8_haste [.ref (wa w o0), .int x1, .int x2] (s8_haste n o0 x1 x2 M) M :=
  mc_of_J (own := RX8) rfl (by decide) rfl rfl (Nat.le_of_ble_eq_true rfl) (fun _ _ C RT => b8_haste C RT n o0 h0 x1 x2 M)
theorem hdX8_haste : yX8_haste.cls = RX8 ∧ yOK yX8_haste 2 := ⟨rfl, by decide, by decide, by decide⟩
abbrev rm8_go : Room := { frames := 4, cells := 0, slots := 0, locals := 93 }
def s8_go_35 (n : Nat) (o0 : Nat) (x1 : Int32) : Nat → Int32 → Mem → Option Res
  | 0, _, _ => none
  | f + 1, x3, M => if x1 ≤ x3 then (some ((0 : Int32), M)) else (cb (s2_passTenth n (link o0 1) M) (fun r4 M3 => if r4 = 0 then (ilet (x3 + 1) (fun v5 => s8_go_35 n o0 x1 f v5 M3)) else (cb (s2_endRound n (link o0 1) M3) (fun r7 M6 => if (M6 (link o0 1) 9) = 0 then (some ((1 : Int32), M6)) else (some ((2 : Int32), M6))))))
set_option maxRecDepth 100000 in
set_option maxHeartbeats 4000000 in
theorem b8_go_35 {w : WE} {g : GT} (C : CT w g RX8 cX8_go rm8_go 4) (RT : RTi w g cX8_go .int) (n : Nat) (o0 : Nat) (h0 : typ o0 = 8) (x1 : Int32) : ∀ (f : Nat) (x3 : Int32) (M : Mem), J w g (s8_go_35 n o0 x1 f x3 M) M 35 [(0, .ref (wa w o0)), (1, .int x1), (3, .int x3)] [] := by
  intro f
  induction f with
  | zero =>
    intro x3 M
    rw [s8_go_35]
    exact J_none
  | succ f ih =>
    intro x3 M
    rw [s8_go_35]
    refine J_iload_n C dX8_go_35 rfl 2 rfl ?_
    refine J_iload_n C dX8_go_36 rfl 1 rfl ?_
    refine J_icmp_ge (tgt := 80) C dX8_go_37 (by decide) (fun _ => ?_) (fun _ => ?_)
    · refine J_iconst C dX8_go_80 kci_0 ?_
      exact J_iret C RT rfl dX8_go_81
    · refine J_aload_n C dX8_go_40 rfl 0 rfl ?_
      refine J_getr C fk8_1 W2_38 h0 dX8_go_41 ?_
      refine J_cvi (As := []) C (c2_passTenth (gl g) w n (link o0 1) (tl_8_1 h0) M) (gd_v W3_113 W3_114 W3_115 W1_3 W3_116) rfl (by decide) (hdX2_passTenth) (tl_8_1 h0) (by decide) (cl_2) rfl (Nat.le_of_ble_eq_true rfl) dX8_go_44 rfl (fun r4 M3 => ?_)
      refine J_if_eq (tgt := 74) C dX8_go_47 (by decide) (fun _ => ?_) (fun _ => ?_)
      · refine J_iinc (lw := fun v5 => [(3, .int v5), (0, .ref (wa w o0)), (1, .int x1)]) (X := x3 + 1) C dX8_go_74 (q := 2) rfl (by rw [kci_1]) (by decide) (fun _ => rfl) (fun v5 => ?_)
        refine J_goto (tgt := 35) C dX8_go_77 (by decide) ?_
        refine J_lv [1, 2, 0] rfl ?_
        exact ih v5 M3
      · refine J_aload_n C dX8_go_50 rfl 0 rfl ?_
        refine J_getr C fk8_1 W2_38 h0 dX8_go_51 ?_
        refine J_cvi (As := []) C (c2_endRound (gl g) w n (link o0 1) (tl_8_1 h0) M3) (gd_v W3_140 W3_141 W3_142 W1_3 W3_143) rfl (by decide) (hdX2_endRound) (tl_8_1 h0) (by decide) (cl_2) rfl (Nat.le_of_ble_eq_true rfl) dX8_go_54 rfl (fun r7 M6 => ?_)
        refine J_pop C rfl dX8_go_57 ?_
        refine J_aload_n C dX8_go_58 rfl 0 rfl ?_
        refine J_getr C fk8_1 W2_38 h0 dX8_go_59 ?_
        refine J_geti C fk2_9 W1_192 (tl_8_1 h0) dX8_go_62 ?_
        refine J_if_eq (tgt := 72) C dX8_go_65 (by decide) (fun _ => ?_) (fun _ => ?_)
        · refine J_iconst C dX8_go_72 kci_1 ?_
          exact J_iret C RT rfl dX8_go_73
        · refine J_iconst C dX8_go_68 kci_2 ?_
          refine J_goto (tgt := 73) C dX8_go_69 (by decide) ?_
          exact J_iret C RT rfl dX8_go_73
def s8_go_22 (n : Nat) (o0 : Nat) (x1 : Int32) (t0 : Int32) (M : Mem) : Option Res := if t0 = 0 then (s8_go_35 n o0 x1 n (0 : Int32) M) else (cb (s8_refuse o0 t0 M) (fun r9 M8 => some (r9, M8)))
set_option maxRecDepth 100000 in
set_option maxHeartbeats 4000000 in
theorem b8_go_22 {w : WE} {g : GT} (C : CT w g RX8 cX8_go rm8_go 4) (RT : RTi w g cX8_go .int) (n : Nat) (o0 : Nat) (h0 : typ o0 = 8) (x1 : Int32) (t0 : Int32) (M : Mem) : J w g (s8_go_22 n o0 x1 t0 M) M 22 [(0, .ref (wa w o0)), (1, .int x1)] [.int t0] := by
  rw [s8_go_22]
  refine J_istore_n (lv' := [(2, .int t0), (0, .ref (wa w o0)), (1, .int x1)]) C dX8_go_22 rfl (by decide) rfl ?_
  refine J_iload_n C dX8_go_23 rfl 0 rfl ?_
  refine J_if_eq (tgt := 33) C dX8_go_24 (by decide) (fun _ => ?_) (fun _ => ?_)
  · refine J_iconst C dX8_go_33 kci_0 ?_
    refine J_istore_n (lv' := [(3, .int (0 : Int32)), (2, .int t0), (0, .ref (wa w o0)), (1, .int x1)]) C dX8_go_34 rfl (by decide) rfl ?_
    refine J_lv [2, 3, 0] rfl ?_
    exact b8_go_35 C RT n o0 h0 x1 n (0 : Int32) M
  · refine J_aload_n C dX8_go_27 rfl 1 rfl ?_
    refine J_iload_n C dX8_go_28 rfl 0 rfl ?_
    refine J_cvi (As := [.int t0]) C (c8_refuse (gl g) w o0 h0 t0 M) (gd_v W2_66 W2_68 WP_0 W1_1 W2_69) rfl (by decide) (hdX8_refuse) h0 (by decide) (cl_8) rfl (Nat.le_of_ble_eq_true rfl) dX8_go_29 rfl (fun r9 M8 => ?_)
    exact J_iret C RT rfl dX8_go_32
def s8_go (n : Nat) (o0 : Nat) (x1 : Int32) (M : Mem) : Option Res := cb (s2_canGoOn n (link o0 1) M) (fun r2 M1 => if r2 = 0 then (s8_go_22 n o0 x1 (3 : Int32) M1) else (cb (s8_whyNotWithin x1 (1 : Int32) (300 : Int32) M1) (fun r11 M10 => s8_go_22 n o0 x1 r11 M10)))
set_option maxRecDepth 100000 in
set_option maxHeartbeats 4000000 in
theorem b8_go {w : WE} {g : GT} (C : CT w g RX8 cX8_go rm8_go 4) (RT : RTi w g cX8_go .int) (n : Nat) (o0 : Nat) (h0 : typ o0 = 8) (x1 : Int32) (M : Mem) : J w g (s8_go n o0 x1 M) M 0 [(0, .ref (wa w o0)), (1, .int x1)] [] := by
  rw [s8_go]
  refine J_aload_n C dX8_go_0 rfl 0 rfl ?_
  refine J_getr C fk8_1 W2_38 h0 dX8_go_1 ?_
  refine J_cvi (As := []) C (c2_canGoOn (gl g) w n (link o0 1) (tl_8_1 h0) M) (gd_v W3_101 W3_102 W3_103 W1_3 W3_104) rfl (by decide) (hdX2_canGoOn) (tl_8_1 h0) (by decide) (cl_2) rfl (Nat.le_of_ble_eq_true rfl) dX8_go_4 rfl (fun r2 M1 => ?_)
  refine J_if_eq (tgt := 21) C dX8_go_7 (by decide) (fun _ => ?_) (fun _ => ?_)
  · refine J_iconst C dX8_go_21 kci_3 ?_
    exact b8_go_22 C RT n o0 h0 x1 (3 : Int32) M1
  · refine J_iload_n C dX8_go_10 rfl 1 rfl ?_
    refine J_iconst C dX8_go_11 kci_1 ?_
    refine J_sipush C dX8_go_12 kcs_300 ?_
    refine J_csi (As := [.int x1, .int (1 : Int32), .int (300 : Int32)]) (dm := 0) C (c8_whyNotWithin (gl g) w x1 (1 : Int32) (300 : Int32) M1) (gd_s W3_66 W2_203 W1_1 W2_204) rfl (by decide) (hdX8_whyNotWithin.2) rfl (Nat.le_of_ble_eq_true rfl) dX8_go_15 rfl (fun r11 M10 => ?_)
    refine J_goto (tgt := 22) C dX8_go_18 (by decide) ?_
    exact b8_go_22 C RT n o0 h0 x1 r11 M10
theorem c8_go (l : Launch) (w : WE) (n : Nat) (o0 : Nat) (h0 : typ o0 = 8) (x1 : Int32) (M : Mem) : MC l w yX8_go (wz yX8_go cX8_go 4 (some .int)) rm8_go [.ref (wa w o0), .int x1] (s8_go n o0 x1 M) M :=
  mc_of_J (own := RX8) rfl (by decide) rfl rfl (Nat.le_of_ble_eq_true rfl) (fun _ _ C RT => b8_go C RT n o0 h0 x1 M)
theorem hdX8_go : yX8_go.cls = RX8 ∧ yOK yX8_go 1 := ⟨rfl, by decide, by decide, by decide⟩
