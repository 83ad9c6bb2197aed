abbrev rm9_stops : Room := { frames := 4, cells := 0, slots := 0, locals := 93 }
def s9_stops_38 (n : Nat) (o0 : Nat) (x1 : Int32) (M : Mem) : Option Res := mlet (mset M o0 18 ((M o0 18) + (1 : Int32))) (fun M5 => mlet (mset M5 o0 17 (0 : Int32)) (fun M6 => if x1 < 0 then (mlet (mset M6 o0 19 (1 : Int32)) (fun M7 => some (x1, M7))) else (cb (s9_ins n o0 M6) (fun r9 M8 => if r9 = (1 : Int32) then (mlet (mset M8 o0 19 (1 : Int32)) (fun M10 => some (x1, M10))) else (some (x1, M8))))))
set_option maxRecDepth 100000 in
set_option maxHeartbeats 4000000 in
theorem b9_stops_38 {w : WE} {g : GT} (C : CT w g RX9 cX9_stops rm9_stops 2) (RT : RTi w g cX9_stops .int) (n : Nat) (o0 : Nat) (h0 : typ o0 = 9) (x1 : Int32) (M : Mem) : J w g (s9_stops_38 n o0 x1 M) M 38 [(0, .ref (wa w o0)), (1, .int x1)] [] := by
  rw [s9_stops_38]
  refine J_aload_n C dX9_stops_38 rfl 0 rfl ?_
  refine J_dup C rfl dX9_stops_39 ?_
  refine J_geti C fk9_18 W4_195 h0 dX9_stops_40 ?_
  refine J_iconst C dX9_stops_43 kci_1 ?_
  refine J_iadd C dX9_stops_44 ?_
  refine J_puti C fk9_18 W4_195 fp9_18 h0 dX9_stops_45 ?_
  refine J_mlet (fun M5 => ?_)
  refine J_aload_n C dX9_stops_48 rfl 0 rfl ?_
  refine J_iconst C dX9_stops_49 kci_0 ?_
  refine J_puti C fk9_17 W4_194 fp9_17 h0 dX9_stops_50 ?_
  refine J_mlet (fun M6 => ?_)
  refine J_iload_n C dX9_stops_53 rfl 1 rfl ?_
  refine J_if_lt (tgt := 65) C dX9_stops_54 (by decide) (fun _ => ?_) (fun _ => ?_)
  · refine J_aload_n C dX9_stops_65 rfl 0 rfl ?_
    refine J_iconst C dX9_stops_66 kci_1 ?_
    refine J_puti C fk9_19 W4_196 fp9_19 h0 dX9_stops_67 ?_
    refine J_mlet (fun M7 => ?_)
    refine J_iload_n C dX9_stops_70 rfl 1 rfl ?_
    exact J_iret C RT rfl dX9_stops_71
  · refine J_aload_n C dX9_stops_57 rfl 0 rfl ?_
    refine J_cvi (As := []) C (c9_ins (gl g) w n o0 h0 M6) (gd_v W5_197 W5_199 WP_43 W1_10 W5_200) rfl (by decide) (hdX9_ins) h0 (by decide) (cl_9) rfl (Nat.le_of_ble_eq_true rfl) dX9_stops_58 rfl (fun r9 M8 => ?_)
    refine J_iconst C dX9_stops_61 kci_1 ?_
    refine J_icmp_ne (tgt := 70) C dX9_stops_62 (by decide) (fun _ => ?_) (fun _ => ?_)
    · refine J_iload_n C dX9_stops_70 rfl 1 rfl ?_
      exact J_iret C RT rfl dX9_stops_71
    · refine J_aload_n C dX9_stops_65 rfl 0 rfl ?_
      refine J_iconst C dX9_stops_66 kci_1 ?_
      refine J_puti C fk9_19 W4_196 fp9_19 h0 dX9_stops_67 ?_
      refine J_mlet (fun M10 => ?_)
      refine J_iload_n C dX9_stops_70 rfl 1 rfl ?_
      exact J_iret C RT rfl dX9_stops_71
def s9_stops (n : Nat) (o0 : Nat) (M : Mem) : Option Res := cb (s9_sit n o0 M) (fun _ M1 => cb (s9_goer n o0 M1) (fun r4 M3 => if r4 < 0 then (s9_stops_38 n o0 r4 M3) else (if inB r4 (alen (link o0 4)) then mlet (mset M3 (link o0 4) r4.toNatClampNeg (0 : Int32)) (fun M11 => cb (s9_chairs n o0 M11) (fun r13 M12 => if r13 ≤ (1 : Int32) then (s9_stops_38 n o0 r4 M12) else (cb (s9_leaver n o0 M12) (fun r15 M14 => if inB r15 (alen (link o0 1)) then mlet (mset M14 (link o0 1) r15.toNatClampNeg (0 : Int32)) (fun M16 => s9_stops_38 n o0 r4 M16) else none)))) else none)))
set_option maxRecDepth 100000 in
set_option maxHeartbeats 4000000 in
theorem b9_stops {w : WE} {g : GT} (C : CT w g RX9 cX9_stops rm9_stops 2) (RT : RTi w g cX9_stops .int) (n : Nat) (o0 : Nat) (h0 : typ o0 = 9) (M : Mem) : J w g (s9_stops n o0 M) M 0 [(0, .ref (wa w o0))] [] := by
  rw [s9_stops]
  refine J_aload_n C dX9_stops_0 rfl 0 rfl ?_
  refine J_cvv (As := []) C (c9_sit (gl g) w n o0 h0 M) (gd_v W5_220 W5_222 WP_48 W1_10 W5_223) rfl (by decide) (hdX9_sit) h0 (by decide) (cl_9) rfl (Nat.le_of_ble_eq_true rfl) dX9_stops_1 rfl (fun r2 M1 => ?_)
  refine J_aload_n C dX9_stops_4 rfl 0 rfl ?_
  refine J_cvi (As := []) C (c9_goer (gl g) w n o0 h0 M1) (gd_v W6_0 W6_2 WP_53 W1_10 W6_3) rfl (by decide) (hdX9_goer) h0 (by decide) (cl_9) rfl (Nat.le_of_ble_eq_true rfl) dX9_stops_5 rfl (fun r4 M3 => ?_)
  refine J_istore_n (lv' := [(1, .int r4), (0, .ref (wa w o0))]) C dX9_stops_8 rfl (by decide) rfl ?_
  refine J_iload_n C dX9_stops_9 rfl 0 rfl ?_
  refine J_if_lt (tgt := 38) C dX9_stops_10 (by decide) (fun _ => ?_) (fun _ => ?_)
  · refine J_lv [1, 0] rfl ?_
    exact b9_stops_38 C RT n o0 h0 r4 M3
  · refine J_aload_n C dX9_stops_13 rfl 1 rfl ?_
    refine J_getr C fk9_4 W4_181 h0 dX9_stops_14 ?_
    refine J_iload_n C dX9_stops_17 rfl 0 rfl ?_
    refine J_iconst C dX9_stops_18 kci_0 ?_
    refine J_iastore C (tl_9_4 h0) dX9_stops_19 ?_
    refine J_mlet (fun M11 => ?_)
    refine J_aload_n C dX9_stops_20 rfl 1 rfl ?_
    refine J_cvi (As := []) C (c9_chairs (gl g) w n o0 h0 M11) (gd_v W5_82 W5_84 WP_27 W1_10 W5_85) rfl (by decide) (hdX9_chairs) h0 (by decide) (cl_9) rfl (Nat.le_of_ble_eq_true rfl) dX9_stops_21 rfl (fun r13 M12 => ?_)
    refine J_iconst C dX9_stops_24 kci_1 ?_
    refine J_icmp_le (tgt := 38) C dX9_stops_25 (by decide) (fun _ => ?_) (fun _ => ?_)
    · refine J_lv [1, 0] rfl ?_
      exact b9_stops_38 C RT n o0 h0 r4 M12
    · refine J_aload_n C dX9_stops_28 rfl 1 rfl ?_
      refine J_getr C fk9_1 W4_178 h0 dX9_stops_29 ?_
      refine J_aload_n C dX9_stops_32 rfl 1 rfl ?_
      refine J_cvi (As := []) C (c9_leaver (gl g) w n o0 h0 M12) (gd_v W6_8 W6_10 WP_55 W1_10 W6_11) rfl (by decide) (hdX9_leaver) h0 (by decide) (cl_9) rfl (Nat.le_of_ble_eq_true rfl) dX9_stops_33 rfl (fun r15 M14 => ?_)
      refine J_iconst C dX9_stops_36 kci_0 ?_
      refine J_iastore C (tl_9_1 h0) dX9_stops_37 ?_
      refine J_mlet (fun M16 => ?_)
      refine J_lv [1, 0] rfl ?_
      exact b9_stops_38 C RT n o0 h0 r4 M16
theorem c9_stops (l : Launch) (w : WE) (n : Nat) (o0 : Nat) (h0 : typ o0 = 9) (M : Mem) : MC l w yX9_stops (wz yX9_stops cX9_stops 2 (some .int)) rm9_stops [.ref (wa w o0)] (s9_stops n o0 M) M :=
  mc_of_J (own := RX9) rfl (by decide) rfl rfl (Nat.le_of_ble_eq_true rfl) (fun _ _ C RT => b9_stops C RT n o0 h0 M)
theorem hdX9_stops : yX9_stops.cls = RX9 ∧ yOK yX9_stops 0 := ⟨rfl, by decide, by decide, by decide⟩
abbrev rm9_doesStop : Room := { frames := 0, cells := 0, slots := 0, locals := 0 }
def s9_doesStop (o0 : Nat) (M : Mem) : Option Res := mlet (mset M o0 16 (((M o0 16) * (1103515245 : Int32)) + (12345 : Int32))) (fun M1 => ilet ((((M1 o0 16) &&& (2147483647 : Int32)) / (65536 : Int32)) - (((M1 o0 16) &&& (2147483647 : Int32)) / (65536 : Int32)) / (100 : Int32) * (100 : Int32)) (fun v2 => if (M1 o0 17) < (300 : Int32) then (if (M1 o0 13) = 1 then (if (M1 o0 14) ≤ v2 then (some ((0 : Int32), M1)) else (if ((M1 o0 17) - (M1 o0 17) / (8 : Int32) * (8 : Int32)) = 0 then (some ((1 : Int32), M1)) else (some ((0 : Int32), M1)))) else (if (M1 o0 13) = 2 then (if (M1 o0 14) ≤ v2 then (some ((0 : Int32), M1)) else (if (M1 o0 17) < (M1 o0 14) then (some ((0 : Int32), M1)) else (some ((1 : Int32), M1)))) else (if (M1 o0 13) = 3 then (if (M1 o0 12) = 0 then none else ilet ((M1 o0 14) - (M1 o0 14) / (M1 o0 12) * (M1 o0 12)) (fun v3 => if inB v3 (alen (link o0 4)) then if (M1 (link o0 4) v3.toNatClampNeg) = (1 : Int32) then (if inB v3 (alen (link o0 2)) then if inB (M1 (link o0 2) v3.toNatClampNeg) (alen (link o0 1)) then if (M1 (link o0 1) (M1 (link o0 2) v3.toNatClampNeg).toNatClampNeg) = (1 : Int32) then (some ((1 : Int32), M1)) else (some ((0 : Int32), M1)) else none else none) else (some ((0 : Int32), M1)) else none)) else (if (M1 o0 13) = 4 then (if (M1 o0 17) = (M1 o0 14) then (some ((1 : Int32), M1)) else (some ((0 : Int32), M1))) else (if (M1 o0 14) ≤ v2 then (some ((0 : Int32), M1)) else (some ((1 : Int32), M1))))))) else (some ((1 : Int32), M1))))
set_option maxRecDepth 100000 in
set_option maxHeartbeats 4000000 in
theorem b9_doesStop {w : WE} {g : GT} (C : CT w g RX9 cX9_doesStop rm9_doesStop 3) (RT : RTi w g cX9_doesStop .boolean) (o0 : Nat) (h0 : typ o0 = 9) (M : Mem) : J w g (s9_doesStop o0 M) M 0 [(0, .ref (wa w o0))] [] := by
  rw [s9_doesStop]
  refine J_aload_n C dX9_doesStop_0 rfl 0 rfl ?_
  refine J_aload_n C dX9_doesStop_1 rfl 0 rfl ?_
  refine J_geti C fk9_16 W4_193 h0 dX9_doesStop_2 ?_
  refine J_ldc C W5_213 dX9_doesStop_5 ?_
  refine J_imul C dX9_doesStop_7 ?_
  refine J_sipush C dX9_doesStop_8 kcs_12345 ?_
  refine J_iadd C dX9_doesStop_11 ?_
  refine J_puti C fk9_16 W4_193 fp9_16 h0 dX9_doesStop_12 ?_
  refine J_mlet (fun M1 => ?_)
  refine J_aload_n C dX9_doesStop_15 rfl 0 rfl ?_
  refine J_geti C fk9_16 W4_193 h0 dX9_doesStop_16 ?_
  refine J_ldc C W5_214 dX9_doesStop_19 ?_
  refine J_iand C dX9_doesStop_21 ?_
  refine J_ldc C W5_215 dX9_doesStop_22 ?_
  refine J_idiv_c C (by decide) dX9_doesStop_24 ?_
  refine J_bipush C dX9_doesStop_25 kcb_100 ?_
  refine J_irem_c C (by decide) dX9_doesStop_27 ?_
  refine J_ilet (fun v2 => ?_)
  refine J_istore_n (lv' := [(1, .int v2), (0, .ref (wa w o0))]) C dX9_doesStop_28 rfl (by decide) rfl ?_
  refine J_aload_n C dX9_doesStop_29 rfl 1 rfl ?_
  refine J_geti C fk9_17 W4_194 h0 dX9_doesStop_30 ?_
  refine J_sipush C dX9_doesStop_33 kcs_300 ?_
  refine J_icmp_lt (tgt := 41) C dX9_doesStop_36 (by decide) (fun _ => ?_) (fun _ => ?_)
  · refine J_aload_n C dX9_doesStop_41 rfl 1 rfl ?_
    refine J_geti C fk9_13 W4_190 h0 dX9_doesStop_42 ?_
    refine J_ite (fun hc0 => ?_) (fun hc0 => ?_)
    · refine J_tsin (tgt := 76) C dX9_doesStop_45 (by rw [hc0]; decide) (by rw [hc0]; decide) (off := 31) (by rw [hc0]; rfl) (by decide) ?_
      refine J_iload_n C dX9_doesStop_76 rfl 0 rfl ?_
      refine J_aload_n C dX9_doesStop_77 rfl 1 rfl ?_
      refine J_geti C fk9_14 W4_191 h0 dX9_doesStop_78 ?_
      refine J_icmp_ge (tgt := 98) C dX9_doesStop_81 (by decide) (fun _ => ?_) (fun _ => ?_)
      · refine J_iconst C dX9_doesStop_98 kci_0 ?_
        exact J_iret C RT (by decide) dX9_doesStop_99
      · refine J_aload_n C dX9_doesStop_84 rfl 1 rfl ?_
        refine J_geti C fk9_17 W4_194 h0 dX9_doesStop_85 ?_
        refine J_bipush C dX9_doesStop_88 kcb_8 ?_
        refine J_irem_c C (by decide) dX9_doesStop_90 ?_
        refine J_if_ne (tgt := 98) C dX9_doesStop_91 (by decide) (fun _ => ?_) (fun _ => ?_)
        · refine J_iconst C dX9_doesStop_98 kci_0 ?_
          exact J_iret C RT (by decide) dX9_doesStop_99
        · refine J_iconst C dX9_doesStop_94 kci_1 ?_
          refine J_goto (tgt := 99) C dX9_doesStop_95 (by decide) ?_
          exact J_iret C RT (by decide) dX9_doesStop_99
    · refine J_ite (fun hc1 => ?_) (fun hc1 => ?_)
      · refine J_tsin (tgt := 100) C dX9_doesStop_45 (by rw [hc1]; decide) (by rw [hc1]; decide) (off := 55) (by rw [hc1]; rfl) (by decide) ?_
        refine J_iload_n C dX9_doesStop_100 rfl 0 rfl ?_
        refine J_aload_n C dX9_doesStop_101 rfl 1 rfl ?_
        refine J_geti C fk9_14 W4_191 h0 dX9_doesStop_102 ?_
        refine J_icmp_ge (tgt := 123) C dX9_doesStop_105 (by decide) (fun _ => ?_) (fun _ => ?_)
        · refine J_iconst C dX9_doesStop_123 kci_0 ?_
          exact J_iret C RT (by decide) dX9_doesStop_124
        · refine J_aload_n C dX9_doesStop_108 rfl 1 rfl ?_
          refine J_geti C fk9_17 W4_194 h0 dX9_doesStop_109 ?_
          refine J_aload_n C dX9_doesStop_112 rfl 1 rfl ?_
          refine J_geti C fk9_14 W4_191 h0 dX9_doesStop_113 ?_
          refine J_icmp_lt (tgt := 123) C dX9_doesStop_116 (by decide) (fun _ => ?_) (fun _ => ?_)
          · refine J_iconst C dX9_doesStop_123 kci_0 ?_
            exact J_iret C RT (by decide) dX9_doesStop_124
          · refine J_iconst C dX9_doesStop_119 kci_1 ?_
            refine J_goto (tgt := 124) C dX9_doesStop_120 (by decide) ?_
            exact J_iret C RT (by decide) dX9_doesStop_124
      · refine J_ite (fun hc2 => ?_) (fun hc2 => ?_)
        · refine J_tsin (tgt := 125) C dX9_doesStop_45 (by rw [hc2]; decide) (by rw [hc2]; decide) (off := 80) (by rw [hc2]; rfl) (by decide) ?_
          refine J_aload_n C dX9_doesStop_125 rfl 1 rfl ?_
          refine J_geti C fk9_14 W4_191 h0 dX9_doesStop_126 ?_
          refine J_aload_n C dX9_doesStop_129 rfl 1 rfl ?_
          refine J_geti C fk9_12 W4_189 h0 dX9_doesStop_130 ?_
          refine J_irem C dX9_doesStop_133 ?_
          refine J_ilet (fun v3 => ?_)
          refine J_istore_n (lv' := [(2, .int v3), (1, .int v2), (0, .ref (wa w o0))]) C dX9_doesStop_134 rfl (by decide) rfl ?_
          refine J_aload_n C dX9_doesStop_135 rfl 2 rfl ?_
          refine J_getr C fk9_4 W4_181 h0 dX9_doesStop_136 ?_
          refine J_iload_n C dX9_doesStop_139 rfl 0 rfl ?_
          refine J_aload_ C (tl_9_4 h0) dX9_doesStop_140 ?_
          refine J_iconst C dX9_doesStop_141 kci_1 ?_
          refine J_icmp_ne (tgt := 164) C dX9_doesStop_142 (by decide) (fun _ => ?_) (fun _ => ?_)
          · refine J_iconst C dX9_doesStop_164 kci_0 ?_
            exact J_iret C RT (by decide) dX9_doesStop_165
          · refine J_aload_n C dX9_doesStop_145 rfl 2 rfl ?_
            refine J_getr C fk9_1 W4_178 h0 dX9_doesStop_146 ?_
            refine J_aload_n C dX9_doesStop_149 rfl 2 rfl ?_
            refine J_getr C fk9_2 W4_179 h0 dX9_doesStop_150 ?_
            refine J_iload_n C dX9_doesStop_153 rfl 0 rfl ?_
            refine J_aload_ C (tl_9_2 h0) dX9_doesStop_154 ?_
            refine J_aload_ C (tl_9_1 h0) dX9_doesStop_155 ?_
            refine J_iconst C dX9_doesStop_156 kci_1 ?_
            refine J_icmp_ne (tgt := 164) C dX9_doesStop_157 (by decide) (fun _ => ?_) (fun _ => ?_)
            · refine J_iconst C dX9_doesStop_164 kci_0 ?_
              exact J_iret C RT (by decide) dX9_doesStop_165
            · refine J_iconst C dX9_doesStop_160 kci_1 ?_
              refine J_goto (tgt := 165) C dX9_doesStop_161 (by decide) ?_
              exact J_iret C RT (by decide) dX9_doesStop_165
        · refine J_ite (fun hc3 => ?_) (fun hc3 => ?_)
          · refine J_tsin (tgt := 166) C dX9_doesStop_45 (by rw [hc3]; decide) (by rw [hc3]; decide) (off := 121) (by rw [hc3]; rfl) (by decide) ?_
            refine J_aload_n C dX9_doesStop_166 rfl 1 rfl ?_
            refine J_geti C fk9_17 W4_194 h0 dX9_doesStop_167 ?_
            refine J_aload_n C dX9_doesStop_170 rfl 1 rfl ?_
            refine J_geti C fk9_14 W4_191 h0 dX9_doesStop_171 ?_
            refine J_icmp_ne (tgt := 181) C dX9_doesStop_174 (by decide) (fun _ => ?_) (fun _ => ?_)
            · refine J_iconst C dX9_doesStop_181 kci_0 ?_
              exact J_iret C RT (by decide) dX9_doesStop_182
            · refine J_iconst C dX9_doesStop_177 kci_1 ?_
              refine J_goto (tgt := 182) C dX9_doesStop_178 (by decide) ?_
              exact J_iret C RT (by decide) dX9_doesStop_182
          · refine J_tsout (tgt := 183) C dX9_doesStop_45 (by have q0 := lv_neT hc0 (a := 1) rfl; have q1 := lv_neT hc1 (a := 2) rfl; have q2 := lv_neT hc2 (a := 3) rfl; have q3 := lv_neT hc3 (a := 4) rfl; omega) (by decide) ?_
            refine J_iload_n C dX9_doesStop_183 rfl 0 rfl ?_
            refine J_aload_n C dX9_doesStop_184 rfl 1 rfl ?_
            refine J_geti C fk9_14 W4_191 h0 dX9_doesStop_185 ?_
            refine J_icmp_ge (tgt := 195) C dX9_doesStop_188 (by decide) (fun _ => ?_) (fun _ => ?_)
            · refine J_iconst C dX9_doesStop_195 kci_0 ?_
              exact J_iret C RT (by decide) dX9_doesStop_196
            · refine J_iconst C dX9_doesStop_191 kci_1 ?_
              refine J_goto (tgt := 196) C dX9_doesStop_192 (by decide) ?_
              exact J_iret C RT (by decide) dX9_doesStop_196
  · refine J_iconst C dX9_doesStop_39 kci_1 ?_
    exact J_iret C RT (by decide) dX9_doesStop_40
theorem c9_doesStop (l : Launch) (w : WE) (o0 : Nat) (h0 : typ o0 = 9) (M : Mem) : MC l w yX9_doesStop (wz yX9_doesStop cX9_doesStop 3 (some .boolean)) rm9_doesStop [.ref (wa w o0)] (s9_doesStop o0 M) M :=
  mc_of_J (own := RX9) rfl (by decide) rfl rfl (Nat.le_of_ble_eq_true rfl) (fun _ _ C RT => b9_doesStop C RT o0 h0 M)
theorem hdX9_doesStop : yX9_doesStop.cls = RX9 ∧ yOK yX9_doesStop 0 := ⟨rfl, by decide, by decide, by decide⟩
abbrev rm9_goesOn : Room := { frames := 5, cells := 0, slots := 0, locals := 114 }
def s9_goesOn (n : Nat) (o0 : Nat) (M : Mem) : Option Res := cb (s9_walks n o0 M) (fun _ M1 => mlet (mset M1 o0 17 ((M1 o0 17) + (1 : Int32))) (fun M3 => cb (s9_doesStop o0 M3) (fun r5 M4 => if r5 = 0 then (some ((0 : Int32), M4)) else (cb (s9_stops n o0 M4) (fun r7 M6 => some ((1 : Int32), M6))))))
set_option maxRecDepth 100000 in
set_option maxHeartbeats 4000000 in
theorem b9_goesOn {w : WE} {g : GT} (C : CT w g RX9 cX9_goesOn rm9_goesOn 1) (RT : RTi w g cX9_goesOn .boolean) (n : Nat) (o0 : Nat) (h0 : typ o0 = 9) (M : Mem) : J w g (s9_goesOn n o0 M) M 0 [(0, .ref (wa w o0))] [] := by
  rw [s9_goesOn]
  refine J_aload_n C dX9_goesOn_0 rfl 0 rfl ?_
  refine J_cvv (As := []) C (c9_walks (gl g) w n o0 h0 M) (gd_v W5_205 W5_207 WP_45 W1_10 W5_208) rfl (by decide) (hdX9_walks) h0 (by decide) (cl_9) rfl (Nat.le_of_ble_eq_true rfl) dX9_goesOn_1 rfl (fun r2 M1 => ?_)
  refine J_aload_n C dX9_goesOn_4 rfl 0 rfl ?_
  refine J_dup C rfl dX9_goesOn_5 ?_
  refine J_geti C fk9_17 W4_194 h0 dX9_goesOn_6 ?_
  refine J_iconst C dX9_goesOn_9 kci_1 ?_
  refine J_iadd C dX9_goesOn_10 ?_
  refine J_puti C fk9_17 W4_194 fp9_17 h0 dX9_goesOn_11 ?_
  refine J_mlet (fun M3 => ?_)
  refine J_aload_n C dX9_goesOn_14 rfl 0 rfl ?_
  refine J_cvi (As := []) C (c9_doesStop (gl g) w o0 h0 M3) (gd_v W5_209 W5_211 WP_46 W1_10 W5_212) rfl (by decide) (hdX9_doesStop) h0 (by decide) (cl_9) rfl (Nat.le_of_ble_eq_true rfl) dX9_goesOn_15 rfl (fun r5 M4 => ?_)
  refine J_if_ne (tgt := 23) C dX9_goesOn_18 (by decide) (fun _ => ?_) (fun _ => ?_)
  · refine J_aload_n C dX9_goesOn_23 rfl 0 rfl ?_
    refine J_cvi (As := []) C (c9_stops (gl g) w n o0 h0 M4) (gd_v W5_216 W5_218 WP_47 W1_10 W5_219) rfl (by decide) (hdX9_stops) h0 (by decide) (cl_9) rfl (Nat.le_of_ble_eq_true rfl) dX9_goesOn_24 rfl (fun r7 M6 => ?_)
    refine J_pop C rfl dX9_goesOn_27 ?_
    refine J_iconst C dX9_goesOn_28 kci_1 ?_
    exact J_iret C RT (by decide) dX9_goesOn_29
  · refine J_iconst C dX9_goesOn_21 kci_0 ?_
    exact J_iret C RT (by decide) dX9_goesOn_22
theorem c9_goesOn (l : Launch) (w : WE) (n : Nat) (o0 : Nat) (h0 : typ o0 = 9) (M : Mem) : MC l w yX9_goesOn (wz yX9_goesOn cX9_goesOn 1 (some .boolean)) rm9_goesOn [.ref (wa w o0)] (s9_goesOn n o0 M) M :=
  mc_of_J (own := RX9) rfl (by decide) rfl rfl (Nat.le_of_ble_eq_true rfl) (fun _ _ C RT => b9_goesOn C RT n o0 h0 M)
theorem hdX9_goesOn : yX9_goesOn.cls = RX9 ∧ yOK yX9_goesOn 0 := ⟨rfl, by decide, by decide, by decide⟩
abbrev rm9_isOver : Room := { frames := 1, cells := 0, slots := 0, locals := 22 }
def s9_isOver (n : Nat) (o0 : Nat) (M : Mem) : Option Res := if (M o0 19) = (1 : Int32) then (some ((1 : Int32), M)) else (cb (s9_ins n o0 M) (fun r2 M1 => if r2 < (2 : Int32) then (some ((1 : Int32), M1)) else (cb (s9_chairs n o0 M1) (fun r4 M3 => if r4 = 0 then (some ((1 : Int32), M3)) else (some ((0 : Int32), M3))))))
set_option maxRecDepth 100000 in
set_option maxHeartbeats 4000000 in
theorem b9_isOver {w : WE} {g : GT} (C : CT w g RX9 cX9_isOver rm9_isOver 1) (RT : RTi w g cX9_isOver .boolean) (n : Nat) (o0 : Nat) (h0 : typ o0 = 9) (M : Mem) : J w g (s9_isOver n o0 M) M 0 [(0, .ref (wa w o0))] [] := by
  rw [s9_isOver]
  refine J_aload_n C dX9_isOver_0 rfl 0 rfl ?_
  refine J_geti C fk9_19 W4_196 h0 dX9_isOver_1 ?_
  refine J_iconst C dX9_isOver_4 kci_1 ?_
  refine J_icmp_eq (tgt := 23) C dX9_isOver_5 (by decide) (fun _ => ?_) (fun _ => ?_)
  · refine J_iconst C dX9_isOver_23 kci_1 ?_
    refine J_goto (tgt := 28) C dX9_isOver_24 (by decide) ?_
    exact J_iret C RT (by decide) dX9_isOver_28
  · refine J_aload_n C dX9_isOver_8 rfl 0 rfl ?_
    refine J_cvi (As := []) C (c9_ins (gl g) w n o0 h0 M) (gd_v W5_197 W5_199 WP_43 W1_10 W5_200) rfl (by decide) (hdX9_ins) h0 (by decide) (cl_9) rfl (Nat.le_of_ble_eq_true rfl) dX9_isOver_9 rfl (fun r2 M1 => ?_)
    refine J_iconst C dX9_isOver_12 kci_2 ?_
    refine J_icmp_lt (tgt := 23) C dX9_isOver_13 (by decide) (fun _ => ?_) (fun _ => ?_)
    · refine J_iconst C dX9_isOver_23 kci_1 ?_
      refine J_goto (tgt := 28) C dX9_isOver_24 (by decide) ?_
      exact J_iret C RT (by decide) dX9_isOver_28
    · refine J_aload_n C dX9_isOver_16 rfl 0 rfl ?_
      refine J_cvi (As := []) C (c9_chairs (gl g) w n o0 h0 M1) (gd_v W5_82 W5_84 WP_27 W1_10 W5_85) rfl (by decide) (hdX9_chairs) h0 (by decide) (cl_9) rfl (Nat.le_of_ble_eq_true rfl) dX9_isOver_17 rfl (fun r4 M3 => ?_)
      refine J_if_ne (tgt := 27) C dX9_isOver_20 (by decide) (fun _ => ?_) (fun _ => ?_)
      · refine J_iconst C dX9_isOver_27 kci_0 ?_
        exact J_iret C RT (by decide) dX9_isOver_28
      · refine J_iconst C dX9_isOver_23 kci_1 ?_
        refine J_goto (tgt := 28) C dX9_isOver_24 (by decide) ?_
        exact J_iret C RT (by decide) dX9_isOver_28
theorem c9_isOver (l : Launch) (w : WE) (n : Nat) (o0 : Nat) (h0 : typ o0 = 9) (M : Mem) : MC l w yX9_isOver (wz yX9_isOver cX9_isOver 1 (some .boolean)) rm9_isOver [.ref (wa w o0)] (s9_isOver n o0 M) M :=
  mc_of_J (own := RX9) rfl (by decide) rfl rfl (Nat.le_of_ble_eq_true rfl) (fun _ _ C RT => b9_isOver C RT n o0 h0 M)
theorem hdX9_isOver : yX9_isOver.cls = RX9 ∧ yOK yX9_isOver 0 := ⟨rfl, by decide, by decide, by decide⟩
abbrev rm9_go : Room := { frames := 6, cells := 0, slots := 0, locals := 134 }
def s9_go_35 (n : Nat) (o0 : Nat) (x1 : Int32) : Nat → Int32 → Mem → Option Res
  | 0, _, _ => none
  | f + 1, x3, M => if x1 ≤ x3 then (some ((0 : Int32), M)) else (cb (s9_goesOn n o0 M) (fun r6 M5 => if r6 = 0 then (ilet (x3 + 1) (fun v7 => s9_go_35 n o0 x1 f v7 M5)) else (if (M5 o0 19) = (1 : Int32) then (some ((2 : Int32), M5)) else (some ((1 : Int32), M5)))))
set_option maxRecDepth 100000 in
set_option maxHeartbeats 4000000 in
theorem b9_go_35 {w : WE} {g : GT} (C : CT w g RX9 cX9_go rm9_go 4) (RT : RTi w g cX9_go .int) (n : Nat) (o0 : Nat) (h0 : typ o0 = 9) (x1 : Int32) : ∀ (f : Nat) (x3 : Int32) (M : Mem), J w g (s9_go_35 n o0 x1 f x3 M) M 35 [(0, .ref (wa w o0)), (1, .int x1), (3, .int x3)] [] := by
  intro f
  induction f with
  | zero =>
    intro x3 M
    rw [s9_go_35]
    exact J_none
  | succ f ih =>
    intro x3 M
    rw [s9_go_35]
    refine J_iload_n C dX9_go_35 rfl 2 rfl ?_
    refine J_iload_n C dX9_go_36 rfl 1 rfl ?_
    refine J_icmp_ge (tgt := 67) C dX9_go_37 (by decide) (fun _ => ?_) (fun _ => ?_)
    · refine J_iconst C dX9_go_67 kci_0 ?_
      exact J_iret C RT rfl dX9_go_68
    · refine J_aload_n C dX9_go_40 rfl 0 rfl ?_
      refine J_cvi (As := []) C (c9_goesOn (gl g) w n o0 h0 M) (gd_v W5_201 W5_203 WP_44 W1_10 W5_204) rfl (by decide) (hdX9_goesOn) h0 (by decide) (cl_9) rfl (Nat.le_of_ble_eq_true rfl) dX9_go_41 rfl (fun r6 M5 => ?_)
      refine J_if_eq (tgt := 61) C dX9_go_44 (by decide) (fun _ => ?_) (fun _ => ?_)
      · refine J_iinc (lw := fun v7 => [(3, .int v7), (0, .ref (wa w o0)), (1, .int x1)]) (X := x3 + 1) C dX9_go_61 (q := 2) rfl (by rw [kci_1]) (by decide) (fun _ => rfl) (fun v7 => ?_)
        refine J_goto (tgt := 35) C dX9_go_64 (by decide) ?_
        refine J_lv [1, 2, 0] rfl ?_
        exact ih v7 M5
      · refine J_aload_n C dX9_go_47 rfl 0 rfl ?_
        refine J_geti C fk9_19 W4_196 h0 dX9_go_48 ?_
        refine J_iconst C dX9_go_51 kci_1 ?_
        refine J_icmp_ne (tgt := 59) C dX9_go_52 (by decide) (fun _ => ?_) (fun _ => ?_)
        · refine J_iconst C dX9_go_59 kci_1 ?_
          exact J_iret C RT rfl dX9_go_60
        · refine J_iconst C dX9_go_55 kci_2 ?_
          refine J_goto (tgt := 60) C dX9_go_56 (by decide) ?_
          exact J_iret C RT rfl dX9_go_60
def s9_go (n : Nat) (o0 : Nat) (x1 : Int32) (M : Mem) : Option Res := cb (s9_isOver n o0 M) (fun r2 M1 => if r2 = 0 then (cb (s9_bound x1 (1 : Int32) (300 : Int32) M1) (fun r4 M3 => if r4 = 0 then (s9_go_35 n o0 x1 n (0 : Int32) M3) else (cb (s9_no o0 r4 M3) (fun r9 M8 => some (r9, M8))))) else (cb (s9_no o0 (-3 : Int32) M1) (fun r11 M10 => some (r11, M10))))
set_option maxRecDepth 100000 in
set_option maxHeartbeats 4000000 in
theorem b9_go {w : WE} {g : GT} (C : CT w g RX9 cX9_go rm9_go 4) (RT : RTi w g cX9_go .int) (n : Nat) (o0 : Nat) (h0 : typ o0 = 9) (x1 : Int32) (M : Mem) : J w g (s9_go n o0 x1 M) M 0 [(0, .ref (wa w o0)), (1, .int x1)] [] := by
  rw [s9_go]
  refine J_aload_n C dX9_go_0 rfl 0 rfl ?_
  refine J_cvi (As := []) C (c9_isOver (gl g) w n o0 h0 M) (gd_v W5_193 W5_195 WP_42 W1_10 W5_196) rfl (by decide) (hdX9_isOver) h0 (by decide) (cl_9) rfl (Nat.le_of_ble_eq_true rfl) dX9_go_1 rfl (fun r2 M1 => ?_)
  refine J_if_eq (tgt := 14) C dX9_go_4 (by decide) (fun _ => ?_) (fun _ => ?_)
  · refine J_iload_n C dX9_go_14 rfl 1 rfl ?_
    refine J_iconst C dX9_go_15 kci_1 ?_
    refine J_sipush C dX9_go_16 kcs_300 ?_
    refine J_csi (As := [.int x1, .int (1 : Int32), .int (300 : Int32)]) (dm := 0) C (c9_bound (gl g) w x1 (1 : Int32) (300 : Int32) M1) (gd_s W5_97 W5_98 W1_10 W5_99) rfl (by decide) (hdX9_bound.2) rfl (Nat.le_of_ble_eq_true rfl) dX9_go_19 rfl (fun r4 M3 => ?_)
    refine J_istore_n (lv' := [(2, .int r4), (0, .ref (wa w o0)), (1, .int x1)]) C dX9_go_22 rfl (by decide) rfl ?_
    refine J_iload_n C dX9_go_23 rfl 0 rfl ?_
    refine J_if_eq (tgt := 33) C dX9_go_24 (by decide) (fun _ => ?_) (fun _ => ?_)
    · refine J_iconst C dX9_go_33 kci_0 ?_
      refine J_istore_n (lv' := [(3, .int (0 : Int32)), (2, .int r4), (0, .ref (wa w o0)), (1, .int x1)]) C dX9_go_34 rfl (by decide) rfl ?_
      refine J_lv [2, 3, 0] rfl ?_
      exact b9_go_35 C RT n o0 h0 x1 n (0 : Int32) M3
    · refine J_aload_n C dX9_go_27 rfl 1 rfl ?_
      refine J_iload_n C dX9_go_28 rfl 0 rfl ?_
      refine J_cvi (As := [.int r4]) C (c9_no (gl g) w o0 h0 r4 M3) (gd_v W5_78 W5_80 WP_26 W1_10 W5_81) rfl (by decide) (hdX9_no) h0 (by decide) (cl_9) rfl (Nat.le_of_ble_eq_true rfl) dX9_go_29 rfl (fun r9 M8 => ?_)
      exact J_iret C RT rfl dX9_go_32
  · refine J_aload_n C dX9_go_7 rfl 0 rfl ?_
    refine J_bipush C dX9_go_8 kcb_m3 ?_
    refine J_cvi (As := [.int (-3 : Int32)]) C (c9_no (gl g) w o0 h0 (-3 : Int32) M1) (gd_v W5_78 W5_80 WP_26 W1_10 W5_81) rfl (by decide) (hdX9_no) h0 (by decide) (cl_9) rfl (Nat.le_of_ble_eq_true rfl) dX9_go_10 rfl (fun r11 M10 => ?_)
    exact J_iret C RT rfl dX9_go_13
theorem c9_go (l : Launch) (w : WE) (n : Nat) (o0 : Nat) (h0 : typ o0 = 9) (x1 : Int32) (M : Mem) : MC l w yX9_go (wz yX9_go cX9_go 4 (some .int)) rm9_go [.ref (wa w o0), .int x1] (s9_go n o0 x1 M) M :=
  mc_of_J (own := RX9) rfl (by decide) rfl rfl (Nat.le_of_ble_eq_true rfl) (fun _ _ C RT => b9_go C RT n o0 h0 x1 M)
theorem hdX9_go : yX9_go.cls = RX9 ∧ yOK yX9_go 1 := ⟨rfl, by decide, by decide, by decide⟩
abbrev rm9_stop : Room := { frames := 5, cells := 0, slots := 0, locals := 114 }
def s9_stop (n : Nat) (o0 : Nat) (M : Mem) : Option Res := cb (s9_isOver n o0 M) (fun r2 M1 => if r2 = 0 then (cb (s9_stops n o0 M1) (fun r4 M3 => some (r4, M3))) else (cb (s9_no o0 (-3 : Int32) M1) (fun r6 M5 => some (r6, M5))))
set_option maxRecDepth 100000 in
set_option maxHeartbeats 4000000 in
theorem b9_stop {w : WE} {g : GT} (C : CT w g RX9 cX9_stop rm9_stop 1) (RT : RTi w g cX9_stop .int) (n : Nat) (o0 : Nat) (h0 : typ o0 = 9) (M : Mem) : J w g (s9_stop n o0 M) M 0 [(0, .ref (wa w o0))] [] := by
  rw [s9_stop]
  refine J_aload_n C dX9_stop_0 rfl 0 rfl ?_
  refine J_cvi (As := []) C (c9_isOver (gl g) w n o0 h0 M) (gd_v W5_193 W5_195 WP_42 W1_10 W5_196) rfl (by decide) (hdX9_isOver) h0 (by decide) (cl_9) rfl (Nat.le_of_ble_eq_true rfl) dX9_stop_1 rfl (fun r2 M1 => ?_)
  refine J_if_eq (tgt := 16) C dX9_stop_4 (by decide) (fun _ => ?_) (fun _ => ?_)
  · refine J_aload_n C dX9_stop_16 rfl 0 rfl ?_
    refine J_cvi (As := []) C (c9_stops (gl g) w n o0 h0 M1) (gd_v W5_216 W5_218 WP_47 W1_10 W5_219) rfl (by decide) (hdX9_stops) h0 (by decide) (cl_9) rfl (Nat.le_of_ble_eq_true rfl) dX9_stop_17 rfl (fun r4 M3 => ?_)
    exact J_iret C RT rfl dX9_stop_20
  · refine J_aload_n C dX9_stop_7 rfl 0 rfl ?_
    refine J_bipush C dX9_stop_8 kcb_m3 ?_
    refine J_cvi (As := [.int (-3 : Int32)]) C (c9_no (gl g) w o0 h0 (-3 : Int32) M1) (gd_v W5_78 W5_80 WP_26 W1_10 W5_81) rfl (by decide) (hdX9_no) h0 (by decide) (cl_9) rfl (Nat.le_of_ble_eq_true rfl) dX9_stop_10 rfl (fun r6 M5 => ?_)
    refine J_goto (tgt := 20) C dX9_stop_13 (by decide) ?_
    exact J_iret C RT rfl dX9_stop_20
theorem c9_stop (l : Launch) (w : WE) (n : Nat) (o0 : Nat) (h0 : typ o0 = 9) (M : Mem) : MC l w yX9_stop (wz yX9_stop cX9_stop 1 (some .int)) rm9_stop [.ref (wa w o0)] (s9_stop n o0 M) M :=
  mc_of_J (own := RX9) rfl (by decide) rfl rfl (Nat.le_of_ble_eq_true rfl) (fun _ _ C RT => b9_stop C RT n o0 h0 M)
theorem hdX9_stop : yX9_stop.cls = RX9 ∧ yOK yX9_stop 0 := ⟨rfl, by decide, by decide, by decide⟩
abbrev rm9_isThere : Room := { frames := 1, cells := 0, slots := 0, locals := 21 }
def s9_isThere (o0 : Nat) (x1 : Int32) (M : Mem) : Option Res := cb (s9_isWalker o0 x1 M) (fun r2 M1 => if r2 = 0 then (some ((0 : Int32), M1)) else (if inB x1 (alen (link o0 4)) then if (M1 (link o0 4) x1.toNatClampNeg) = (1 : Int32) then (some ((1 : Int32), M1)) else (some ((0 : Int32), M1)) else none))
set_option maxRecDepth 100000 in
set_option maxHeartbeats 4000000 in
theorem b9_isThere {w : WE} {g : GT} (C : CT w g RX9 cX9_isThere rm9_isThere 2) (RT : RTi w g cX9_isThere .boolean) (o0 : Nat) (h0 : typ o0 = 9) (x1 : Int32) (M : Mem) : J w g (s9_isThere o0 x1 M) M 0 [(0, .ref (wa w o0)), (1, .int x1)] [] := by
  rw [s9_isThere]
  refine J_aload_n C dX9_isThere_0 rfl 0 rfl ?_
  refine J_iload_n C dX9_isThere_1 rfl 1 rfl ?_
  refine J_cvi (As := [.int x1]) C (c9_isWalker (gl g) w o0 h0 x1 M) (gd_v W5_112 W5_114 WP_31 W1_10 W5_115) rfl (by decide) (hdX9_isWalker) h0 (by decide) (cl_9) rfl (Nat.le_of_ble_eq_true rfl) dX9_isThere_2 rfl (fun r2 M1 => ?_)
  refine J_if_eq (tgt := 22) C dX9_isThere_5 (by decide) (fun _ => ?_) (fun _ => ?_)
  · refine J_iconst C dX9_isThere_22 kci_0 ?_
    exact J_iret C RT (by decide) dX9_isThere_23
  · refine J_aload_n C dX9_isThere_8 rfl 0 rfl ?_
    refine J_getr C fk9_4 W4_181 h0 dX9_isThere_9 ?_
    refine J_iload_n C dX9_isThere_12 rfl 1 rfl ?_
    refine J_aload_ C (tl_9_4 h0) dX9_isThere_13 ?_
    refine J_iconst C dX9_isThere_14 kci_1 ?_
    refine J_icmp_ne (tgt := 22) C dX9_isThere_15 (by decide) (fun _ => ?_) (fun _ => ?_)
    · refine J_iconst C dX9_isThere_22 kci_0 ?_
      exact J_iret C RT (by decide) dX9_isThere_23
    · refine J_iconst C dX9_isThere_18 kci_1 ?_
      refine J_goto (tgt := 23) C dX9_isThere_19 (by decide) ?_
      exact J_iret C RT (by decide) dX9_isThere_23
theorem c9_isThere (l : Launch) (w : WE) (o0 : Nat) (h0 : typ o0 = 9) (x1 : Int32) (M : Mem) : MC l w yX9_isThere (wz yX9_isThere cX9_isThere 2 (some .boolean)) rm9_isThere [.ref (wa w o0), .int x1] (s9_isThere o0 x1 M) M :=
  mc_of_J (own := RX9) rfl (by decide) rfl rfl (Nat.le_of_ble_eq_true rfl) (fun _ _ C RT => b9_isThere C RT o0 h0 x1 M)
theorem hdX9_isThere : yX9_isThere.cls = RX9 ∧ yOK yX9_isThere 1 := ⟨rfl, by decide, by decide, by decide⟩
abbrev rm9_sits : Room := { frames := 4, cells := 0, slots := 0, locals := 93 }
def s9_sits (n : Nat) (o0 : Nat) (x1 : Int32) (M : Mem) : Option Res := cb (s9_isThere o0 x1 M) (fun r2 M1 => if r2 = 0 then (cb (s9_no o0 (-1 : Int32) M1) (fun r6 M5 => some (r6, M5))) else (cb (s9_sit n o0 M1) (fun _ M3 => if inB x1 (alen (link o0 33)) then if 0 ≤ (M3 (link o0 33) x1.toNatClampNeg) then (if inB x1 (alen (link o0 33)) then some (M3 (link o0 33) x1.toNatClampNeg, M3) else none) else (some ((-9 : Int32), M3)) else none)))
set_option maxRecDepth 100000 in
set_option maxHeartbeats 4000000 in
theorem b9_sits {w : WE} {g : GT} (C : CT w g RX9 cX9_sits rm9_sits 2) (RT : RTi w g cX9_sits .int) (n : Nat) (o0 : Nat) (h0 : typ o0 = 9) (x1 : Int32) (M : Mem) : J w g (s9_sits n o0 x1 M) M 0 [(0, .ref (wa w o0)), (1, .int x1)] [] := by
  rw [s9_sits]
  refine J_aload_n C dX9_sits_0 rfl 0 rfl ?_
  refine J_iload_n C dX9_sits_1 rfl 1 rfl ?_
  refine J_cvi (As := [.int x1]) C (c9_isThere (gl g) w o0 h0 x1 M) (gd_v W6_24 W6_26 WP_57 W1_10 W6_27) rfl (by decide) (hdX9_isThere) h0 (by decide) (cl_9) rfl (Nat.le_of_ble_eq_true rfl) dX9_sits_2 rfl (fun r2 M1 => ?_)
  refine J_if_ne (tgt := 14) C dX9_sits_5 (by decide) (fun _ => ?_) (fun _ => ?_)
  · refine J_aload_n C dX9_sits_14 rfl 0 rfl ?_
    refine J_cvv (As := []) C (c9_sit (gl g) w n o0 h0 M1) (gd_v W5_220 W5_222 WP_48 W1_10 W5_223) rfl (by decide) (hdX9_sit) h0 (by decide) (cl_9) rfl (Nat.le_of_ble_eq_true rfl) dX9_sits_15 rfl (fun r4 M3 => ?_)
    refine J_aload_n C dX9_sits_18 rfl 0 rfl ?_
    refine J_getr C fk9_33 W4_210 h0 dX9_sits_19 ?_
    refine J_iload_n C dX9_sits_22 rfl 1 rfl ?_
    refine J_aload_ C (tl_9_33 h0) dX9_sits_23 ?_
    refine J_if_ge (tgt := 32) C dX9_sits_24 (by decide) (fun _ => ?_) (fun _ => ?_)
    · refine J_aload_n C dX9_sits_32 rfl 0 rfl ?_
      refine J_getr C fk9_33 W4_210 h0 dX9_sits_33 ?_
      refine J_iload_n C dX9_sits_36 rfl 1 rfl ?_
      refine J_aload_ C (tl_9_33 h0) dX9_sits_37 ?_
      exact J_iret C RT rfl dX9_sits_38
    · refine J_bipush C dX9_sits_27 kcb_m9 ?_
      refine J_goto (tgt := 38) C dX9_sits_29 (by decide) ?_
      exact J_iret C RT rfl dX9_sits_38
  · refine J_aload_n C dX9_sits_8 rfl 0 rfl ?_
    refine J_iconst C dX9_sits_9 kci_m1 ?_
    refine J_cvi (As := [.int (-1 : Int32)]) C (c9_no (gl g) w o0 h0 (-1 : Int32) M1) (gd_v W5_78 W5_80 WP_26 W1_10 W5_81) rfl (by decide) (hdX9_no) h0 (by decide) (cl_9) rfl (Nat.le_of_ble_eq_true rfl) dX9_sits_10 rfl (fun r6 M5 => ?_)
    exact J_iret C RT rfl dX9_sits_13
theorem c9_sits (l : Launch) (w : WE) (n : Nat) (o0 : Nat) (h0 : typ o0 = 9) (x1 : Int32) (M : Mem) : MC l w yX9_sits (wz yX9_sits cX9_sits 2 (some .int)) rm9_sits [.ref (wa w o0), .int x1] (s9_sits n o0 x1 M) M :=
  mc_of_J (own := RX9) rfl (by decide) rfl rfl (Nat.le_of_ble_eq_true rfl) (fun _ _ C RT => b9_sits C RT n o0 h0 x1 M)
theorem hdX9_sits : yX9_sits.cls = RX9 ∧ yOK yX9_sits 1 := ⟨rfl, by decide, by decide, by decide⟩
abbrev rm9_would : Room := { frames := 4, cells := 0, slots := 0, locals := 93 }
def s9_would (n : Nat) (o0 : Nat) (x1 : Int32) (M : Mem) : Option Res := cb (s9_isIn x1 (0 : Int32) (1 : Int32) M) (fun r2 M1 => if r2 = 0 then (cb (s9_no o0 (-2 : Int32) M1) (fun r10 M9 => some (r10, M9))) else (if x1 = (1 : Int32) then (cb (s9_leaver n o0 M1) (fun r8 M7 => some (r8, M7))) else (cb (s9_sit n o0 M1) (fun _ M3 => cb (s9_goer n o0 M3) (fun r6 M5 => some (r6, M5))))))
set_option maxRecDepth 100000 in
set_option maxHeartbeats 4000000 in
theorem b9_would {w : WE} {g : GT} (C : CT w g RX9 cX9_would rm9_would 2) (RT : RTi w g cX9_would .int) (n : Nat) (o0 : Nat) (h0 : typ o0 = 9) (x1 : Int32) (M : Mem) : J w g (s9_would n o0 x1 M) M 0 [(0, .ref (wa w o0)), (1, .int x1)] [] := by
  rw [s9_would]
  refine J_iload_n C dX9_would_0 rfl 1 rfl ?_
  refine J_iconst C dX9_would_1 kci_0 ?_
  refine J_iconst C dX9_would_2 kci_1 ?_
  refine J_csi (As := [.int x1, .int (0 : Int32), .int (1 : Int32)]) (dm := 0) C (c9_isIn (gl g) w x1 (0 : Int32) (1 : Int32) M) (gd_s W5_94 W5_95 W1_10 W5_96) rfl (by decide) (hdX9_isIn.2) rfl (Nat.le_of_ble_eq_true rfl) dX9_would_3 rfl (fun r2 M1 => ?_)
  refine J_if_ne (tgt := 16) C dX9_would_6 (by decide) (fun _ => ?_) (fun _ => ?_)
  · refine J_iload_n C dX9_would_16 rfl 1 rfl ?_
    refine J_iconst C dX9_would_17 kci_1 ?_
    refine J_icmp_ne (tgt := 26) C dX9_would_18 (by decide) (fun _ => ?_) (fun _ => ?_)
    · refine J_aload_n C dX9_would_26 rfl 0 rfl ?_
      refine J_cvv (As := []) C (c9_sit (gl g) w n o0 h0 M1) (gd_v W5_220 W5_222 WP_48 W1_10 W5_223) rfl (by decide) (hdX9_sit) h0 (by decide) (cl_9) rfl (Nat.le_of_ble_eq_true rfl) dX9_would_27 rfl (fun r4 M3 => ?_)
      refine J_aload_n C dX9_would_30 rfl 0 rfl ?_
      refine J_cvi (As := []) C (c9_goer (gl g) w n o0 h0 M3) (gd_v W6_0 W6_2 WP_53 W1_10 W6_3) rfl (by decide) (hdX9_goer) h0 (by decide) (cl_9) rfl (Nat.le_of_ble_eq_true rfl) dX9_would_31 rfl (fun r6 M5 => ?_)
      exact J_iret C RT rfl dX9_would_34
    · refine J_aload_n C dX9_would_21 rfl 0 rfl ?_
      refine J_cvi (As := []) C (c9_leaver (gl g) w n o0 h0 M1) (gd_v W6_8 W6_10 WP_55 W1_10 W6_11) rfl (by decide) (hdX9_leaver) h0 (by decide) (cl_9) rfl (Nat.le_of_ble_eq_true rfl) dX9_would_22 rfl (fun r8 M7 => ?_)
      exact J_iret C RT rfl dX9_would_25
  · refine J_aload_n C dX9_would_9 rfl 0 rfl ?_
    refine J_bipush C dX9_would_10 kcb_m2 ?_
    refine J_cvi (As := [.int (-2 : Int32)]) C (c9_no (gl g) w o0 h0 (-2 : Int32) M1) (gd_v W5_78 W5_80 WP_26 W1_10 W5_81) rfl (by decide) (hdX9_no) h0 (by decide) (cl_9) rfl (Nat.le_of_ble_eq_true rfl) dX9_would_12 rfl (fun r10 M9 => ?_)
    exact J_iret C RT rfl dX9_would_15
theorem c9_would (l : Launch) (w : WE) (n : Nat) (o0 : Nat) (h0 : typ o0 = 9) (x1 : Int32) (M : Mem) : MC l w yX9_would (wz yX9_would cX9_would 2 (some .int)) rm9_would [.ref (wa w o0), .int x1] (s9_would n o0 x1 M) M :=
  mc_of_J (own := RX9) rfl (by decide) rfl rfl (Nat.le_of_ble_eq_true rfl) (fun _ _ C RT => b9_would C RT n o0 h0 x1 M)
theorem hdX9_would : yX9_would.cls = RX9 ∧ yOK yX9_would 1 := ⟨rfl, by decide, by decide, by decide⟩
abbrev rm9_findOdds : Room := { frames := 4, cells := 0, slots := 0, locals := 93 }
def s9_findOdds_176 (n : Nat) (k43 : Int32 → Mem → Option Res) (o0 : Nat) (x1 : Int32) (x2 : Int32) (x3 : Int32) (x4 : Int32) (t0 : Int32) (q1 : Nat) (M : Mem) : Option Res := mlet (mset M q1 36 (t0 + (1 : Int32))) (fun M12 => ilet (x4 + 1) (fun v13 => k43 v13 M12))
set_option maxRecDepth 100000 in
set_option maxHeartbeats 4000000 in
theorem b9_findOdds_176 {w : WE} {g : GT} (C : CT w g RX9 cX9_findOdds rm9_findOdds 6) (RT : RTv w g cX9_findOdds) (n : Nat) (k43 : Int32 → Mem → Option Res) (o0 : Nat) (h0 : typ o0 = 9) (x1 : Int32) (x2 : Int32) (x3 : Int32) (x4 : Int32) (t0 : Int32) (q1 : Nat) (hq1 : typ q1 = 9) (hk43 : ∀ (z4 : Int32) (M : Mem), J w g (k43 z4 M) M 43 [(0, .ref (wa w o0)), (1, .int x1), (2, .int x2), (3, .int x3), (4, .int z4)] []) (M : Mem) : J w g (s9_findOdds_176 n k43 o0 x1 x2 x3 x4 t0 q1 M) M 176 [(0, .ref (wa w o0)), (1, .int x1), (2, .int x2), (3, .int x3), (4, .int x4)] [.int t0, .ref (wa w q1)] := by
  rw [s9_findOdds_176]
  refine J_iconst C dX9_findOdds_176 kci_1 ?_
  refine J_goto (tgt := 181) C dX9_findOdds_177 (by decide) ?_
  refine J_iadd C dX9_findOdds_181 ?_
  refine J_puti C fk9_36 W4_213 fp9_36 hq1 dX9_findOdds_182 ?_
  refine J_mlet (fun M12 => ?_)
  refine J_iinc (lw := fun v13 => [(4, .int v13), (0, .ref (wa w o0)), (1, .int x1), (2, .int x2), (3, .int x3)]) (X := x4 + 1) C dX9_findOdds_185 (q := 4) rfl (by rw [kci_1]) (by decide) (fun _ => rfl) (fun v13 => ?_)
  refine J_goto (tgt := 43) C dX9_findOdds_188 (by decide) ?_
  refine J_lv [1, 2, 3, 4, 0] rfl ?_
  exact hk43 v13 M12
def s9_findOdds_135 (n : Nat) (k43 : Int32 → Mem → Option Res) (o0 : Nat) (x1 : Int32) (x2 : Int32) (x3 : Int32) (x4 : Int32) (t0 : Int32) (t1 : Int32) (q2 : Nat) (M : Mem) : Option Res := mlet (mset M q2 35 (t1 + t0)) (fun M11 => if inB x3 (alen (link o0 33)) then if 0 ≤ (M11 (link o0 33) x3.toNatClampNeg) then (s9_findOdds_176 n k43 o0 x1 x2 x3 x4 (M11 o0 36) o0 M11) else (if inB x2 (alen (link o0 33)) then if (M11 (link o0 33) x2.toNatClampNeg) < 0 then (mlet (mset M11 o0 36 ((M11 o0 36) + (0 : Int32))) (fun M14 => ilet (x4 + 1) (fun v15 => k43 v15 M14))) else (if inB x2 (alen (link o0 33)) then cb (s9_mayReach n o0 x3 (M11 (link o0 33) x2.toNatClampNeg) M11) (fun r17 M16 => if r17 = 0 then (mlet (mset M16 o0 36 ((M11 o0 36) + (0 : Int32))) (fun M18 => ilet (x4 + 1) (fun v19 => k43 v19 M18))) else (s9_findOdds_176 n k43 o0 x1 x2 x3 x4 (M11 o0 36) o0 M16)) else none) else none) else none)
set_option maxRecDepth 100000 in
set_option maxHeartbeats 4000000 in
theorem b9_findOdds_135 {w : WE} {g : GT} (C : CT w g RX9 cX9_findOdds rm9_findOdds 6) (RT : RTv w g cX9_findOdds) (n : Nat) (k43 : Int32 → Mem → Option Res) (o0 : Nat) (h0 : typ o0 = 9) (x1 : Int32) (x2 : Int32) (x3 : Int32) (x4 : Int32) (t0 : Int32) (t1 : Int32) (q2 : Nat) (hq2 : typ q2 = 9) (hk43 : ∀ (z4 : Int32) (M : Mem), J w g (k43 z4 M) M 43 [(0, .ref (wa w o0)), (1, .int x1), (2, .int x2), (3, .int x3), (4, .int z4)] []) (M : Mem) : J w g (s9_findOdds_135 n k43 o0 x1 x2 x3 x4 t0 t1 q2 M) M 135 [(0, .ref (wa w o0)), (1, .int x1), (2, .int x2), (3, .int x3), (4, .int x4)] [.int t0, .int t1, .ref (wa w q2)] := by
  rw [s9_findOdds_135]
  refine J_iadd C dX9_findOdds_135 ?_
  refine J_puti C fk9_35 W4_212 fp9_35 hq2 dX9_findOdds_136 ?_
  refine J_mlet (fun M11 => ?_)
  refine J_aload_n C dX9_findOdds_139 rfl 0 rfl ?_
  refine J_dup C rfl dX9_findOdds_140 ?_
  refine J_geti C fk9_36 W4_213 h0 dX9_findOdds_141 ?_
  refine J_aload_n C dX9_findOdds_144 rfl 0 rfl ?_
  refine J_getr C fk9_33 W4_210 h0 dX9_findOdds_145 ?_
  refine J_iload_n C dX9_findOdds_148 rfl 3 rfl ?_
  refine J_aload_ C (tl_9_33 h0) dX9_findOdds_149 ?_
  refine J_if_ge (tgt := 176) C dX9_findOdds_150 (by decide) (fun _ => ?_) (fun _ => ?_)
  · exact b9_findOdds_176 C RT n k43 o0 h0 x1 x2 x3 x4 (M11 o0 36) o0 h0 hk43 M11
  · refine J_aload_n C dX9_findOdds_153 rfl 0 rfl ?_
    refine J_getr C fk9_33 W4_210 h0 dX9_findOdds_154 ?_
    refine J_iload_n C dX9_findOdds_157 rfl 2 rfl ?_
    refine J_aload_ C (tl_9_33 h0) dX9_findOdds_158 ?_
    refine J_if_lt (tgt := 180) C dX9_findOdds_159 (by decide) (fun _ => ?_) (fun _ => ?_)
    · refine J_iconst C dX9_findOdds_180 kci_0 ?_
      refine J_iadd C dX9_findOdds_181 ?_
      refine J_puti C fk9_36 W4_213 fp9_36 h0 dX9_findOdds_182 ?_
      refine J_mlet (fun M14 => ?_)
      refine J_iinc (lw := fun v15 => [(4, .int v15), (0, .ref (wa w o0)), (1, .int x1), (2, .int x2), (3, .int x3)]) (X := x4 + 1) C dX9_findOdds_185 (q := 4) rfl (by rw [kci_1]) (by decide) (fun _ => rfl) (fun v15 => ?_)
      refine J_goto (tgt := 43) C dX9_findOdds_188 (by decide) ?_
      refine J_lv [1, 2, 3, 4, 0] rfl ?_
      exact hk43 v15 M14
    · refine J_aload_n C dX9_findOdds_162 rfl 0 rfl ?_
      refine J_iload_n C dX9_findOdds_163 rfl 3 rfl ?_
      refine J_aload_n C dX9_findOdds_164 rfl 0 rfl ?_
      refine J_getr C fk9_33 W4_210 h0 dX9_findOdds_165 ?_
      refine J_iload_n C dX9_findOdds_168 rfl 2 rfl ?_
      refine J_aload_ C (tl_9_33 h0) dX9_findOdds_169 ?_
      refine J_cvi (As := [.int x3, .int (M11 (link o0 33) x2.toNatClampNeg)]) C (c9_mayReach (gl g) w n o0 h0 x3 (M11 (link o0 33) x2.toNatClampNeg) M11) (gd_v W5_232 W5_234 WP_51 W1_10 W5_235) rfl (by decide) (hdX9_mayReach) h0 (by decide) (cl_9) rfl (Nat.le_of_ble_eq_true rfl) dX9_findOdds_170 rfl (fun r17 M16 => ?_)
      refine J_if_eq (tgt := 180) C dX9_findOdds_173 (by decide) (fun _ => ?_) (fun _ => ?_)
      · refine J_iconst C dX9_findOdds_180 kci_0 ?_
        refine J_iadd C dX9_findOdds_181 ?_
        refine J_puti C fk9_36 W4_213 fp9_36 h0 dX9_findOdds_182 ?_
        refine J_mlet (fun M18 => ?_)
        refine J_iinc (lw := fun v19 => [(4, .int v19), (0, .ref (wa w o0)), (1, .int x1), (2, .int x2), (3, .int x3)]) (X := x4 + 1) C dX9_findOdds_185 (q := 4) rfl (by rw [kci_1]) (by decide) (fun _ => rfl) (fun v19 => ?_)
        refine J_goto (tgt := 43) C dX9_findOdds_188 (by decide) ?_
        refine J_lv [1, 2, 3, 4, 0] rfl ?_
        exact hk43 v19 M18
      · exact b9_findOdds_176 C RT n k43 o0 h0 x1 x2 x3 x4 (M11 o0 36) o0 h0 hk43 M16
def s9_findOdds_130 (n : Nat) (k43 : Int32 → Mem → Option Res) (o0 : Nat) (x1 : Int32) (x2 : Int32) (x3 : Int32) (x4 : Int32) (t0 : Int32) (q1 : Nat) (M : Mem) : Option Res := s9_findOdds_135 n k43 o0 x1 x2 x3 x4 (1 : Int32) t0 q1 M
set_option maxRecDepth 100000 in
set_option maxHeartbeats 4000000 in
theorem b9_findOdds_130 {w : WE} {g : GT} (C : CT w g RX9 cX9_findOdds rm9_findOdds 6) (RT : RTv w g cX9_findOdds) (n : Nat) (k43 : Int32 → Mem → Option Res) (o0 : Nat) (h0 : typ o0 = 9) (x1 : Int32) (x2 : Int32) (x3 : Int32) (x4 : Int32) (t0 : Int32) (q1 : Nat) (hq1 : typ q1 = 9) (hk43 : ∀ (z4 : Int32) (M : Mem), J w g (k43 z4 M) M 43 [(0, .ref (wa w o0)), (1, .int x1), (2, .int x2), (3, .int x3), (4, .int z4)] []) (M : Mem) : J w g (s9_findOdds_130 n k43 o0 x1 x2 x3 x4 t0 q1 M) M 130 [(0, .ref (wa w o0)), (1, .int x1), (2, .int x2), (3, .int x3), (4, .int x4)] [.int t0, .ref (wa w q1)] := by
  rw [s9_findOdds_130]
  refine J_iconst C dX9_findOdds_130 kci_1 ?_
  refine J_goto (tgt := 135) C dX9_findOdds_131 (by decide) ?_
  exact b9_findOdds_135 C RT n k43 o0 h0 x1 x2 x3 x4 (1 : Int32) t0 q1 hq1 hk43 M
def s9_findOdds_60 (n : Nat) (k43 : Int32 → Mem → Option Res) (o0 : Nat) (x1 : Int32) (x2 : Int32) (x3 : Int32) (x4 : Int32) : Nat → Int32 → Mem → Option Res
  | 0, _, _ => none
  | f + 1, x5, M => if (M o0 12) ≤ x5 then (if 0 ≤ x2 then (if inB x2 (alen (link o0 33)) then if 0 ≤ (M (link o0 33) x2.toNatClampNeg) then (s9_findOdds_130 n k43 o0 x1 x2 x3 x4 (M o0 35) o0 M) else (if inB x3 (alen (link o0 33)) then if (M (link o0 33) x3.toNatClampNeg) < 0 then (s9_findOdds_135 n k43 o0 x1 x2 x3 x4 (0 : Int32) (M o0 35) o0 M) else (s9_findOdds_130 n k43 o0 x1 x2 x3 x4 (M o0 35) o0 M) else none) else none) else (ilet (x4 + 1) (fun v20 => k43 v20 M))) else (if inB x5 (alen (link o0 34)) then if inB x5 (alen (link o0 33)) then if (M (link o0 33) x5.toNatClampNeg) < 0 then (if inB x5 (alen (link o0 34)) then mlet (mset M (link o0 34) x5.toNatClampNeg ((M (link o0 34) x5.toNatClampNeg) + (0 : Int32))) (fun M21 => ilet (x5 + 1) (fun v22 => s9_findOdds_60 n k43 o0 x1 x2 x3 x4 f v22 M21)) else none) else (if inB x5 (alen (link o0 34)) then mlet (mset M (link o0 34) x5.toNatClampNeg ((M (link o0 34) x5.toNatClampNeg) + (1 : Int32))) (fun M23 => ilet (x5 + 1) (fun v24 => s9_findOdds_60 n k43 o0 x1 x2 x3 x4 f v24 M23)) else none) else none else none)
set_option maxRecDepth 100000 in
set_option maxHeartbeats 4000000 in
theorem b9_findOdds_60 {w : WE} {g : GT} (C : CT w g RX9 cX9_findOdds rm9_findOdds 6) (RT : RTv w g cX9_findOdds) (n : Nat) (k43 : Int32 → Mem → Option Res) (o0 : Nat) (h0 : typ o0 = 9) (x1 : Int32) (x2 : Int32) (x3 : Int32) (x4 : Int32) (hk43 : ∀ (z4 : Int32) (M : Mem), J w g (k43 z4 M) M 43 [(0, .ref (wa w o0)), (1, .int x1), (2, .int x2), (3, .int x3), (4, .int z4)] []) : ∀ (f : Nat) (x5 : Int32) (M : Mem), J w g (s9_findOdds_60 n k43 o0 x1 x2 x3 x4 f x5 M) M 60 [(0, .ref (wa w o0)), (1, .int x1), (2, .int x2), (3, .int x3), (4, .int x4), (5, .int x5)] [] := by
  intro f
  induction f with
  | zero =>
    intro x5 M
    rw [s9_findOdds_60]
    exact J_none
  | succ f ih =>
    intro x5 M
    rw [s9_findOdds_60]
    refine J_iload C dX9_findOdds_60 5 rfl ?_
    refine J_aload_n C dX9_findOdds_62 rfl 0 rfl ?_
    refine J_geti C fk9_12 W4_189 h0 dX9_findOdds_63 ?_
    refine J_icmp_ge (tgt := 100) C dX9_findOdds_66 (by decide) (fun _ => ?_) (fun _ => ?_)
    · refine J_iload_n C dX9_findOdds_100 rfl 2 rfl ?_
      refine J_if_ge (tgt := 107) C dX9_findOdds_101 (by decide) (fun _ => ?_) (fun _ => ?_)
      · refine J_aload_n C dX9_findOdds_107 rfl 0 rfl ?_
        refine J_dup C rfl dX9_findOdds_108 ?_
        refine J_geti C fk9_35 W4_212 h0 dX9_findOdds_109 ?_
        refine J_aload_n C dX9_findOdds_112 rfl 0 rfl ?_
        refine J_getr C fk9_33 W4_210 h0 dX9_findOdds_113 ?_
        refine J_iload_n C dX9_findOdds_116 rfl 2 rfl ?_
        refine J_aload_ C (tl_9_33 h0) dX9_findOdds_117 ?_
        refine J_if_ge (tgt := 130) C dX9_findOdds_118 (by decide) (fun _ => ?_) (fun _ => ?_)
        · refine J_lv [0, 1, 2, 3, 4] rfl ?_
          exact b9_findOdds_130 C RT n k43 o0 h0 x1 x2 x3 x4 (M o0 35) o0 h0 hk43 M
        · refine J_aload_n C dX9_findOdds_121 rfl 0 rfl ?_
          refine J_getr C fk9_33 W4_210 h0 dX9_findOdds_122 ?_
          refine J_iload_n C dX9_findOdds_125 rfl 3 rfl ?_
          refine J_aload_ C (tl_9_33 h0) dX9_findOdds_126 ?_
          refine J_if_lt (tgt := 134) C dX9_findOdds_127 (by decide) (fun _ => ?_) (fun _ => ?_)
          · refine J_iconst C dX9_findOdds_134 kci_0 ?_
            refine J_lv [0, 1, 2, 3, 4] rfl ?_
            exact b9_findOdds_135 C RT n k43 o0 h0 x1 x2 x3 x4 (0 : Int32) (M o0 35) o0 h0 hk43 M
          · refine J_lv [0, 1, 2, 3, 4] rfl ?_
            exact b9_findOdds_130 C RT n k43 o0 h0 x1 x2 x3 x4 (M o0 35) o0 h0 hk43 M
      · refine J_goto (tgt := 185) C dX9_findOdds_104 (by decide) ?_
        refine J_iinc (lw := fun v20 => [(4, .int v20), (0, .ref (wa w o0)), (1, .int x1), (2, .int x2), (3, .int x3), (5, .int x5)]) (X := x4 + 1) C dX9_findOdds_185 (q := 4) rfl (by rw [kci_1]) (by decide) (fun _ => rfl) (fun v20 => ?_)
        refine J_goto (tgt := 43) C dX9_findOdds_188 (by decide) ?_
        refine J_lv [1, 2, 3, 4, 0] rfl ?_
        exact hk43 v20 M
    · refine J_aload_n C dX9_findOdds_69 rfl 0 rfl ?_
      refine J_getr C fk9_34 W4_211 h0 dX9_findOdds_70 ?_
      refine J_iload C dX9_findOdds_73 5 rfl ?_
      refine J_dup2 C rfl rfl dX9_findOdds_75 ?_
      refine J_aload_ C (tl_9_34 h0) dX9_findOdds_76 ?_
      refine J_aload_n C dX9_findOdds_77 rfl 0 rfl ?_
      refine J_getr C fk9_33 W4_210 h0 dX9_findOdds_78 ?_
      refine J_iload C dX9_findOdds_81 5 rfl ?_
      refine J_aload_ C (tl_9_33 h0) dX9_findOdds_83 ?_
      refine J_if_lt (tgt := 91) C dX9_findOdds_84 (by decide) (fun _ => ?_) (fun _ => ?_)
      · refine J_iconst C dX9_findOdds_91 kci_0 ?_
        refine J_iadd C dX9_findOdds_92 ?_
        refine J_iastore C (tl_9_34 h0) dX9_findOdds_93 ?_
        refine J_mlet (fun M21 => ?_)
        refine J_iinc (lw := fun v22 => [(5, .int v22), (0, .ref (wa w o0)), (1, .int x1), (2, .int x2), (3, .int x3), (4, .int x4)]) (X := x5 + 1) C dX9_findOdds_94 (q := 5) rfl (by rw [kci_1]) (by decide) (fun _ => rfl) (fun v22 => ?_)
        refine J_goto (tgt := 60) C dX9_findOdds_97 (by decide) ?_
        refine J_lv [1, 2, 3, 4, 5, 0] rfl ?_
        exact ih v22 M21
      · refine J_iconst C dX9_findOdds_87 kci_1 ?_
        refine J_goto (tgt := 92) C dX9_findOdds_88 (by decide) ?_
        refine J_iadd C dX9_findOdds_92 ?_
        refine J_iastore C (tl_9_34 h0) dX9_findOdds_93 ?_
        refine J_mlet (fun M23 => ?_)
        refine J_iinc (lw := fun v24 => [(5, .int v24), (0, .ref (wa w o0)), (1, .int x1), (2, .int x2), (3, .int x3), (4, .int x4)]) (X := x5 + 1) C dX9_findOdds_94 (q := 5) rfl (by rw [kci_1]) (by decide) (fun _ => rfl) (fun v24 => ?_)
        refine J_goto (tgt := 60) C dX9_findOdds_97 (by decide) ?_
        refine J_lv [1, 2, 3, 4, 5, 0] rfl ?_
        exact ih v24 M23
def s9_findOdds_43 (n : Nat) (o0 : Nat) (x1 : Int32) (x2 : Int32) (x3 : Int32) : Nat → Int32 → Mem → Option Res
  | 0, _, _ => none
  | f + 1, x4, M => if x1 ≤ x4 then (cb (s9_passesAll n o0 (1 : Int32) (0 : Int32) M) (fun _ M5 => some (0, M5))) else (cb (s9_walks n o0 M) (fun _ M7 => cb (s9_sit n o0 M7) (fun _ M9 => s9_findOdds_60 n (s9_findOdds_43 n o0 x1 x2 x3 f) o0 x1 x2 x3 x4 n (0 : Int32) M9)))
set_option maxRecDepth 100000 in
set_option maxHeartbeats 4000000 in
theorem b9_findOdds_43 {w : WE} {g : GT} (C : CT w g RX9 cX9_findOdds rm9_findOdds 6) (RT : RTv w g cX9_findOdds) (n : Nat) (o0 : Nat) (h0 : typ o0 = 9) (x1 : Int32) (x2 : Int32) (x3 : Int32) : ∀ (f : Nat) (x4 : Int32) (M : Mem), J w g (s9_findOdds_43 n o0 x1 x2 x3 f x4 M) M 43 [(0, .ref (wa w o0)), (1, .int x1), (2, .int x2), (3, .int x3), (4, .int x4)] [] := by
  intro f
  induction f with
  | zero =>
    intro x4 M
    rw [s9_findOdds_43]
    exact J_none
  | succ f ih =>
    intro x4 M
    rw [s9_findOdds_43]
    refine J_iload C dX9_findOdds_43 4 rfl ?_
    refine J_iload_n C dX9_findOdds_45 rfl 1 rfl ?_
    refine J_icmp_ge (tgt := 191) C dX9_findOdds_46 (by decide) (fun _ => ?_) (fun _ => ?_)
    · refine J_aload_n C dX9_findOdds_191 rfl 0 rfl ?_
      refine J_iconst C dX9_findOdds_192 kci_1 ?_
      refine J_iconst C dX9_findOdds_193 kci_0 ?_
      refine J_cvv (As := [.int (1 : Int32), .int (0 : Int32)]) C (c9_passesAll (gl g) w n o0 h0 (1 : Int32) (0 : Int32) M) (gd_v W5_173 W5_175 WP_38 W1_10 W5_176) rfl (by decide) (hdX9_passesAll) h0 (by decide) (cl_9) rfl (Nat.le_of_ble_eq_true rfl) dX9_findOdds_194 rfl (fun r6 M5 => ?_)
      exact J_vret C RT dX9_findOdds_197
    · refine J_aload_n C dX9_findOdds_49 rfl 0 rfl ?_
      refine J_cvv (As := []) C (c9_walks (gl g) w n o0 h0 M) (gd_v W5_205 W5_207 WP_45 W1_10 W5_208) rfl (by decide) (hdX9_walks) h0 (by decide) (cl_9) rfl (Nat.le_of_ble_eq_true rfl) dX9_findOdds_50 rfl (fun r8 M7 => ?_)
      refine J_aload_n C dX9_findOdds_53 rfl 0 rfl ?_
      refine J_cvv (As := []) C (c9_sit (gl g) w n o0 h0 M7) (gd_v W5_220 W5_222 WP_48 W1_10 W5_223) rfl (by decide) (hdX9_sit) h0 (by decide) (cl_9) rfl (Nat.le_of_ble_eq_true rfl) dX9_findOdds_54 rfl (fun r10 M9 => ?_)
      refine J_iconst C dX9_findOdds_57 kci_0 ?_
      refine J_istore (lv' := [(5, .int (0 : Int32)), (0, .ref (wa w o0)), (1, .int x1), (2, .int x2), (3, .int x3), (4, .int x4)]) C dX9_findOdds_58 (by decide) rfl ?_
      refine J_lv [1, 2, 3, 4, 5, 0] rfl ?_
      exact b9_findOdds_60 C RT n (s9_findOdds_43 n o0 x1 x2 x3 f) o0 h0 x1 x2 x3 x4 ih n (0 : Int32) M9
def s9_findOdds_9 (n : Nat) (o0 : Nat) (x1 : Int32) (x2 : Int32) (x3 : Int32) : Nat → Int32 → Mem → Option Res
  | 0, _, _ => none
  | f + 1, x4, M => if (12 : Int32) ≤ x4 then (mlet (mset M o0 35 (0 : Int32)) (fun M3 => mlet (mset M3 o0 36 (0 : Int32)) (fun M4 => s9_findOdds_43 n o0 x1 x2 x3 n (0 : Int32) M4))) else (if inB x4 (alen (link o0 34)) then mlet (mset M (link o0 34) x4.toNatClampNeg (0 : Int32)) (fun M25 => ilet (x4 + 1) (fun v26 => s9_findOdds_9 n o0 x1 x2 x3 f v26 M25)) else none)
set_option maxRecDepth 100000 in
set_option maxHeartbeats 4000000 in
theorem b9_findOdds_9 {w : WE} {g : GT} (C : CT w g RX9 cX9_findOdds rm9_findOdds 6) (RT : RTv w g cX9_findOdds) (n : Nat) (o0 : Nat) (h0 : typ o0 = 9) (x1 : Int32) (x2 : Int32) (x3 : Int32) : ∀ (f : Nat) (x4 : Int32) (M : Mem), J w g (s9_findOdds_9 n o0 x1 x2 x3 f x4 M) M 9 [(0, .ref (wa w o0)), (1, .int x1), (2, .int x2), (3, .int x3), (4, .int x4)] [] := by
  intro f
  induction f with
  | zero =>
    intro x4 M
    rw [s9_findOdds_9]
    exact J_none
  | succ f ih =>
    intro x4 M
    rw [s9_findOdds_9]
    refine J_iload C dX9_findOdds_9 4 rfl ?_
    refine J_bipush C dX9_findOdds_11 kcb_12 ?_
    refine J_icmp_ge (tgt := 30) C dX9_findOdds_13 (by decide) (fun _ => ?_) (fun _ => ?_)
    · refine J_aload_n C dX9_findOdds_30 rfl 0 rfl ?_
      refine J_iconst C dX9_findOdds_31 kci_0 ?_
      refine J_puti C fk9_35 W4_212 fp9_35 h0 dX9_findOdds_32 ?_
      refine J_mlet (fun M3 => ?_)
      refine J_aload_n C dX9_findOdds_35 rfl 0 rfl ?_
      refine J_iconst C dX9_findOdds_36 kci_0 ?_
      refine J_puti C fk9_36 W4_213 fp9_36 h0 dX9_findOdds_37 ?_
      refine J_mlet (fun M4 => ?_)
      refine J_iconst C dX9_findOdds_40 kci_0 ?_
      refine J_istore (lv' := [(4, .int (0 : Int32)), (0, .ref (wa w o0)), (1, .int x1), (2, .int x2), (3, .int x3)]) C dX9_findOdds_41 (by decide) rfl ?_
      refine J_lv [1, 2, 3, 4, 0] rfl ?_
      exact b9_findOdds_43 C RT n o0 h0 x1 x2 x3 n (0 : Int32) M4
    · refine J_aload_n C dX9_findOdds_16 rfl 0 rfl ?_
      refine J_getr C fk9_34 W4_211 h0 dX9_findOdds_17 ?_
      refine J_iload C dX9_findOdds_20 4 rfl ?_
      refine J_iconst C dX9_findOdds_22 kci_0 ?_
      refine J_iastore C (tl_9_34 h0) dX9_findOdds_23 ?_
      refine J_mlet (fun M25 => ?_)
      refine J_iinc (lw := fun v26 => [(4, .int v26), (0, .ref (wa w o0)), (1, .int x1), (2, .int x2), (3, .int x3)]) (X := x4 + 1) C dX9_findOdds_24 (q := 4) rfl (by rw [kci_1]) (by decide) (fun _ => rfl) (fun v26 => ?_)
      refine J_goto (tgt := 9) C dX9_findOdds_27 (by decide) ?_
      refine J_lv [1, 2, 3, 4, 0] rfl ?_
      exact ih v26 M25
def s9_findOdds (n : Nat) (o0 : Nat) (x1 : Int32) (x2 : Int32) (x3 : Int32) (M : Mem) : Option Res := cb (s9_passesAll n o0 (1 : Int32) (1 : Int32) M) (fun _ M1 => s9_findOdds_9 n o0 x1 x2 x3 n (0 : Int32) M1)
set_option maxRecDepth 100000 in
set_option maxHeartbeats 4000000 in
theorem b9_findOdds {w : WE} {g : GT} (C : CT w g RX9 cX9_findOdds rm9_findOdds 6) (RT : RTv w g cX9_findOdds) (n : Nat) (o0 : Nat) (h0 : typ o0 = 9) (x1 : Int32) (x2 : Int32) (x3 : Int32) (M : Mem) : J w g (s9_findOdds n o0 x1 x2 x3 M) M 0 [(0, .ref (wa w o0)), (1, .int x1), (2, .int x2), (3, .int x3)] [] := by
  rw [s9_findOdds]
  refine J_aload_n C dX9_findOdds_0 rfl 0 rfl ?_
  refine J_iconst C dX9_findOdds_1 kci_1 ?_
  refine J_iconst C dX9_findOdds_2 kci_1 ?_
  refine J_cvv (As := [.int (1 : Int32), .int (1 : Int32)]) C (c9_passesAll (gl g) w n o0 h0 (1 : Int32) (1 : Int32) M) (gd_v W5_173 W5_175 WP_38 W1_10 W5_176) rfl (by decide) (hdX9_passesAll) h0 (by decide) (cl_9) rfl (Nat.le_of_ble_eq_true rfl) dX9_findOdds_3 rfl (fun r2 M1 => ?_)
  refine J_iconst C dX9_findOdds_6 kci_0 ?_
  refine J_istore (lv' := [(4, .int (0 : Int32)), (0, .ref (wa w o0)), (1, .int x1), (2, .int x2), (3, .int x3)]) C dX9_findOdds_7 (by decide) rfl ?_
  refine J_lv [1, 2, 3, 4, 0] rfl ?_
  exact b9_findOdds_9 C RT n o0 h0 x1 x2 x3 n (0 : Int32) M1
theorem c9_findOdds (l : Launch) (w : WE) (n : Nat) (o0 : Nat) (h0 : typ o0 = 9) (x1 : Int32) (x2 : Int32) (x3 : Int32) (M : Mem) : MV l w yX9_findOdds (wz yX9_findOdds cX9_findOdds 6 none) rm9_findOdds [.ref (wa w o0), .int x1, .int x2, .int x3] (s9_findOdds n o0 x1 x2 x3 M) M :=
  mv_of_J (own := RX9) rfl (by decide) rfl rfl (Nat.le_of_ble_eq_true rfl) (fun _ _ C RT => b9_findOdds C RT n o0 h0 x1 x2 x3 M)
theorem hdX9_findOdds : yX9_findOdds.cls = RX9 ∧ yOK yX9_findOdds 3 := ⟨rfl, by decide, by decide, by decide⟩
abbrev rm9_oddsOf : Room := { frames := 5, cells := 0, slots := 0, locals := 118 }
def s9_oddsOf (n : Nat) (o0 : Nat) (x1 : Int32) (x2 : Int32) (M : Mem) : Option Res := cb (s9_findOdds n o0 x2 (-1 : Int32) (-1 : Int32) M) (fun _ M1 => if inB x1 (alen (link o0 34)) then some (M1 (link o0 34) x1.toNatClampNeg, M1) else none)
set_option maxRecDepth 100000 in
set_option maxHeartbeats 4000000 in
theorem b9_oddsOf {w : WE} {g : GT} (C : CT w g RX9 cX9_oddsOf rm9_oddsOf 3) (RT : RTi w g cX9_oddsOf .int) (n : Nat) (o0 : Nat) (h0 : typ o0 = 9) (x1 : Int32) (x2 : Int32) (M : Mem) : J w g (s9_oddsOf n o0 x1 x2 M) M 0 [(0, .ref (wa w o0)), (1, .int x1), (2, .int x2)] [] := by
  rw [s9_oddsOf]
  refine J_aload_n C dX9_oddsOf_0 rfl 0 rfl ?_
  refine J_iload_n C dX9_oddsOf_1 rfl 2 rfl ?_
  refine J_iconst C dX9_oddsOf_2 kci_m1 ?_
  refine J_iconst C dX9_oddsOf_3 kci_m1 ?_
  refine J_cvv (As := [.int x2, .int (-1 : Int32), .int (-1 : Int32)]) C (c9_findOdds (gl g) w n o0 h0 x2 (-1 : Int32) (-1 : Int32) M) (gd_v W6_44 W6_46 WP_60 W1_10 W6_47) rfl (by decide) (hdX9_findOdds) h0 (by decide) (cl_9) rfl (Nat.le_of_ble_eq_true rfl) dX9_oddsOf_4 rfl (fun r2 M1 => ?_)
  refine J_aload_n C dX9_oddsOf_7 rfl 0 rfl ?_
  refine J_getr C fk9_34 W4_211 h0 dX9_oddsOf_8 ?_
  refine J_iload_n C dX9_oddsOf_11 rfl 1 rfl ?_
  refine J_aload_ C (tl_9_34 h0) dX9_oddsOf_12 ?_
  exact J_iret C RT rfl dX9_oddsOf_13
theorem c9_oddsOf (l : Launch) (w : WE) (n : Nat) (o0 : Nat) (h0 : typ o0 = 9) (x1 : Int32) (x2 : Int32) (M : Mem) : MC l w yX9_oddsOf (wz yX9_oddsOf cX9_oddsOf 3 (some .int)) rm9_oddsOf [.ref (wa w o0), .int x1, .int x2] (s9_oddsOf n o0 x1 x2 M) M :=
  mc_of_J (own := RX9) rfl (by decide) rfl rfl (Nat.le_of_ble_eq_true rfl) (fun _ _ C RT => b9_oddsOf C RT n o0 h0 x1 x2 M)
theorem hdX9_oddsOf : yX9_oddsOf.cls = RX9 ∧ yOK yX9_oddsOf 2 := ⟨rfl, by decide, by decide, by decide⟩
abbrev rm9_notOdds : Room := { frames := 2, cells := 0, slots := 0, locals := 42 }
def s9_notOdds (o0 : Nat) (x1 : Int32) (x2 : Int32) (M : Mem) : Option Res := cb (s9_isThere o0 x1 M) (fun r2 M1 => if r2 = 0 then (some ((-1 : Int32), M1)) else (cb (s9_bound x2 (1 : Int32) (200 : Int32) M1) (fun r4 M3 => some (r4, M3))))
set_option maxRecDepth 100000 in
set_option maxHeartbeats 4000000 in
theorem b9_notOdds {w : WE} {g : GT} (C : CT w g RX9 cX9_notOdds rm9_notOdds 3) (RT : RTi w g cX9_notOdds .int) (o0 : Nat) (h0 : typ o0 = 9) (x1 : Int32) (x2 : Int32) (M : Mem) : J w g (s9_notOdds o0 x1 x2 M) M 0 [(0, .ref (wa w o0)), (1, .int x1), (2, .int x2)] [] := by
  rw [s9_notOdds]
  refine J_aload_n C dX9_notOdds_0 rfl 0 rfl ?_
  refine J_iload_n C dX9_notOdds_1 rfl 1 rfl ?_
  refine J_cvi (As := [.int x1]) C (c9_isThere (gl g) w o0 h0 x1 M) (gd_v W6_24 W6_26 WP_57 W1_10 W6_27) rfl (by decide) (hdX9_isThere) h0 (by decide) (cl_9) rfl (Nat.le_of_ble_eq_true rfl) dX9_notOdds_2 rfl (fun r2 M1 => ?_)
  refine J_if_ne (tgt := 12) C dX9_notOdds_5 (by decide) (fun _ => ?_) (fun _ => ?_)
  · refine J_iload_n C dX9_notOdds_12 rfl 2 rfl ?_
    refine J_iconst C dX9_notOdds_13 kci_1 ?_
    refine J_sipush C dX9_notOdds_14 kcs_200 ?_
    refine J_csi (As := [.int x2, .int (1 : Int32), .int (200 : Int32)]) (dm := 0) C (c9_bound (gl g) w x2 (1 : Int32) (200 : Int32) M1) (gd_s W5_97 W5_98 W1_10 W5_99) rfl (by decide) (hdX9_bound.2) rfl (Nat.le_of_ble_eq_true rfl) dX9_notOdds_17 rfl (fun r4 M3 => ?_)
    exact J_iret C RT rfl dX9_notOdds_20
  · refine J_iconst C dX9_notOdds_8 kci_m1 ?_
    refine J_goto (tgt := 20) C dX9_notOdds_9 (by decide) ?_
    exact J_iret C RT rfl dX9_notOdds_20
theorem c9_notOdds (l : Launch) (w : WE) (o0 : Nat) (h0 : typ o0 = 9) (x1 : Int32) (x2 : Int32) (M : Mem) : MC l w yX9_notOdds (wz yX9_notOdds cX9_notOdds 3 (some .int)) rm9_notOdds [.ref (wa w o0), .int x1, .int x2] (s9_notOdds o0 x1 x2 M) M :=
  mc_of_J (own := RX9) rfl (by decide) rfl rfl (Nat.le_of_ble_eq_true rfl) (fun _ _ C RT => b9_notOdds C RT o0 h0 x1 x2 M)
theorem hdX9_notOdds : yX9_notOdds.cls = RX9 ∧ yOK yX9_notOdds 2 := ⟨rfl, by decide, by decide, by decide⟩
