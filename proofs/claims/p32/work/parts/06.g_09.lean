abbrev rm8_film : Room := { frames := 2, cells := 0, slots := 0, locals := 41 }
def s8_film (o0 : Nat) (x1 : Int32) (M : Mem) : Option Res := cb (s4_isPlace (link (link o0 1) 0) x1 M) (fun r2 M1 => if r2 = 0 then (cb (s8_refuse o0 (1 : Int32) M1) (fun r10 M9 => some (r10, M9))) else (cb (s1_isFull (link o0 4) M1) (fun r4 M3 => if r4 = 0 then (cb (s1_append (link o0 4) x1 M3) (fun r6 M5 => some (r6, M5))) else (cb (s8_refuse o0 (6 : Int32) M3) (fun r8 M7 => some (r8, M7))))))
set_option maxRecDepth 100000 in
set_option maxHeartbeats 4000000 in
theorem b8_film {w : WE} {g : GT} (C : CT w g RX8 cX8_film rm8_film 2) (RT : RTi w g cX8_film .int) (o0 : Nat) (h0 : typ o0 = 8) (x1 : Int32) (M : Mem) : J w g (s8_film o0 x1 M) M 0 [(0, .ref (wa w o0)), (1, .int x1)] [] := by
  rw [s8_film]
  refine J_aload_n C dX8_film_0 rfl 0 rfl ?_
  refine J_getr C fk8_1 W2_38 h0 dX8_film_1 ?_
  refine J_getr C fk2_0 W1_164 (tl_8_1 h0) dX8_film_4 ?_
  refine J_iload_n C dX8_film_7 rfl 1 rfl ?_
  refine J_cvi (As := [.int x1]) C (c4_isPlace (gl g) w (link (link o0 1) 0) (tl_2_0 (tl_8_1 h0)) x1 M) (gd_v W3_83 W2_214 W2_215 W1_4 W2_216) rfl (by decide) (hdX4_isPlace) (tl_2_0 (tl_8_1 h0)) (by decide) (cl_4) rfl (Nat.le_of_ble_eq_true rfl) dX8_film_8 rfl (fun r2 M1 => ?_)
  refine J_if_ne (tgt := 20) C dX8_film_11 (by decide) (fun _ => ?_) (fun _ => ?_)
  · refine J_aload_n C dX8_film_20 rfl 0 rfl ?_
    refine J_getr C fk8_4 W2_41 h0 dX8_film_21 ?_
    refine J_cvi (As := []) C (c1_isFull (gl g) w (link o0 4) (tl_8_4 h0) M1) (gd_v W4_97 W4_98 W4_99 W1_8 W4_100) rfl (by decide) (hdX1_isFull) (tl_8_4 h0) (by decide) (cl_1) rfl (Nat.le_of_ble_eq_true rfl) dX8_film_24 rfl (fun r4 M3 => ?_)
    refine J_if_eq (tgt := 39) C dX8_film_27 (by decide) (fun _ => ?_) (fun _ => ?_)
    · refine J_aload_n C dX8_film_39 rfl 0 rfl ?_
      refine J_getr C fk8_4 W2_41 h0 dX8_film_40 ?_
      refine J_iload_n C dX8_film_43 rfl 1 rfl ?_
      refine J_cvi (As := [.int x1]) C (c1_append (gl g) w (link o0 4) (tl_8_4 h0) x1 M3) (gd_v W4_101 W4_102 W4_103 W1_8 W4_104) rfl (by decide) (hdX1_append) (tl_8_4 h0) (by decide) (cl_1) rfl (Nat.le_of_ble_eq_true rfl) dX8_film_44 rfl (fun r6 M5 => ?_)
      exact J_iret C RT rfl dX8_film_47
    · refine J_aload_n C dX8_film_30 rfl 0 rfl ?_
      refine J_bipush C dX8_film_31 kcb_6 ?_
      refine J_cvi (As := [.int (6 : Int32)]) C (c8_refuse (gl g) w o0 h0 (6 : Int32) M3) (gd_v W2_66 W2_68 WP_0 W1_1 W2_69) rfl (by decide) (hdX8_refuse) h0 (by decide) (cl_8) rfl (Nat.le_of_ble_eq_true rfl) dX8_film_33 rfl (fun r8 M7 => ?_)
      refine J_goto (tgt := 47) C dX8_film_36 (by decide) ?_
      exact J_iret C RT rfl dX8_film_47
  · refine J_aload_n C dX8_film_14 rfl 0 rfl ?_
    refine J_iconst C dX8_film_15 kci_1 ?_
    refine J_cvi (As := [.int (1 : Int32)]) C (c8_refuse (gl g) w o0 h0 (1 : Int32) M1) (gd_v W2_66 W2_68 WP_0 W1_1 W2_69) rfl (by decide) (hdX8_refuse) h0 (by decide) (cl_8) rfl (Nat.le_of_ble_eq_true rfl) dX8_film_16 rfl (fun r10 M9 => ?_)
    exact J_iret C RT rfl dX8_film_19
theorem c8_film (l : Launch) (w : WE) (o0 : Nat) (h0 : typ o0 = 8) (x1 : Int32) (M : Mem) : MC l w yX8_film (wz yX8_film cX8_film 2 (some .int)) rm8_film [.ref (wa w o0), .int x1] (s8_film o0 x1 M) M :=
  mc_of_J (own := RX8) rfl (by decide) rfl rfl (Nat.le_of_ble_eq_true rfl) (fun _ _ C RT => b8_film C RT o0 h0 x1 M)
theorem hdX8_film : yX8_film.cls = RX8 ∧ yOK yX8_film 1 := ⟨rfl, by decide, by decide, by decide⟩
abbrev rm8_judge : Room := { frames := 4, cells := 0, slots := 0, locals := 106 }
def s8_judge (n : Nat) (o0 : Nat) (x1 : Int32) (M : Mem) : Option Res := cb (s2_knowsIn (link o0 1) x1 M) (fun r2 M1 => if r2 = 0 then (cb (s8_refuse o0 (1 : Int32) M1) (fun r7 M6 => some (r7, M6))) else (cb (s0_firstWrong n (link o0 0) x1 (link o0 4) M1) (fun r4 M3 => mlet (mset M3 (link o0 4) 1 (0 : Int32)) (fun M5 => some (r4, M5)))))
set_option maxRecDepth 100000 in
set_option maxHeartbeats 4000000 in
theorem b8_judge {w : WE} {g : GT} (C : CT w g RX8 cX8_judge rm8_judge 3) (RT : RTi w g cX8_judge .int) (n : Nat) (o0 : Nat) (h0 : typ o0 = 8) (x1 : Int32) (M : Mem) : J w g (s8_judge n o0 x1 M) M 0 [(0, .ref (wa w o0)), (1, .int x1)] [] := by
  rw [s8_judge]
  refine J_aload_n C dX8_judge_0 rfl 0 rfl ?_
  refine J_getr C fk8_1 W2_38 h0 dX8_judge_1 ?_
  refine J_iload_n C dX8_judge_4 rfl 1 rfl ?_
  refine J_cvi (As := [.int x1]) C (c2_knowsIn (gl g) w (link o0 1) (tl_8_1 h0) x1 M) (gd_v W3_212 W3_110 W3_111 W1_3 W3_112) rfl (by decide) (hdX2_knowsIn) (tl_8_1 h0) (by decide) (cl_2) rfl (Nat.le_of_ble_eq_true rfl) dX8_judge_5 rfl (fun r2 M1 => ?_)
  refine J_if_ne (tgt := 17) C dX8_judge_8 (by decide) (fun _ => ?_) (fun _ => ?_)
  · refine J_aload_n C dX8_judge_17 rfl 0 rfl ?_
    refine J_getr C fk8_0 W2_37 h0 dX8_judge_18 ?_
    refine J_iload_n C dX8_judge_21 rfl 1 rfl ?_
    refine J_aload_n C dX8_judge_22 rfl 0 rfl ?_
    refine J_getr C fk8_4 W2_41 h0 dX8_judge_23 ?_
    refine J_cvi (As := [.int x1, .ref (wa w (link o0 4))]) C (c0_firstWrong (gl g) w n (link o0 0) (tl_8_0 h0) x1 (link o0 4) (tl_8_4 h0) M1) (gd_v W4_152 W4_153 W4_154 W1_2 W4_155) rfl (by decide) (hdX0_firstWrong) (tl_8_0 h0) (by decide) (cl_0) rfl (Nat.le_of_ble_eq_true rfl) dX8_judge_26 rfl (fun r4 M3 => ?_)
    refine J_istore_n (lv' := [(2, .int r4), (0, .ref (wa w o0)), (1, .int x1)]) C dX8_judge_29 rfl (by decide) rfl ?_
    refine J_aload_n C dX8_judge_30 rfl 1 rfl ?_
    refine J_getr C fk8_4 W2_41 h0 dX8_judge_31 ?_
    refine J_iconst C dX8_judge_34 kci_0 ?_
    refine J_puti C fk1_1 W2_3 fp1_1 (tl_8_4 h0) dX8_judge_35 ?_
    refine J_mlet (fun M5 => ?_)
    refine J_iload_n C dX8_judge_38 rfl 0 rfl ?_
    exact J_iret C RT rfl dX8_judge_39
  · refine J_aload_n C dX8_judge_11 rfl 0 rfl ?_
    refine J_iconst C dX8_judge_12 kci_1 ?_
    refine J_cvi (As := [.int (1 : Int32)]) C (c8_refuse (gl g) w o0 h0 (1 : Int32) M1) (gd_v W2_66 W2_68 WP_0 W1_1 W2_69) rfl (by decide) (hdX8_refuse) h0 (by decide) (cl_8) rfl (Nat.le_of_ble_eq_true rfl) dX8_judge_13 rfl (fun r7 M6 => ?_)
    exact J_iret C RT rfl dX8_judge_16
theorem c8_judge (l : Launch) (w : WE) (n : Nat) (o0 : Nat) (h0 : typ o0 = 8) (x1 : Int32) (M : Mem) : MC l w yX8_judge (wz yX8_judge cX8_judge 3 (some .int)) rm8_judge [.ref (wa w o0), .int x1] (s8_judge n o0 x1 M) M :=
  mc_of_J (own := RX8) rfl (by decide) rfl rfl (Nat.le_of_ble_eq_true rfl) (fun _ _ C RT => b8_judge C RT n o0 h0 x1 M)
theorem hdX8_judge : yX8_judge.cls = RX8 ∧ yOK yX8_judge 1 := ⟨rfl, by decide, by decide, by decide⟩
abbrev rm8_image : Room := { frames := 3, cells := 0, slots := 0, locals := 83 }
def s8_image (n : Nat) (o0 : Nat) (M : Mem) : Option Res := cb (s2_become n (link o0 2) (link o0 1) M) (fun _ M1 => mlet (mset M1 o0 7 (1 : Int32)) (fun M3 => some (M3 (link o0 2) 5, M3)))
set_option maxRecDepth 100000 in
set_option maxHeartbeats 4000000 in
theorem b8_image {w : WE} {g : GT} (C : CT w g RX8 cX8_image rm8_image 1) (RT : RTi w g cX8_image .int) (n : Nat) (o0 : Nat) (h0 : typ o0 = 8) (M : Mem) : J w g (s8_image n o0 M) M 0 [(0, .ref (wa w o0))] [] := by
  rw [s8_image]
  refine J_aload_n C dX8_image_0 rfl 0 rfl ?_
  refine J_getr C fk8_2 W2_39 h0 dX8_image_1 ?_
  refine J_aload_n C dX8_image_4 rfl 0 rfl ?_
  refine J_getr C fk8_1 W2_38 h0 dX8_image_5 ?_
  refine J_cvv (As := [.ref (wa w (link o0 1))]) C (c2_become (gl g) w n (link o0 2) (tl_8_2 h0) (link o0 1) (tl_8_1 h0) M) (gd_v W4_161 W2_171 W2_172 W1_3 W2_173) rfl (by decide) (hdX2_become) (tl_8_2 h0) (by decide) (cl_2) rfl (Nat.le_of_ble_eq_true rfl) dX8_image_8 rfl (fun r2 M1 => ?_)
  refine J_aload_n C dX8_image_11 rfl 0 rfl ?_
  refine J_iconst C dX8_image_12 kci_1 ?_
  refine J_putzc C (by decide) fk8_7 W2_44 fp8_7 h0 dX8_image_13 ?_
  refine J_mlet (fun M3 => ?_)
  refine J_aload_n C dX8_image_16 rfl 0 rfl ?_
  refine J_getr C fk8_2 W2_39 h0 dX8_image_17 ?_
  refine J_geti C fk2_5 W1_182 (tl_8_2 h0) dX8_image_20 ?_
  exact J_iret C RT rfl dX8_image_23
theorem c8_image (l : Launch) (w : WE) (n : Nat) (o0 : Nat) (h0 : typ o0 = 8) (M : Mem) : MC l w yX8_image (wz yX8_image cX8_image 1 (some .int)) rm8_image [.ref (wa w o0)] (s8_image n o0 M) M :=
  mc_of_J (own := RX8) rfl (by decide) rfl rfl (Nat.le_of_ble_eq_true rfl) (fun _ _ C RT => b8_image C RT n o0 h0 M)
theorem hdX8_image : yX8_image.cls = RX8 ∧ yOK yX8_image 0 := ⟨rfl, by decide, by decide, by decide⟩
abbrev rm8_restore : Room := { frames := 3, cells := 0, slots := 0, locals := 83 }
def s8_restore (n : Nat) (o0 : Nat) (M : Mem) : Option Res := if (M o0 7) = 0 then (cb (s8_refuse o0 (3 : Int32) M) (fun r4 M3 => some (r4, M3))) else (cb (s2_become n (link o0 1) (link o0 2) M) (fun _ M1 => some (M1 (link o0 1) 5, M1)))
set_option maxRecDepth 100000 in
set_option maxHeartbeats 4000000 in
theorem b8_restore {w : WE} {g : GT} (C : CT w g RX8 cX8_restore rm8_restore 1) (RT : RTi w g cX8_restore .int) (n : Nat) (o0 : Nat) (h0 : typ o0 = 8) (M : Mem) : J w g (s8_restore n o0 M) M 0 [(0, .ref (wa w o0))] [] := by
  rw [s8_restore]
  refine J_aload_n C dX8_restore_0 rfl 0 rfl ?_
  refine J_geti C fk8_7 W2_44 h0 dX8_restore_1 ?_
  refine J_if_ne (tgt := 13) C dX8_restore_4 (by decide) (fun _ => ?_) (fun _ => ?_)
  · refine J_aload_n C dX8_restore_13 rfl 0 rfl ?_
    refine J_getr C fk8_1 W2_38 h0 dX8_restore_14 ?_
    refine J_aload_n C dX8_restore_17 rfl 0 rfl ?_
    refine J_getr C fk8_2 W2_39 h0 dX8_restore_18 ?_
    refine J_cvv (As := [.ref (wa w (link o0 2))]) C (c2_become (gl g) w n (link o0 1) (tl_8_1 h0) (link o0 2) (tl_8_2 h0) M) (gd_v W4_161 W2_171 W2_172 W1_3 W2_173) rfl (by decide) (hdX2_become) (tl_8_1 h0) (by decide) (cl_2) rfl (Nat.le_of_ble_eq_true rfl) dX8_restore_21 rfl (fun r2 M1 => ?_)
    refine J_aload_n C dX8_restore_24 rfl 0 rfl ?_
    refine J_getr C fk8_1 W2_38 h0 dX8_restore_25 ?_
    refine J_geti C fk2_5 W1_182 (tl_8_1 h0) dX8_restore_28 ?_
    exact J_iret C RT rfl dX8_restore_31
  · refine J_aload_n C dX8_restore_7 rfl 0 rfl ?_
    refine J_iconst C dX8_restore_8 kci_3 ?_
    refine J_cvi (As := [.int (3 : Int32)]) C (c8_refuse (gl g) w o0 h0 (3 : Int32) M) (gd_v W2_66 W2_68 WP_0 W1_1 W2_69) rfl (by decide) (hdX8_refuse) h0 (by decide) (cl_8) rfl (Nat.le_of_ble_eq_true rfl) dX8_restore_9 rfl (fun r4 M3 => ?_)
    exact J_iret C RT rfl dX8_restore_12
theorem c8_restore (l : Launch) (w : WE) (n : Nat) (o0 : Nat) (h0 : typ o0 = 8) (M : Mem) : MC l w yX8_restore (wz yX8_restore cX8_restore 1 (some .int)) rm8_restore [.ref (wa w o0)] (s8_restore n o0 M) M :=
  mc_of_J (own := RX8) rfl (by decide) rfl rfl (Nat.le_of_ble_eq_true rfl) (fun _ _ C RT => b8_restore C RT n o0 h0 M)
theorem hdX8_restore : yX8_restore.cls = RX8 ∧ yOK yX8_restore 0 := ⟨rfl, by decide, by decide, by decide⟩
abbrev rm8_count : Room := { frames := 2, cells := 0, slots := 0, locals := 43 }
def s8_count_22 (n : Nat) (o0 : Nat) (x1 : Int32) (M : Mem) : Option Res := if x1 = 0 then (some (M (link (link o0 1) 0) 0, M)) else (if x1 = 1 then (some (M (link (link o0 1) 0) 1, M)) else (if x1 = 2 then (some (M (link o0 1) 5, M)) else (if x1 = 3 then (cb (s2_countIn n (link o0 1) M) (fun r2 M1 => some (r2, M1))) else (if x1 = 4 then (some (M (link o0 1) 7, M)) else (if x1 = 5 then (some (M (link o0 1) 8, M)) else (if x1 = 6 then (some (M (link o0 3) 1, M)) else (if x1 = 7 then (some (M (link o0 4) 1, M)) else (if x1 = 8 then (some (M (link o0 5) 4, M)) else (some ((-9 : Int32), M))))))))))
set_option maxRecDepth 100000 in
set_option maxHeartbeats 4000000 in
theorem b8_count_22 {w : WE} {g : GT} (C : CT w g RX8 cX8_count rm8_count 2) (RT : RTi w g cX8_count .int) (n : Nat) (o0 : Nat) (h0 : typ o0 = 8) (x1 : Int32) (M : Mem) : J w g (s8_count_22 n o0 x1 M) M 22 [(0, .ref (wa w o0)), (1, .int x1)] [] := by
  rw [s8_count_22]
  refine J_iload_n C dX8_count_22 rfl 1 rfl ?_
  refine J_ite (fun hc0 => ?_) (fun hc0 => ?_)
  · refine J_tsin (tgt := 72) C dX8_count_23 (by rw [hc0]; decide) (by rw [hc0]; decide) (off := 49) (by rw [hc0]; rfl) (by decide) ?_
    refine J_aload_n C dX8_count_72 rfl 0 rfl ?_
    refine J_getr C fk8_1 W2_38 h0 dX8_count_73 ?_
    refine J_getr C fk2_0 W1_164 (tl_8_1 h0) dX8_count_76 ?_
    refine J_geti C fk4_0 W1_47 (tl_2_0 (tl_8_1 h0)) dX8_count_79 ?_
    exact J_iret C RT rfl dX8_count_82
  · refine J_ite (fun hc1 => ?_) (fun hc1 => ?_)
    · refine J_tsin (tgt := 83) C dX8_count_23 (by rw [hc1]; decide) (by rw [hc1]; decide) (off := 60) (by rw [hc1]; rfl) (by decide) ?_
      refine J_aload_n C dX8_count_83 rfl 0 rfl ?_
      refine J_getr C fk8_1 W2_38 h0 dX8_count_84 ?_
      refine J_getr C fk2_0 W1_164 (tl_8_1 h0) dX8_count_87 ?_
      refine J_geti C fk4_1 W1_52 (tl_2_0 (tl_8_1 h0)) dX8_count_90 ?_
      exact J_iret C RT rfl dX8_count_93
    · refine J_ite (fun hc2 => ?_) (fun hc2 => ?_)
      · refine J_tsin (tgt := 94) C dX8_count_23 (by rw [hc2]; decide) (by rw [hc2]; decide) (off := 71) (by rw [hc2]; rfl) (by decide) ?_
        refine J_aload_n C dX8_count_94 rfl 0 rfl ?_
        refine J_getr C fk8_1 W2_38 h0 dX8_count_95 ?_
        refine J_geti C fk2_5 W1_182 (tl_8_1 h0) dX8_count_98 ?_
        exact J_iret C RT rfl dX8_count_101
      · refine J_ite (fun hc3 => ?_) (fun hc3 => ?_)
        · refine J_tsin (tgt := 102) C dX8_count_23 (by rw [hc3]; decide) (by rw [hc3]; decide) (off := 79) (by rw [hc3]; rfl) (by decide) ?_
          refine J_aload_n C dX8_count_102 rfl 0 rfl ?_
          refine J_getr C fk8_1 W2_38 h0 dX8_count_103 ?_
          refine J_cvi (As := []) C (c2_countIn (gl g) w n (link o0 1) (tl_8_1 h0) M) (gd_v W4_170 W3_106 W3_107 W1_3 W3_108) rfl (by decide) (hdX2_countIn) (tl_8_1 h0) (by decide) (cl_2) rfl (Nat.le_of_ble_eq_true rfl) dX8_count_106 rfl (fun r2 M1 => ?_)
          exact J_iret C RT rfl dX8_count_109
        · refine J_ite (fun hc4 => ?_) (fun hc4 => ?_)
          · refine J_tsin (tgt := 110) C dX8_count_23 (by rw [hc4]; decide) (by rw [hc4]; decide) (off := 87) (by rw [hc4]; rfl) (by decide) ?_
            refine J_aload_n C dX8_count_110 rfl 0 rfl ?_
            refine J_getr C fk8_1 W2_38 h0 dX8_count_111 ?_
            refine J_geti C fk2_7 W1_188 (tl_8_1 h0) dX8_count_114 ?_
            exact J_iret C RT rfl dX8_count_117
          · refine J_ite (fun hc5 => ?_) (fun hc5 => ?_)
            · refine J_tsin (tgt := 118) C dX8_count_23 (by rw [hc5]; decide) (by rw [hc5]; decide) (off := 95) (by rw [hc5]; rfl) (by decide) ?_
              refine J_aload_n C dX8_count_118 rfl 0 rfl ?_
              refine J_getr C fk8_1 W2_38 h0 dX8_count_119 ?_
              refine J_geti C fk2_8 W1_190 (tl_8_1 h0) dX8_count_122 ?_
              exact J_iret C RT rfl dX8_count_125
            · refine J_ite (fun hc6 => ?_) (fun hc6 => ?_)
              · refine J_tsin (tgt := 126) C dX8_count_23 (by rw [hc6]; decide) (by rw [hc6]; decide) (off := 103) (by rw [hc6]; rfl) (by decide) ?_
                refine J_aload_n C dX8_count_126 rfl 0 rfl ?_
                refine J_getr C fk8_3 W2_40 h0 dX8_count_127 ?_
                refine J_geti C fk1_1 W2_3 (tl_8_3 h0) dX8_count_130 ?_
                exact J_iret C RT rfl dX8_count_133
              · refine J_ite (fun hc7 => ?_) (fun hc7 => ?_)
                · refine J_tsin (tgt := 134) C dX8_count_23 (by rw [hc7]; decide) (by rw [hc7]; decide) (off := 111) (by rw [hc7]; rfl) (by decide) ?_
                  refine J_aload_n C dX8_count_134 rfl 0 rfl ?_
                  refine J_getr C fk8_4 W2_41 h0 dX8_count_135 ?_
                  refine J_geti C fk1_1 W2_3 (tl_8_4 h0) dX8_count_138 ?_
                  exact J_iret C RT rfl dX8_count_141
                · refine J_ite (fun hc8 => ?_) (fun hc8 => ?_)
                  · refine J_tsin (tgt := 142) C dX8_count_23 (by rw [hc8]; decide) (by rw [hc8]; decide) (off := 119) (by rw [hc8]; rfl) (by decide) ?_
                    refine J_aload_n C dX8_count_142 rfl 0 rfl ?_
                    refine J_getr C fk8_5 W2_42 h0 dX8_count_143 ?_
                    refine J_geti C fk6_4 W2_20 (tl_8_5 h0) dX8_count_146 ?_
                    exact J_iret C RT rfl dX8_count_149
                  · refine J_tsout (tgt := 150) C dX8_count_23 (by have q0 := lv_neT hc0 (a := 0) rfl; have q1 := lv_neT hc1 (a := 1) rfl; have q2 := lv_neT hc2 (a := 2) rfl; have q3 := lv_neT hc3 (a := 3) rfl; have q4 := lv_neT hc4 (a := 4) rfl; have q5 := lv_neT hc5 (a := 5) rfl; have q6 := lv_neT hc6 (a := 6) rfl; have q7 := lv_neT hc7 (a := 7) rfl; have q8 := lv_neT hc8 (a := 8) rfl; omega) (by decide) ?_
                    refine J_bipush C dX8_count_150 kcb_m9 ?_
                    exact J_iret C RT rfl dX8_count_152
def s8_count (n : Nat) (o0 : Nat) (x1 : Int32) (M : Mem) : Option Res := if x1 < (11 : Int32) then (s8_count_22 n o0 x1 M) else (if (16 : Int32) < x1 then (s8_count_22 n o0 x1 M) else (if inB (x1 - (10 : Int32)) (alen (link o0 6)) then some (M (link o0 6) (x1 - (10 : Int32)).toNatClampNeg, M) else none))
set_option maxRecDepth 100000 in
set_option maxHeartbeats 4000000 in
theorem b8_count {w : WE} {g : GT} (C : CT w g RX8 cX8_count rm8_count 2) (RT : RTi w g cX8_count .int) (n : Nat) (o0 : Nat) (h0 : typ o0 = 8) (x1 : Int32) (M : Mem) : J w g (s8_count n o0 x1 M) M 0 [(0, .ref (wa w o0)), (1, .int x1)] [] := by
  rw [s8_count]
  refine J_iload_n C dX8_count_0 rfl 1 rfl ?_
  refine J_bipush C dX8_count_1 kcb_11 ?_
  refine J_icmp_lt (tgt := 22) C dX8_count_3 (by decide) (fun _ => ?_) (fun _ => ?_)
  · exact b8_count_22 C RT n o0 h0 x1 M
  · refine J_iload_n C dX8_count_6 rfl 1 rfl ?_
    refine J_bipush C dX8_count_7 kcb_16 ?_
    refine J_icmp_gt (tgt := 22) C dX8_count_9 (by decide) (fun _ => ?_) (fun _ => ?_)
    · exact b8_count_22 C RT n o0 h0 x1 M
    · refine J_aload_n C dX8_count_12 rfl 0 rfl ?_
      refine J_getr C fk8_6 W2_43 h0 dX8_count_13 ?_
      refine J_iload_n C dX8_count_16 rfl 1 rfl ?_
      refine J_bipush C dX8_count_17 kcb_10 ?_
      refine J_isub C dX8_count_19 ?_
      refine J_aload_ C (tl_8_6 h0) dX8_count_20 ?_
      exact J_iret C RT rfl dX8_count_21
theorem c8_count (l : Launch) (w : WE) (n : Nat) (o0 : Nat) (h0 : typ o0 = 8) (x1 : Int32) (M : Mem) : MC l w yX8_count (wz yX8_count cX8_count 2 (some .int)) rm8_count [.ref (wa w o0), .int x1] (s8_count n o0 x1 M) M :=
  mc_of_J (own := RX8) rfl (by decide) rfl rfl (Nat.le_of_ble_eq_true rfl) (fun _ _ C RT => b8_count C RT n o0 h0 x1 M)
theorem hdX8_count : yX8_count.cls = RX8 ∧ yOK yX8_count 1 := ⟨rfl, by decide, by decide, by decide⟩
abbrev rm9_no : Room := { frames := 0, cells := 0, slots := 0, locals := 0 }
def s9_no (o0 : Nat) (x1 : Int32) (M : Mem) : Option Res := if inB (-x1) (alen (link o0 0)) then if inB (-x1) (alen (link o0 0)) then mlet (mset M (link o0 0) (-x1).toNatClampNeg ((M (link o0 0) (-x1).toNatClampNeg) + (1 : Int32))) (fun M1 => some (x1, M1)) else none else none
set_option maxRecDepth 100000 in
set_option maxHeartbeats 4000000 in
theorem b9_no {w : WE} {g : GT} (C : CT w g RX9 cX9_no rm9_no 2) (RT : RTi w g cX9_no .int) (o0 : Nat) (h0 : typ o0 = 9) (x1 : Int32) (M : Mem) : J w g (s9_no o0 x1 M) M 0 [(0, .ref (wa w o0)), (1, .int x1)] [] := by
  rw [s9_no]
  refine J_aload_n C dX9_no_0 rfl 0 rfl ?_
  refine J_getr C fk9_0 W4_177 h0 dX9_no_1 ?_
  refine J_iload_n C dX9_no_4 rfl 1 rfl ?_
  refine J_ineg C dX9_no_5 ?_
  refine J_dup2 C rfl rfl dX9_no_6 ?_
  refine J_aload_ C (tl_9_0 h0) dX9_no_7 ?_
  refine J_iconst C dX9_no_8 kci_1 ?_
  refine J_iadd C dX9_no_9 ?_
  refine J_iastore C (tl_9_0 h0) dX9_no_10 ?_
  refine J_mlet (fun M1 => ?_)
  refine J_iload_n C dX9_no_11 rfl 1 rfl ?_
  exact J_iret C RT rfl dX9_no_12
theorem c9_no (l : Launch) (w : WE) (o0 : Nat) (h0 : typ o0 = 9) (x1 : Int32) (M : Mem) : MC l w yX9_no (wz yX9_no cX9_no 2 (some .int)) rm9_no [.ref (wa w o0), .int x1] (s9_no o0 x1 M) M :=
  mc_of_J (own := RX9) rfl (by decide) rfl rfl (Nat.le_of_ble_eq_true rfl) (fun _ _ C RT => b9_no C RT o0 h0 x1 M)
theorem hdX9_no : yX9_no.cls = RX9 ∧ yOK yX9_no 1 := ⟨rfl, by decide, by decide, by decide⟩
abbrev rm9_isIn : Room := { frames := 0, cells := 0, slots := 0, locals := 0 }
def s9_isIn (x0 : Int32) (x1 : Int32) (x2 : Int32) (M : Mem) : Option Res := if x0 < x1 then (some ((0 : Int32), M)) else (if x2 < x0 then (some ((0 : Int32), M)) else (some ((1 : Int32), M)))
set_option maxRecDepth 100000 in
set_option maxHeartbeats 4000000 in
theorem b9_isIn {w : WE} {g : GT} (C : CT w g RX9 cX9_isIn rm9_isIn 3) (RT : RTi w g cX9_isIn .boolean) (x0 : Int32) (x1 : Int32) (x2 : Int32) (M : Mem) : J w g (s9_isIn x0 x1 x2 M) M 0 [(0, .int x0), (1, .int x1), (2, .int x2)] [] := by
  rw [s9_isIn]
  refine J_iload_n C dX9_isIn_0 rfl 0 rfl ?_
  refine J_iload_n C dX9_isIn_1 rfl 1 rfl ?_
  refine J_icmp_lt (tgt := 14) C dX9_isIn_2 (by decide) (fun _ => ?_) (fun _ => ?_)
  · refine J_iconst C dX9_isIn_14 kci_0 ?_
    exact J_iret C RT (by decide) dX9_isIn_15
  · refine J_iload_n C dX9_isIn_5 rfl 0 rfl ?_
    refine J_iload_n C dX9_isIn_6 rfl 2 rfl ?_
    refine J_icmp_gt (tgt := 14) C dX9_isIn_7 (by decide) (fun _ => ?_) (fun _ => ?_)
    · refine J_iconst C dX9_isIn_14 kci_0 ?_
      exact J_iret C RT (by decide) dX9_isIn_15
    · refine J_iconst C dX9_isIn_10 kci_1 ?_
      refine J_goto (tgt := 15) C dX9_isIn_11 (by decide) ?_
      exact J_iret C RT (by decide) dX9_isIn_15
theorem c9_isIn (l : Launch) (w : WE) (x0 : Int32) (x1 : Int32) (x2 : Int32) (M : Mem) : MC l w yX9_isIn (wz yX9_isIn cX9_isIn 3 (some .boolean)) rm9_isIn [.int x0, .int x1, .int x2] (s9_isIn x0 x1 x2 M) M :=
  mc_of_J (own := RX9) rfl (by decide) rfl rfl (Nat.le_of_ble_eq_true rfl) (fun _ _ C RT => b9_isIn C RT x0 x1 x2 M)
theorem hdX9_isIn : yX9_isIn.cls = RX9 ∧ yOK yX9_isIn 3 := ⟨rfl, by decide, by decide, by decide⟩
abbrev rm9_bound : Room := { frames := 0, cells := 0, slots := 0, locals := 0 }
def s9_bound (x0 : Int32) (x1 : Int32) (x2 : Int32) (M : Mem) : Option Res := if x1 ≤ x0 then (if x0 ≤ x2 then (some ((0 : Int32), M)) else (some ((-6 : Int32), M))) else (some ((-4 : Int32), M))
set_option maxRecDepth 100000 in
set_option maxHeartbeats 4000000 in
theorem b9_bound {w : WE} {g : GT} (C : CT w g RX9 cX9_bound rm9_bound 3) (RT : RTi w g cX9_bound .int) (x0 : Int32) (x1 : Int32) (x2 : Int32) (M : Mem) : J w g (s9_bound x0 x1 x2 M) M 0 [(0, .int x0), (1, .int x1), (2, .int x2)] [] := by
  rw [s9_bound]
  refine J_iload_n C dX9_bound_0 rfl 0 rfl ?_
  refine J_iload_n C dX9_bound_1 rfl 1 rfl ?_
  refine J_icmp_ge (tgt := 10) C dX9_bound_2 (by decide) (fun _ => ?_) (fun _ => ?_)
  · refine J_iload_n C dX9_bound_10 rfl 0 rfl ?_
    refine J_iload_n C dX9_bound_11 rfl 2 rfl ?_
    refine J_icmp_le (tgt := 20) C dX9_bound_12 (by decide) (fun _ => ?_) (fun _ => ?_)
    · refine J_iconst C dX9_bound_20 kci_0 ?_
      exact J_iret C RT rfl dX9_bound_21
    · refine J_bipush C dX9_bound_15 kcb_m6 ?_
      refine J_goto (tgt := 21) C dX9_bound_17 (by decide) ?_
      exact J_iret C RT rfl dX9_bound_21
  · refine J_bipush C dX9_bound_5 kcb_m4 ?_
    refine J_goto (tgt := 21) C dX9_bound_7 (by decide) ?_
    exact J_iret C RT rfl dX9_bound_21
theorem c9_bound (l : Launch) (w : WE) (x0 : Int32) (x1 : Int32) (x2 : Int32) (M : Mem) : MC l w yX9_bound (wz yX9_bound cX9_bound 3 (some .int)) rm9_bound [.int x0, .int x1, .int x2] (s9_bound x0 x1 x2 M) M :=
  mc_of_J (own := RX9) rfl (by decide) rfl rfl (Nat.le_of_ble_eq_true rfl) (fun _ _ C RT => b9_bound C RT x0 x1 x2 M)
theorem hdX9_bound : yX9_bound.cls = RX9 ∧ yOK yX9_bound 3 := ⟨rfl, by decide, by decide, by decide⟩
abbrev rm9_isPlace : Room := { frames := 0, cells := 0, slots := 0, locals := 0 }
def s9_isPlace (o0 : Nat) (x1 : Int32) (M : Mem) : Option Res := if x1 < 0 then (some ((0 : Int32), M)) else (if (M o0 11) ≤ x1 then (some ((0 : Int32), M)) else (some ((1 : Int32), M)))
set_option maxRecDepth 100000 in
set_option maxHeartbeats 4000000 in
theorem b9_isPlace {w : WE} {g : GT} (C : CT w g RX9 cX9_isPlace rm9_isPlace 2) (RT : RTi w g cX9_isPlace .boolean) (o0 : Nat) (h0 : typ o0 = 9) (x1 : Int32) (M : Mem) : J w g (s9_isPlace o0 x1 M) M 0 [(0, .ref (wa w o0)), (1, .int x1)] [] := by
  rw [s9_isPlace]
  refine J_iload_n C dX9_isPlace_0 rfl 1 rfl ?_
  refine J_if_lt (tgt := 16) C dX9_isPlace_1 (by decide) (fun _ => ?_) (fun _ => ?_)
  · refine J_iconst C dX9_isPlace_16 kci_0 ?_
    exact J_iret C RT (by decide) dX9_isPlace_17
  · refine J_iload_n C dX9_isPlace_4 rfl 1 rfl ?_
    refine J_aload_n C dX9_isPlace_5 rfl 0 rfl ?_
    refine J_geti C fk9_11 W4_188 h0 dX9_isPlace_6 ?_
    refine J_icmp_ge (tgt := 16) C dX9_isPlace_9 (by decide) (fun _ => ?_) (fun _ => ?_)
    · refine J_iconst C dX9_isPlace_16 kci_0 ?_
      exact J_iret C RT (by decide) dX9_isPlace_17
    · refine J_iconst C dX9_isPlace_12 kci_1 ?_
      refine J_goto (tgt := 17) C dX9_isPlace_13 (by decide) ?_
      exact J_iret C RT (by decide) dX9_isPlace_17
theorem c9_isPlace (l : Launch) (w : WE) (o0 : Nat) (h0 : typ o0 = 9) (x1 : Int32) (M : Mem) : MC l w yX9_isPlace (wz yX9_isPlace cX9_isPlace 2 (some .boolean)) rm9_isPlace [.ref (wa w o0), .int x1] (s9_isPlace o0 x1 M) M :=
  mc_of_J (own := RX9) rfl (by decide) rfl rfl (Nat.le_of_ble_eq_true rfl) (fun _ _ C RT => b9_isPlace C RT o0 h0 x1 M)
theorem hdX9_isPlace : yX9_isPlace.cls = RX9 ∧ yOK yX9_isPlace 1 := ⟨rfl, by decide, by decide, by decide⟩
abbrev rm9_isWalker : Room := { frames := 0, cells := 0, slots := 0, locals := 0 }
def s9_isWalker (o0 : Nat) (x1 : Int32) (M : Mem) : Option Res := if x1 < 0 then (some ((0 : Int32), M)) else (if (M o0 12) ≤ x1 then (some ((0 : Int32), M)) else (some ((1 : Int32), M)))
set_option maxRecDepth 100000 in
set_option maxHeartbeats 4000000 in
theorem b9_isWalker {w : WE} {g : GT} (C : CT w g RX9 cX9_isWalker rm9_isWalker 2) (RT : RTi w g cX9_isWalker .boolean) (o0 : Nat) (h0 : typ o0 = 9) (x1 : Int32) (M : Mem) : J w g (s9_isWalker o0 x1 M) M 0 [(0, .ref (wa w o0)), (1, .int x1)] [] := by
  rw [s9_isWalker]
  refine J_iload_n C dX9_isWalker_0 rfl 1 rfl ?_
  refine J_if_lt (tgt := 16) C dX9_isWalker_1 (by decide) (fun _ => ?_) (fun _ => ?_)
  · refine J_iconst C dX9_isWalker_16 kci_0 ?_
    exact J_iret C RT (by decide) dX9_isWalker_17
  · refine J_iload_n C dX9_isWalker_4 rfl 1 rfl ?_
    refine J_aload_n C dX9_isWalker_5 rfl 0 rfl ?_
    refine J_geti C fk9_12 W4_189 h0 dX9_isWalker_6 ?_
    refine J_icmp_ge (tgt := 16) C dX9_isWalker_9 (by decide) (fun _ => ?_) (fun _ => ?_)
    · refine J_iconst C dX9_isWalker_16 kci_0 ?_
      exact J_iret C RT (by decide) dX9_isWalker_17
    · refine J_iconst C dX9_isWalker_12 kci_1 ?_
      refine J_goto (tgt := 17) C dX9_isWalker_13 (by decide) ?_
      exact J_iret C RT (by decide) dX9_isWalker_17
theorem c9_isWalker (l : Launch) (w : WE) (o0 : Nat) (h0 : typ o0 = 9) (x1 : Int32) (M : Mem) : MC l w yX9_isWalker (wz yX9_isWalker cX9_isWalker 2 (some .boolean)) rm9_isWalker [.ref (wa w o0), .int x1] (s9_isWalker o0 x1 M) M :=
  mc_of_J (own := RX9) rfl (by decide) rfl rfl (Nat.le_of_ble_eq_true rfl) (fun _ _ C RT => b9_isWalker C RT o0 h0 x1 M)
theorem hdX9_isWalker : yX9_isWalker.cls = RX9 ∧ yOK yX9_isWalker 1 := ⟨rfl, by decide, by decide, by decide⟩
abbrev rm9_chairs : Room := { frames := 0, cells := 0, slots := 0, locals := 0 }
def s9_chairs_4 (n : Nat) (o0 : Nat) : Nat → Int32 → Int32 → Mem → Option Res
  | 0, _, _, _ => none
  | f + 1, x1, x2, M => if (M o0 11) ≤ x2 then (some (x1, M)) else (if inB x2 (alen (link o0 1)) then ilet (x1 + (M (link o0 1) x2.toNatClampNeg)) (fun v1 => ilet (x2 + 1) (fun v2 => s9_chairs_4 n o0 f v1 v2 M)) else none)
set_option maxRecDepth 100000 in
set_option maxHeartbeats 4000000 in
theorem b9_chairs_4 {w : WE} {g : GT} (C : CT w g RX9 cX9_chairs rm9_chairs 3) (RT : RTi w g cX9_chairs .int) (n : Nat) (o0 : Nat) (h0 : typ o0 = 9) : ∀ (f : Nat) (x1 : Int32) (x2 : Int32) (M : Mem), J w g (s9_chairs_4 n o0 f x1 x2 M) M 4 [(0, .ref (wa w o0)), (1, .int x1), (2, .int x2)] [] := by
  intro f
  induction f with
  | zero =>
    intro x1 x2 M
    rw [s9_chairs_4]
    exact J_none
  | succ f ih =>
    intro x1 x2 M
    rw [s9_chairs_4]
    refine J_iload_n C dX9_chairs_4 rfl 2 rfl ?_
    refine J_aload_n C dX9_chairs_5 rfl 0 rfl ?_
    refine J_geti C fk9_11 W4_188 h0 dX9_chairs_6 ?_
    refine J_icmp_ge (tgt := 27) C dX9_chairs_9 (by decide) (fun _ => ?_) (fun _ => ?_)
    · refine J_iload_n C dX9_chairs_27 rfl 1 rfl ?_
      exact J_iret C RT rfl dX9_chairs_28
    · refine J_iload_n C dX9_chairs_12 rfl 1 rfl ?_
      refine J_aload_n C dX9_chairs_13 rfl 0 rfl ?_
      refine J_getr C fk9_1 W4_178 h0 dX9_chairs_14 ?_
      refine J_iload_n C dX9_chairs_17 rfl 2 rfl ?_
      refine J_aload_ C (tl_9_1 h0) dX9_chairs_18 ?_
      refine J_iadd C dX9_chairs_19 ?_
      refine J_ilet (fun v1 => ?_)
      refine J_istore_n (lv' := [(1, .int v1), (0, .ref (wa w o0)), (2, .int x2)]) C dX9_chairs_20 rfl (by decide) rfl ?_
      refine J_iinc (lw := fun v2 => [(2, .int v2), (1, .int v1), (0, .ref (wa w o0))]) (X := x2 + 1) C dX9_chairs_21 (q := 2) rfl (by rw [kci_1]) (by decide) (fun _ => rfl) (fun v2 => ?_)
      refine J_goto (tgt := 4) C dX9_chairs_24 (by decide) ?_
      refine J_lv [2, 1, 0] rfl ?_
      exact ih v1 v2 M
def s9_chairs (n : Nat) (o0 : Nat) (M : Mem) : Option Res := s9_chairs_4 n o0 n (0 : Int32) (0 : Int32) M
set_option maxRecDepth 100000 in
set_option maxHeartbeats 4000000 in
theorem b9_chairs {w : WE} {g : GT} (C : CT w g RX9 cX9_chairs rm9_chairs 3) (RT : RTi w g cX9_chairs .int) (n : Nat) (o0 : Nat) (h0 : typ o0 = 9) (M : Mem) : J w g (s9_chairs n o0 M) M 0 [(0, .ref (wa w o0))] [] := by
  rw [s9_chairs]
  refine J_iconst C dX9_chairs_0 kci_0 ?_
  refine J_istore_n (lv' := [(1, .int (0 : Int32)), (0, .ref (wa w o0))]) C dX9_chairs_1 rfl (by decide) rfl ?_
  refine J_iconst C dX9_chairs_2 kci_0 ?_
  refine J_istore_n (lv' := [(2, .int (0 : Int32)), (1, .int (0 : Int32)), (0, .ref (wa w o0))]) C dX9_chairs_3 rfl (by decide) rfl ?_
  refine J_lv [2, 1, 0] rfl ?_
  exact b9_chairs_4 C RT n o0 h0 n (0 : Int32) (0 : Int32) M
theorem c9_chairs (l : Launch) (w : WE) (n : Nat) (o0 : Nat) (h0 : typ o0 = 9) (M : Mem) : MC l w yX9_chairs (wz yX9_chairs cX9_chairs 3 (some .int)) rm9_chairs [.ref (wa w o0)] (s9_chairs n o0 M) M :=
  mc_of_J (own := RX9) rfl (by decide) rfl rfl (Nat.le_of_ble_eq_true rfl) (fun _ _ C RT => b9_chairs C RT n o0 h0 M)
theorem hdX9_chairs : yX9_chairs.cls = RX9 ∧ yOK yX9_chairs 0 := ⟨rfl, by decide, by decide, by decide⟩
abbrev rm9_far : Room := { frames := 0, cells := 0, slots := 0, locals := 0 }
def s9_far_14 (n : Nat) (o0 : Nat) (t0 : Int32) (M : Mem) : Option Res := if t0 ≤ ((M o0 11) - t0) then (some (t0, M)) else (some ((M o0 11) - t0, M))
set_option maxRecDepth 100000 in
set_option maxHeartbeats 4000000 in
theorem b9_far_14 {w : WE} {g : GT} (C : CT w g RX9 cX9_far rm9_far 4) (RT : RTi w g cX9_far .int) (n : Nat) (o0 : Nat) (h0 : typ o0 = 9) (t0 : Int32) (M : Mem) : J w g (s9_far_14 n o0 t0 M) M 14 [(0, .ref (wa w o0))] [.int t0] := by
  rw [s9_far_14]
  refine J_istore_n (lv' := [(3, .int t0), (0, .ref (wa w o0))]) C dX9_far_14 rfl (by decide) rfl ?_
  refine J_iload_n C dX9_far_15 rfl 0 rfl ?_
  refine J_aload_n C dX9_far_16 rfl 1 rfl ?_
  refine J_geti C fk9_11 W4_188 h0 dX9_far_17 ?_
  refine J_iload_n C dX9_far_20 rfl 0 rfl ?_
  refine J_isub C dX9_far_21 ?_
  refine J_icmp_le (tgt := 34) C dX9_far_22 (by decide) (fun _ => ?_) (fun _ => ?_)
  · refine J_iload_n C dX9_far_34 rfl 0 rfl ?_
    exact J_iret C RT rfl dX9_far_35
  · refine J_aload_n C dX9_far_25 rfl 1 rfl ?_
    refine J_geti C fk9_11 W4_188 h0 dX9_far_26 ?_
    refine J_iload_n C dX9_far_29 rfl 0 rfl ?_
    refine J_isub C dX9_far_30 ?_
    refine J_goto (tgt := 35) C dX9_far_31 (by decide) ?_
    exact J_iret C RT rfl dX9_far_35
def s9_far (n : Nat) (o0 : Nat) (x1 : Int32) (x2 : Int32) (M : Mem) : Option Res := if x1 ≤ x2 then (s9_far_14 n o0 (x2 - x1) M) else (s9_far_14 n o0 (x1 - x2) M)
set_option maxRecDepth 100000 in
set_option maxHeartbeats 4000000 in
theorem b9_far {w : WE} {g : GT} (C : CT w g RX9 cX9_far rm9_far 4) (RT : RTi w g cX9_far .int) (n : Nat) (o0 : Nat) (h0 : typ o0 = 9) (x1 : Int32) (x2 : Int32) (M : Mem) : J w g (s9_far n o0 x1 x2 M) M 0 [(0, .ref (wa w o0)), (1, .int x1), (2, .int x2)] [] := by
  rw [s9_far]
  refine J_iload_n C dX9_far_0 rfl 1 rfl ?_
  refine J_iload_n C dX9_far_1 rfl 2 rfl ?_
  refine J_icmp_le (tgt := 11) C dX9_far_2 (by decide) (fun _ => ?_) (fun _ => ?_)
  · refine J_iload_n C dX9_far_11 rfl 2 rfl ?_
    refine J_iload_n C dX9_far_12 rfl 1 rfl ?_
    refine J_isub C dX9_far_13 ?_
    refine J_lv [0] rfl ?_
    exact b9_far_14 C RT n o0 h0 (x2 - x1) M
  · refine J_iload_n C dX9_far_5 rfl 1 rfl ?_
    refine J_iload_n C dX9_far_6 rfl 2 rfl ?_
    refine J_isub C dX9_far_7 ?_
    refine J_goto (tgt := 14) C dX9_far_8 (by decide) ?_
    refine J_lv [0] rfl ?_
    exact b9_far_14 C RT n o0 h0 (x1 - x2) M
theorem c9_far (l : Launch) (w : WE) (n : Nat) (o0 : Nat) (h0 : typ o0 = 9) (x1 : Int32) (x2 : Int32) (M : Mem) : MC l w yX9_far (wz yX9_far cX9_far 4 (some .int)) rm9_far [.ref (wa w o0), .int x1, .int x2] (s9_far n o0 x1 x2 M) M :=
  mc_of_J (own := RX9) rfl (by decide) rfl rfl (Nat.le_of_ble_eq_true rfl) (fun _ _ C RT => b9_far C RT n o0 h0 x1 x2 M)
theorem hdX9_far : yX9_far.cls = RX9 ∧ yOK yX9_far 2 := ⟨rfl, by decide, by decide, by decide⟩
abbrev rm9_isTaken : Room := { frames := 0, cells := 0, slots := 0, locals := 0 }
def s9_isTaken_2 (n : Nat) (o0 : Nat) (x1 : Int32) : Nat → Int32 → Mem → Option Res
  | 0, _, _ => none
  | f + 1, x2, M => if (M o0 12) ≤ x2 then (some ((0 : Int32), M)) else (if inB x2 (alen (link o0 4)) then if (M (link o0 4) x2.toNatClampNeg) = (1 : Int32) then (if inB x2 (alen (link o0 2)) then if (M (link o0 2) x2.toNatClampNeg) = x1 then (some ((1 : Int32), M)) else (ilet (x2 + 1) (fun v2 => s9_isTaken_2 n o0 x1 f v2 M)) else none) else (ilet (x2 + 1) (fun v1 => s9_isTaken_2 n o0 x1 f v1 M)) else none)
set_option maxRecDepth 100000 in
set_option maxHeartbeats 4000000 in
theorem b9_isTaken_2 {w : WE} {g : GT} (C : CT w g RX9 cX9_isTaken rm9_isTaken 3) (RT : RTi w g cX9_isTaken .boolean) (n : Nat) (o0 : Nat) (h0 : typ o0 = 9) (x1 : Int32) : ∀ (f : Nat) (x2 : Int32) (M : Mem), J w g (s9_isTaken_2 n o0 x1 f x2 M) M 2 [(0, .ref (wa w o0)), (1, .int x1), (2, .int x2)] [] := by
  intro f
  induction f with
  | zero =>
    intro x2 M
    rw [s9_isTaken_2]
    exact J_none
  | succ f ih =>
    intro x2 M
    rw [s9_isTaken_2]
    refine J_iload_n C dX9_isTaken_2 rfl 2 rfl ?_
    refine J_aload_n C dX9_isTaken_3 rfl 0 rfl ?_
    refine J_geti C fk9_12 W4_189 h0 dX9_isTaken_4 ?_
    refine J_icmp_ge (tgt := 38) C dX9_isTaken_7 (by decide) (fun _ => ?_) (fun _ => ?_)
    · refine J_iconst C dX9_isTaken_38 kci_0 ?_
      exact J_iret C RT (by decide) dX9_isTaken_39
    · refine J_aload_n C dX9_isTaken_10 rfl 0 rfl ?_
      refine J_getr C fk9_4 W4_181 h0 dX9_isTaken_11 ?_
      refine J_iload_n C dX9_isTaken_14 rfl 2 rfl ?_
      refine J_aload_ C (tl_9_4 h0) dX9_isTaken_15 ?_
      refine J_iconst C dX9_isTaken_16 kci_1 ?_
      refine J_icmp_ne (tgt := 32) C dX9_isTaken_17 (by decide) (fun _ => ?_) (fun _ => ?_)
      · refine J_iinc (lw := fun v1 => [(2, .int v1), (0, .ref (wa w o0)), (1, .int x1)]) (X := x2 + 1) C dX9_isTaken_32 (q := 2) rfl (by rw [kci_1]) (by decide) (fun _ => rfl) (fun v1 => ?_)
        refine J_goto (tgt := 2) C dX9_isTaken_35 (by decide) ?_
        refine J_lv [1, 2, 0] rfl ?_
        exact ih v1 M
      · refine J_aload_n C dX9_isTaken_20 rfl 0 rfl ?_
        refine J_getr C fk9_2 W4_179 h0 dX9_isTaken_21 ?_
        refine J_iload_n C dX9_isTaken_24 rfl 2 rfl ?_
        refine J_aload_ C (tl_9_2 h0) dX9_isTaken_25 ?_
        refine J_iload_n C dX9_isTaken_26 rfl 1 rfl ?_
        refine J_icmp_ne (tgt := 32) C dX9_isTaken_27 (by decide) (fun _ => ?_) (fun _ => ?_)
        · refine J_iinc (lw := fun v2 => [(2, .int v2), (0, .ref (wa w o0)), (1, .int x1)]) (X := x2 + 1) C dX9_isTaken_32 (q := 2) rfl (by rw [kci_1]) (by decide) (fun _ => rfl) (fun v2 => ?_)
          refine J_goto (tgt := 2) C dX9_isTaken_35 (by decide) ?_
          refine J_lv [1, 2, 0] rfl ?_
          exact ih v2 M
        · refine J_iconst C dX9_isTaken_30 kci_1 ?_
          exact J_iret C RT (by decide) dX9_isTaken_31
def s9_isTaken (n : Nat) (o0 : Nat) (x1 : Int32) (M : Mem) : Option Res := s9_isTaken_2 n o0 x1 n (0 : Int32) M
set_option maxRecDepth 100000 in
set_option maxHeartbeats 4000000 in
theorem b9_isTaken {w : WE} {g : GT} (C : CT w g RX9 cX9_isTaken rm9_isTaken 3) (RT : RTi w g cX9_isTaken .boolean) (n : Nat) (o0 : Nat) (h0 : typ o0 = 9) (x1 : Int32) (M : Mem) : J w g (s9_isTaken n o0 x1 M) M 0 [(0, .ref (wa w o0)), (1, .int x1)] [] := by
  rw [s9_isTaken]
  refine J_iconst C dX9_isTaken_0 kci_0 ?_
  refine J_istore_n (lv' := [(2, .int (0 : Int32)), (0, .ref (wa w o0)), (1, .int x1)]) C dX9_isTaken_1 rfl (by decide) rfl ?_
  refine J_lv [1, 2, 0] rfl ?_
  exact b9_isTaken_2 C RT n o0 h0 x1 n (0 : Int32) M
theorem c9_isTaken (l : Launch) (w : WE) (n : Nat) (o0 : Nat) (h0 : typ o0 = 9) (x1 : Int32) (M : Mem) : MC l w yX9_isTaken (wz yX9_isTaken cX9_isTaken 3 (some .boolean)) rm9_isTaken [.ref (wa w o0), .int x1] (s9_isTaken n o0 x1 M) M :=
  mc_of_J (own := RX9) rfl (by decide) rfl rfl (Nat.le_of_ble_eq_true rfl) (fun _ _ C RT => b9_isTaken C RT n o0 h0 x1 M)
theorem hdX9_isTaken : yX9_isTaken.cls = RX9 ∧ yOK yX9_isTaken 1 := ⟨rfl, by decide, by decide, by decide⟩
abbrev rm9_ins : Room := { frames := 0, cells := 0, slots := 0, locals := 0 }
def s9_ins_4 (n : Nat) (o0 : Nat) : Nat → Int32 → Int32 → Mem → Option Res
  | 0, _, _, _ => none
  | f + 1, x1, x2, M => if (M o0 12) ≤ x2 then (some (x1, M)) else (if inB x2 (alen (link o0 4)) then ilet (x1 + (M (link o0 4) x2.toNatClampNeg)) (fun v1 => ilet (x2 + 1) (fun v2 => s9_ins_4 n o0 f v1 v2 M)) else none)
set_option maxRecDepth 100000 in
set_option maxHeartbeats 4000000 in
theorem b9_ins_4 {w : WE} {g : GT} (C : CT w g RX9 cX9_ins rm9_ins 3) (RT : RTi w g cX9_ins .int) (n : Nat) (o0 : Nat) (h0 : typ o0 = 9) : ∀ (f : Nat) (x1 : Int32) (x2 : Int32) (M : Mem), J w g (s9_ins_4 n o0 f x1 x2 M) M 4 [(0, .ref (wa w o0)), (1, .int x1), (2, .int x2)] [] := by
  intro f
  induction f with
  | zero =>
    intro x1 x2 M
    rw [s9_ins_4]
    exact J_none
  | succ f ih =>
    intro x1 x2 M
    rw [s9_ins_4]
    refine J_iload_n C dX9_ins_4 rfl 2 rfl ?_
    refine J_aload_n C dX9_ins_5 rfl 0 rfl ?_
    refine J_geti C fk9_12 W4_189 h0 dX9_ins_6 ?_
    refine J_icmp_ge (tgt := 27) C dX9_ins_9 (by decide) (fun _ => ?_) (fun _ => ?_)
    · refine J_iload_n C dX9_ins_27 rfl 1 rfl ?_
      exact J_iret C RT rfl dX9_ins_28
    · refine J_iload_n C dX9_ins_12 rfl 1 rfl ?_
      refine J_aload_n C dX9_ins_13 rfl 0 rfl ?_
      refine J_getr C fk9_4 W4_181 h0 dX9_ins_14 ?_
      refine J_iload_n C dX9_ins_17 rfl 2 rfl ?_
      refine J_aload_ C (tl_9_4 h0) dX9_ins_18 ?_
      refine J_iadd C dX9_ins_19 ?_
      refine J_ilet (fun v1 => ?_)
      refine J_istore_n (lv' := [(1, .int v1), (0, .ref (wa w o0)), (2, .int x2)]) C dX9_ins_20 rfl (by decide) rfl ?_
      refine J_iinc (lw := fun v2 => [(2, .int v2), (1, .int v1), (0, .ref (wa w o0))]) (X := x2 + 1) C dX9_ins_21 (q := 2) rfl (by rw [kci_1]) (by decide) (fun _ => rfl) (fun v2 => ?_)
      refine J_goto (tgt := 4) C dX9_ins_24 (by decide) ?_
      refine J_lv [2, 1, 0] rfl ?_
      exact ih v1 v2 M
def s9_ins (n : Nat) (o0 : Nat) (M : Mem) : Option Res := s9_ins_4 n o0 n (0 : Int32) (0 : Int32) M
set_option maxRecDepth 100000 in
set_option maxHeartbeats 4000000 in
theorem b9_ins {w : WE} {g : GT} (C : CT w g RX9 cX9_ins rm9_ins 3) (RT : RTi w g cX9_ins .int) (n : Nat) (o0 : Nat) (h0 : typ o0 = 9) (M : Mem) : J w g (s9_ins n o0 M) M 0 [(0, .ref (wa w o0))] [] := by
  rw [s9_ins]
  refine J_iconst C dX9_ins_0 kci_0 ?_
  refine J_istore_n (lv' := [(1, .int (0 : Int32)), (0, .ref (wa w o0))]) C dX9_ins_1 rfl (by decide) rfl ?_
  refine J_iconst C dX9_ins_2 kci_0 ?_
  refine J_istore_n (lv' := [(2, .int (0 : Int32)), (1, .int (0 : Int32)), (0, .ref (wa w o0))]) C dX9_ins_3 rfl (by decide) rfl ?_
  refine J_lv [2, 1, 0] rfl ?_
  exact b9_ins_4 C RT n o0 h0 n (0 : Int32) (0 : Int32) M
theorem c9_ins (l : Launch) (w : WE) (n : Nat) (o0 : Nat) (h0 : typ o0 = 9) (M : Mem) : MC l w yX9_ins (wz yX9_ins cX9_ins 3 (some .int)) rm9_ins [.ref (wa w o0)] (s9_ins n o0 M) M :=
  mc_of_J (own := RX9) rfl (by decide) rfl rfl (Nat.le_of_ble_eq_true rfl) (fun _ _ C RT => b9_ins C RT n o0 h0 M)
theorem hdX9_ins : yX9_ins.cls = RX9 ∧ yOK yX9_ins 0 := ⟨rfl, by decide, by decide, by decide⟩
abbrev rm9_comesChair : Room := { frames := 0, cells := 0, slots := 0, locals := 0 }
def s9_comesChair (o0 : Nat) (x1 : Int32) (M : Mem) : Option Res := if inB x1 (alen (link o0 1)) then mlet (mset M (link o0 1) x1.toNatClampNeg (1 : Int32)) (fun M1 => mlet (mset M1 o0 19 (0 : Int32)) (fun M2 => some (0, M2))) else none
set_option maxRecDepth 100000 in
set_option maxHeartbeats 4000000 in
theorem b9_comesChair {w : WE} {g : GT} (C : CT w g RX9 cX9_comesChair rm9_comesChair 2) (RT : RTv w g cX9_comesChair) (o0 : Nat) (h0 : typ o0 = 9) (x1 : Int32) (M : Mem) : J w g (s9_comesChair o0 x1 M) M 0 [(0, .ref (wa w o0)), (1, .int x1)] [] := by
  rw [s9_comesChair]
  refine J_aload_n C dX9_comesChair_0 rfl 0 rfl ?_
  refine J_getr C fk9_1 W4_178 h0 dX9_comesChair_1 ?_
  refine J_iload_n C dX9_comesChair_4 rfl 1 rfl ?_
  refine J_iconst C dX9_comesChair_5 kci_1 ?_
  refine J_iastore C (tl_9_1 h0) dX9_comesChair_6 ?_
  refine J_mlet (fun M1 => ?_)
  refine J_aload_n C dX9_comesChair_7 rfl 0 rfl ?_
  refine J_iconst C dX9_comesChair_8 kci_0 ?_
  refine J_puti C fk9_19 W4_196 fp9_19 h0 dX9_comesChair_9 ?_
  refine J_mlet (fun M2 => ?_)
  exact J_vret C RT dX9_comesChair_12
theorem c9_comesChair (l : Launch) (w : WE) (o0 : Nat) (h0 : typ o0 = 9) (x1 : Int32) (M : Mem) : MV l w yX9_comesChair (wz yX9_comesChair cX9_comesChair 2 none) rm9_comesChair [.ref (wa w o0), .int x1] (s9_comesChair o0 x1 M) M :=
  mv_of_J (own := RX9) rfl (by decide) rfl rfl (Nat.le_of_ble_eq_true rfl) (fun _ _ C RT => b9_comesChair C RT o0 h0 x1 M)
theorem hdX9_comesChair : yX9_comesChair.cls = RX9 ∧ yOK yX9_comesChair 1 := ⟨rfl, by decide, by decide, by decide⟩
abbrev rm9_comesWalker : Room := { frames := 0, cells := 0, slots := 0, locals := 0 }
def s9_comesWalker_72 (n : Nat) (o0 : Nat) (t0 : Int32) (t1 : Int32) (q2 : Nat) (M : Mem) : Option Res := if inB t1 (alen q2) then mlet (mset M q2 t1.toNatClampNeg t0) (fun M6 => if inB (M6 o0 12) (alen (link o0 8)) then mlet (mset M6 (link o0 8) (M6 o0 12).toNatClampNeg (9 : Int32)) (fun M7 => if inB (M7 o0 12) (alen (link o0 9)) then mlet (mset M7 (link o0 9) (M7 o0 12).toNatClampNeg (5 : Int32)) (fun M8 => if inB (M8 o0 12) (alen (link o0 10)) then mlet (mset M8 (link o0 10) (M8 o0 12).toNatClampNeg (5 : Int32)) (fun M9 => mlet (mset M9 o0 12 ((M9 o0 12) + (1 : Int32))) (fun M10 => mlet (mset M10 o0 19 (0 : Int32)) (fun M11 => some (0, M11)))) else none) else none) else none) else none
set_option maxRecDepth 100000 in
set_option maxHeartbeats 4000000 in
theorem b9_comesWalker_72 {w : WE} {g : GT} (C : CT w g RX9 cX9_comesWalker rm9_comesWalker 4) (RT : RTv w g cX9_comesWalker) (n : Nat) (o0 : Nat) (h0 : typ o0 = 9) (t0 : Int32) (t1 : Int32) (q2 : Nat) (hq2 : typ q2 = 11) (M : Mem) : J w g (s9_comesWalker_72 n o0 t0 t1 q2 M) M 72 [(0, .ref (wa w o0))] [.int t0, .int t1, .ref (wa w q2)] := by
  rw [s9_comesWalker_72]
  refine J_iastore C hq2 dX9_comesWalker_72 ?_
  refine J_mlet (fun M6 => ?_)
  refine J_aload_n C dX9_comesWalker_73 rfl 0 rfl ?_
  refine J_getr C fk9_8 W4_185 h0 dX9_comesWalker_74 ?_
  refine J_aload_n C dX9_comesWalker_77 rfl 0 rfl ?_
  refine J_geti C fk9_12 W4_189 h0 dX9_comesWalker_78 ?_
  refine J_bipush C dX9_comesWalker_81 kcb_9 ?_
  refine J_iastore C (tl_9_8 h0) dX9_comesWalker_83 ?_
  refine J_mlet (fun M7 => ?_)
  refine J_aload_n C dX9_comesWalker_84 rfl 0 rfl ?_
  refine J_getr C fk9_9 W4_186 h0 dX9_comesWalker_85 ?_
  refine J_aload_n C dX9_comesWalker_88 rfl 0 rfl ?_
  refine J_geti C fk9_12 W4_189 h0 dX9_comesWalker_89 ?_
  refine J_iconst C dX9_comesWalker_92 kci_5 ?_
  refine J_iastore C (tl_9_9 h0) dX9_comesWalker_93 ?_
  refine J_mlet (fun M8 => ?_)
  refine J_aload_n C dX9_comesWalker_94 rfl 0 rfl ?_
  refine J_getr C fk9_10 W4_187 h0 dX9_comesWalker_95 ?_
  refine J_aload_n C dX9_comesWalker_98 rfl 0 rfl ?_
  refine J_geti C fk9_12 W4_189 h0 dX9_comesWalker_99 ?_
  refine J_iconst C dX9_comesWalker_102 kci_5 ?_
  refine J_iastore C (tl_9_10 h0) dX9_comesWalker_103 ?_
  refine J_mlet (fun M9 => ?_)
  refine J_aload_n C dX9_comesWalker_104 rfl 0 rfl ?_
  refine J_dup C rfl dX9_comesWalker_105 ?_
  refine J_geti C fk9_12 W4_189 h0 dX9_comesWalker_106 ?_
  refine J_iconst C dX9_comesWalker_109 kci_1 ?_
  refine J_iadd C dX9_comesWalker_110 ?_
  refine J_puti C fk9_12 W4_189 fp9_12 h0 dX9_comesWalker_111 ?_
  refine J_mlet (fun M10 => ?_)
  refine J_aload_n C dX9_comesWalker_114 rfl 0 rfl ?_
  refine J_iconst C dX9_comesWalker_115 kci_0 ?_
  refine J_puti C fk9_19 W4_196 fp9_19 h0 dX9_comesWalker_116 ?_
  refine J_mlet (fun M11 => ?_)
  exact J_vret C RT dX9_comesWalker_119
def s9_comesWalker (n : Nat) (o0 : Nat) (x1 : Int32) (x2 : Int32) (x3 : Int32) (M : Mem) : Option Res := if inB (M o0 12) (alen (link o0 2)) then mlet (mset M (link o0 2) (M o0 12).toNatClampNeg x1) (fun M1 => if inB (M1 o0 12) (alen (link o0 3)) then mlet (mset M1 (link o0 3) (M1 o0 12).toNatClampNeg (0 : Int32)) (fun M2 => if inB (M2 o0 12) (alen (link o0 4)) then mlet (mset M2 (link o0 4) (M2 o0 12).toNatClampNeg (1 : Int32)) (fun M3 => if inB (M3 o0 12) (alen (link o0 5)) then mlet (mset M3 (link o0 5) (M3 o0 12).toNatClampNeg x2) (fun M4 => if inB (M4 o0 12) (alen (link o0 6)) then mlet (mset M4 (link o0 6) (M4 o0 12).toNatClampNeg x3) (fun M5 => if (1 : Int32) ≤ (x3 / (2 : Int32)) then (s9_comesWalker_72 n o0 (x3 / (2 : Int32)) (M5 o0 12) (link o0 7) M5) else (s9_comesWalker_72 n o0 (1 : Int32) (M5 o0 12) (link o0 7) M5)) else none) else none) else none) else none) else none
set_option maxRecDepth 100000 in
set_option maxHeartbeats 4000000 in
theorem b9_comesWalker {w : WE} {g : GT} (C : CT w g RX9 cX9_comesWalker rm9_comesWalker 4) (RT : RTv w g cX9_comesWalker) (n : Nat) (o0 : Nat) (h0 : typ o0 = 9) (x1 : Int32) (x2 : Int32) (x3 : Int32) (M : Mem) : J w g (s9_comesWalker n o0 x1 x2 x3 M) M 0 [(0, .ref (wa w o0)), (1, .int x1), (2, .int x2), (3, .int x3)] [] := by
  rw [s9_comesWalker]
  refine J_aload_n C dX9_comesWalker_0 rfl 0 rfl ?_
  refine J_getr C fk9_2 W4_179 h0 dX9_comesWalker_1 ?_
  refine J_aload_n C dX9_comesWalker_4 rfl 0 rfl ?_
  refine J_geti C fk9_12 W4_189 h0 dX9_comesWalker_5 ?_
  refine J_iload_n C dX9_comesWalker_8 rfl 1 rfl ?_
  refine J_iastore C (tl_9_2 h0) dX9_comesWalker_9 ?_
  refine J_mlet (fun M1 => ?_)
  refine J_aload_n C dX9_comesWalker_10 rfl 0 rfl ?_
  refine J_getr C fk9_3 W4_180 h0 dX9_comesWalker_11 ?_
  refine J_aload_n C dX9_comesWalker_14 rfl 0 rfl ?_
  refine J_geti C fk9_12 W4_189 h0 dX9_comesWalker_15 ?_
  refine J_iconst C dX9_comesWalker_18 kci_0 ?_
  refine J_iastore C (tl_9_3 h0) dX9_comesWalker_19 ?_
  refine J_mlet (fun M2 => ?_)
  refine J_aload_n C dX9_comesWalker_20 rfl 0 rfl ?_
  refine J_getr C fk9_4 W4_181 h0 dX9_comesWalker_21 ?_
  refine J_aload_n C dX9_comesWalker_24 rfl 0 rfl ?_
  refine J_geti C fk9_12 W4_189 h0 dX9_comesWalker_25 ?_
  refine J_iconst C dX9_comesWalker_28 kci_1 ?_
  refine J_iastore C (tl_9_4 h0) dX9_comesWalker_29 ?_
  refine J_mlet (fun M3 => ?_)
  refine J_aload_n C dX9_comesWalker_30 rfl 0 rfl ?_
  refine J_getr C fk9_5 W4_182 h0 dX9_comesWalker_31 ?_
  refine J_aload_n C dX9_comesWalker_34 rfl 0 rfl ?_
  refine J_geti C fk9_12 W4_189 h0 dX9_comesWalker_35 ?_
  refine J_iload_n C dX9_comesWalker_38 rfl 2 rfl ?_
  refine J_iastore C (tl_9_5 h0) dX9_comesWalker_39 ?_
  refine J_mlet (fun M4 => ?_)
  refine J_aload_n C dX9_comesWalker_40 rfl 0 rfl ?_
  refine J_getr C fk9_6 W4_183 h0 dX9_comesWalker_41 ?_
  refine J_aload_n C dX9_comesWalker_44 rfl 0 rfl ?_
  refine J_geti C fk9_12 W4_189 h0 dX9_comesWalker_45 ?_
  refine J_iload_n C dX9_comesWalker_48 rfl 3 rfl ?_
  refine J_iastore C (tl_9_6 h0) dX9_comesWalker_49 ?_
  refine J_mlet (fun M5 => ?_)
  refine J_aload_n C dX9_comesWalker_50 rfl 0 rfl ?_
  refine J_getr C fk9_7 W4_184 h0 dX9_comesWalker_51 ?_
  refine J_aload_n C dX9_comesWalker_54 rfl 0 rfl ?_
  refine J_geti C fk9_12 W4_189 h0 dX9_comesWalker_55 ?_
  refine J_iload_n C dX9_comesWalker_58 rfl 3 rfl ?_
  refine J_iconst C dX9_comesWalker_59 kci_2 ?_
  refine J_idiv_c C (by decide) dX9_comesWalker_60 ?_
  refine J_iconst C dX9_comesWalker_61 kci_1 ?_
  refine J_icmp_ge (tgt := 69) C dX9_comesWalker_62 (by decide) (fun _ => ?_) (fun _ => ?_)
  · refine J_iload_n C dX9_comesWalker_69 rfl 3 rfl ?_
    refine J_iconst C dX9_comesWalker_70 kci_2 ?_
    refine J_idiv_c C (by decide) dX9_comesWalker_71 ?_
    refine J_lv [0] rfl ?_
    exact b9_comesWalker_72 C RT n o0 h0 (x3 / (2 : Int32)) (M5 o0 12) (link o0 7) (tl_9_7 h0) M5
  · refine J_iconst C dX9_comesWalker_65 kci_1 ?_
    refine J_goto (tgt := 72) C dX9_comesWalker_66 (by decide) ?_
    refine J_lv [0] rfl ?_
    exact b9_comesWalker_72 C RT n o0 h0 (1 : Int32) (M5 o0 12) (link o0 7) (tl_9_7 h0) M5
theorem c9_comesWalker (l : Launch) (w : WE) (n : Nat) (o0 : Nat) (h0 : typ o0 = 9) (x1 : Int32) (x2 : Int32) (x3 : Int32) (M : Mem) : MV l w yX9_comesWalker (wz yX9_comesWalker cX9_comesWalker 4 none) rm9_comesWalker [.ref (wa w o0), .int x1, .int x2, .int x3] (s9_comesWalker n o0 x1 x2 x3 M) M :=
  mv_of_J (own := RX9) rfl (by decide) rfl rfl (Nat.le_of_ble_eq_true rfl) (fun _ _ C RT => b9_comesWalker C RT n o0 h0 x1 x2 x3 M)
theorem hdX9_comesWalker : yX9_comesWalker.cls = RX9 ∧ yOK yX9_comesWalker 3 := ⟨rfl, by decide, by decide, by decide⟩
abbrev rm9_chair : Room := { frames := 1, cells := 0, slots := 0, locals := 22 }
def s9_chair (n : Nat) (o0 : Nat) (x1 : Int32) (M : Mem) : Option Res := cb (s9_isPlace o0 x1 M) (fun r2 M1 => if r2 = 0 then (cb (s9_no o0 (-1 : Int32) M1) (fun r14 M13 => some (r14, M13))) else (if inB x1 (alen (link o0 1)) then if (M1 (link o0 1) x1.toNatClampNeg) = (1 : Int32) then (cb (s9_no o0 (-3 : Int32) M1) (fun r12 M11 => some (r12, M11))) else (cb (s9_chairs n o0 M1) (fun r4 M3 => if r4 = (11 : Int32) then (cb (s9_no o0 (-6 : Int32) M3) (fun r10 M9 => some (r10, M9))) else (cb (s9_comesChair o0 x1 M3) (fun _ M5 => cb (s9_chairs n o0 M5) (fun r8 M7 => some (r8, M7)))))) else none))
set_option maxRecDepth 100000 in
set_option maxHeartbeats 4000000 in
theorem b9_chair {w : WE} {g : GT} (C : CT w g RX9 cX9_chair rm9_chair 2) (RT : RTi w g cX9_chair .int) (n : Nat) (o0 : Nat) (h0 : typ o0 = 9) (x1 : Int32) (M : Mem) : J w g (s9_chair n o0 x1 M) M 0 [(0, .ref (wa w o0)), (1, .int x1)] [] := by
  rw [s9_chair]
  refine J_aload_n C dX9_chair_0 rfl 0 rfl ?_
  refine J_iload_n C dX9_chair_1 rfl 1 rfl ?_
  refine J_cvi (As := [.int x1]) C (c9_isPlace (gl g) w o0 h0 x1 M) (gd_v W5_74 W5_76 WP_25 W1_10 W5_77) rfl (by decide) (hdX9_isPlace) h0 (by decide) (cl_9) rfl (Nat.le_of_ble_eq_true rfl) dX9_chair_2 rfl (fun r2 M1 => ?_)
  refine J_if_ne (tgt := 14) C dX9_chair_5 (by decide) (fun _ => ?_) (fun _ => ?_)
  · refine J_aload_n C dX9_chair_14 rfl 0 rfl ?_
    refine J_getr C fk9_1 W4_178 h0 dX9_chair_15 ?_
    refine J_iload_n C dX9_chair_18 rfl 1 rfl ?_
    refine J_aload_ C (tl_9_1 h0) dX9_chair_19 ?_
    refine J_iconst C dX9_chair_20 kci_1 ?_
    refine J_icmp_ne (tgt := 31) C dX9_chair_21 (by decide) (fun _ => ?_) (fun _ => ?_)
    · refine J_aload_n C dX9_chair_31 rfl 0 rfl ?_
      refine J_cvi (As := []) C (c9_chairs (gl g) w n o0 h0 M1) (gd_v W5_82 W5_84 WP_27 W1_10 W5_85) rfl (by decide) (hdX9_chairs) h0 (by decide) (cl_9) rfl (Nat.le_of_ble_eq_true rfl) dX9_chair_32 rfl (fun r4 M3 => ?_)
      refine J_bipush C dX9_chair_35 kcb_11 ?_
      refine J_icmp_ne (tgt := 47) C dX9_chair_37 (by decide) (fun _ => ?_) (fun _ => ?_)
      · refine J_aload_n C dX9_chair_47 rfl 0 rfl ?_
        refine J_iload_n C dX9_chair_48 rfl 1 rfl ?_
        refine J_cvv (As := [.int x1]) C (c9_comesChair (gl g) w o0 h0 x1 M3) (gd_v W5_86 W5_88 WP_28 W1_10 W5_89) rfl (by decide) (hdX9_comesChair) h0 (by decide) (cl_9) rfl (Nat.le_of_ble_eq_true rfl) dX9_chair_49 rfl (fun r6 M5 => ?_)
        refine J_aload_n C dX9_chair_52 rfl 0 rfl ?_
        refine J_cvi (As := []) C (c9_chairs (gl g) w n o0 h0 M5) (gd_v W5_82 W5_84 WP_27 W1_10 W5_85) rfl (by decide) (hdX9_chairs) h0 (by decide) (cl_9) rfl (Nat.le_of_ble_eq_true rfl) dX9_chair_53 rfl (fun r8 M7 => ?_)
        exact J_iret C RT rfl dX9_chair_56
      · refine J_aload_n C dX9_chair_40 rfl 0 rfl ?_
        refine J_bipush C dX9_chair_41 kcb_m6 ?_
        refine J_cvi (As := [.int (-6 : Int32)]) C (c9_no (gl g) w o0 h0 (-6 : Int32) M3) (gd_v W5_78 W5_80 WP_26 W1_10 W5_81) rfl (by decide) (hdX9_no) h0 (by decide) (cl_9) rfl (Nat.le_of_ble_eq_true rfl) dX9_chair_43 rfl (fun r10 M9 => ?_)
        exact J_iret C RT rfl dX9_chair_46
    · refine J_aload_n C dX9_chair_24 rfl 0 rfl ?_
      refine J_bipush C dX9_chair_25 kcb_m3 ?_
      refine J_cvi (As := [.int (-3 : Int32)]) C (c9_no (gl g) w o0 h0 (-3 : Int32) M1) (gd_v W5_78 W5_80 WP_26 W1_10 W5_81) rfl (by decide) (hdX9_no) h0 (by decide) (cl_9) rfl (Nat.le_of_ble_eq_true rfl) dX9_chair_27 rfl (fun r12 M11 => ?_)
      exact J_iret C RT rfl dX9_chair_30
  · refine J_aload_n C dX9_chair_8 rfl 0 rfl ?_
    refine J_iconst C dX9_chair_9 kci_m1 ?_
    refine J_cvi (As := [.int (-1 : Int32)]) C (c9_no (gl g) w o0 h0 (-1 : Int32) M1) (gd_v W5_78 W5_80 WP_26 W1_10 W5_81) rfl (by decide) (hdX9_no) h0 (by decide) (cl_9) rfl (Nat.le_of_ble_eq_true rfl) dX9_chair_10 rfl (fun r14 M13 => ?_)
    exact J_iret C RT rfl dX9_chair_13
theorem c9_chair (l : Launch) (w : WE) (n : Nat) (o0 : Nat) (h0 : typ o0 = 9) (x1 : Int32) (M : Mem) : MC l w yX9_chair (wz yX9_chair cX9_chair 2 (some .int)) rm9_chair [.ref (wa w o0), .int x1] (s9_chair n o0 x1 M) M :=
  mc_of_J (own := RX9) rfl (by decide) rfl rfl (Nat.le_of_ble_eq_true rfl) (fun _ _ C RT => b9_chair C RT n o0 h0 x1 M)
theorem hdX9_chair : yX9_chair.cls = RX9 ∧ yOK yX9_chair 1 := ⟨rfl, by decide, by decide, by decide⟩
abbrev rm9_walker : Room := { frames := 1, cells := 0, slots := 0, locals := 23 }
def s9_walker_68 (n : Nat) (o0 : Nat) (x1 : Int32) (x2 : Int32) (x3 : Int32) (x4 : Int32) (M : Mem) : Option Res := if x4 = 0 then (cb (s9_comesWalker n o0 x1 x2 x3 M) (fun _ M9 => some ((M9 o0 12) - (1 : Int32), M9))) else (cb (s9_no o0 x4 M) (fun r12 M11 => some (r12, M11)))
set_option maxRecDepth 100000 in
set_option maxHeartbeats 4000000 in
theorem b9_walker_68 {w : WE} {g : GT} (C : CT w g RX9 cX9_walker rm9_walker 5) (RT : RTi w g cX9_walker .int) (n : Nat) (o0 : Nat) (h0 : typ o0 = 9) (x1 : Int32) (x2 : Int32) (x3 : Int32) (x4 : Int32) (M : Mem) : J w g (s9_walker_68 n o0 x1 x2 x3 x4 M) M 68 [(0, .ref (wa w o0)), (1, .int x1), (2, .int x2), (3, .int x3), (4, .int x4)] [] := by
  rw [s9_walker_68]
  refine J_iload C dX9_walker_68 4 rfl ?_
  refine J_if_eq (tgt := 80) C dX9_walker_70 (by decide) (fun _ => ?_) (fun _ => ?_)
  · refine J_aload_n C dX9_walker_80 rfl 0 rfl ?_
    refine J_iload_n C dX9_walker_81 rfl 1 rfl ?_
    refine J_iload_n C dX9_walker_82 rfl 2 rfl ?_
    refine J_iload_n C dX9_walker_83 rfl 3 rfl ?_
    refine J_cvv (As := [.int x1, .int x2, .int x3]) C (c9_comesWalker (gl g) w n o0 h0 x1 x2 x3 M) (gd_v W5_104 W5_106 WP_30 W1_10 W5_107) rfl (by decide) (hdX9_comesWalker) h0 (by decide) (cl_9) rfl (Nat.le_of_ble_eq_true rfl) dX9_walker_84 rfl (fun r10 M9 => ?_)
    refine J_aload_n C dX9_walker_87 rfl 0 rfl ?_
    refine J_geti C fk9_12 W4_189 h0 dX9_walker_88 ?_
    refine J_iconst C dX9_walker_91 kci_1 ?_
    refine J_isub C dX9_walker_92 ?_
    exact J_iret C RT rfl dX9_walker_93
  · refine J_aload_n C dX9_walker_73 rfl 0 rfl ?_
    refine J_iload C dX9_walker_74 4 rfl ?_
    refine J_cvi (As := [.int x4]) C (c9_no (gl g) w o0 h0 x4 M) (gd_v W5_78 W5_80 WP_26 W1_10 W5_81) rfl (by decide) (hdX9_no) h0 (by decide) (cl_9) rfl (Nat.le_of_ble_eq_true rfl) dX9_walker_76 rfl (fun r12 M11 => ?_)
    exact J_iret C RT rfl dX9_walker_79
def s9_walker_51 (n : Nat) (o0 : Nat) (x1 : Int32) (x2 : Int32) (x3 : Int32) (x4 : Int32) (M : Mem) : Option Res := if x4 = 0 then (cb (s9_isTaken n o0 x1 M) (fun r14 M13 => if r14 = 0 then (s9_walker_68 n o0 x1 x2 x3 x4 M13) else (s9_walker_68 n o0 x1 x2 x3 (-3 : Int32) M13))) else (s9_walker_68 n o0 x1 x2 x3 x4 M)
set_option maxRecDepth 100000 in
set_option maxHeartbeats 4000000 in
theorem b9_walker_51 {w : WE} {g : GT} (C : CT w g RX9 cX9_walker rm9_walker 5) (RT : RTi w g cX9_walker .int) (n : Nat) (o0 : Nat) (h0 : typ o0 = 9) (x1 : Int32) (x2 : Int32) (x3 : Int32) (x4 : Int32) (M : Mem) : J w g (s9_walker_51 n o0 x1 x2 x3 x4 M) M 51 [(0, .ref (wa w o0)), (1, .int x1), (2, .int x2), (3, .int x3), (4, .int x4)] [] := by
  rw [s9_walker_51]
  refine J_iload C dX9_walker_51 4 rfl ?_
  refine J_if_ne (tgt := 68) C dX9_walker_53 (by decide) (fun _ => ?_) (fun _ => ?_)
  · exact b9_walker_68 C RT n o0 h0 x1 x2 x3 x4 M
  · refine J_aload_n C dX9_walker_56 rfl 0 rfl ?_
    refine J_iload_n C dX9_walker_57 rfl 1 rfl ?_
    refine J_cvi (As := [.int x1]) C (c9_isTaken (gl g) w n o0 h0 x1 M) (gd_v W5_100 W5_102 WP_29 W1_10 W5_103) rfl (by decide) (hdX9_isTaken) h0 (by decide) (cl_9) rfl (Nat.le_of_ble_eq_true rfl) dX9_walker_58 rfl (fun r14 M13 => ?_)
    refine J_if_eq (tgt := 68) C dX9_walker_61 (by decide) (fun _ => ?_) (fun _ => ?_)
    · exact b9_walker_68 C RT n o0 h0 x1 x2 x3 x4 M13
    · refine J_bipush C dX9_walker_64 kcb_m3 ?_
      refine J_istore (lv' := [(4, .int (-3 : Int32)), (0, .ref (wa w o0)), (1, .int x1), (2, .int x2), (3, .int x3)]) C dX9_walker_66 (by decide) rfl ?_
      refine J_lv [1, 2, 3, 4, 0] rfl ?_
      exact b9_walker_68 C RT n o0 h0 x1 x2 x3 (-3 : Int32) M13
def s9_walker (n : Nat) (o0 : Nat) (x1 : Int32) (x2 : Int32) (x3 : Int32) (M : Mem) : Option Res := cb (s9_isPlace o0 x1 M) (fun r2 M1 => if r2 = 0 then (cb (s9_no o0 (-1 : Int32) M1) (fun r4 M3 => some (r4, M3))) else (cb (s9_isIn x2 (0 : Int32) (6 : Int32) M1) (fun r6 M5 => if r6 = 0 then (cb (s9_no o0 (-1 : Int32) M5) (fun r16 M15 => some (r16, M15))) else (cb (s9_bound x3 (1 : Int32) (99 : Int32) M5) (fun r8 M7 => if r8 = 0 then (if (M7 o0 12) = (12 : Int32) then (s9_walker_51 n o0 x1 x2 x3 (-6 : Int32) M7) else (s9_walker_51 n o0 x1 x2 x3 r8 M7)) else (s9_walker_51 n o0 x1 x2 x3 r8 M7))))))
set_option maxRecDepth 100000 in
set_option maxHeartbeats 4000000 in
theorem b9_walker {w : WE} {g : GT} (C : CT w g RX9 cX9_walker rm9_walker 5) (RT : RTi w g cX9_walker .int) (n : Nat) (o0 : Nat) (h0 : typ o0 = 9) (x1 : Int32) (x2 : Int32) (x3 : Int32) (M : Mem) : J w g (s9_walker n o0 x1 x2 x3 M) M 0 [(0, .ref (wa w o0)), (1, .int x1), (2, .int x2), (3, .int x3)] [] := by
  rw [s9_walker]
  refine J_aload_n C dX9_walker_0 rfl 0 rfl ?_
  refine J_iload_n C dX9_walker_1 rfl 1 rfl ?_
  refine J_cvi (As := [.int x1]) C (c9_isPlace (gl g) w o0 h0 x1 M) (gd_v W5_74 W5_76 WP_25 W1_10 W5_77) rfl (by decide) (hdX9_isPlace) h0 (by decide) (cl_9) rfl (Nat.le_of_ble_eq_true rfl) dX9_walker_2 rfl (fun r2 M1 => ?_)
  refine J_if_eq (tgt := 18) C dX9_walker_5 (by decide) (fun _ => ?_) (fun _ => ?_)
  · refine J_aload_n C dX9_walker_18 rfl 0 rfl ?_
    refine J_iconst C dX9_walker_19 kci_m1 ?_
    refine J_cvi (As := [.int (-1 : Int32)]) C (c9_no (gl g) w o0 h0 (-1 : Int32) M1) (gd_v W5_78 W5_80 WP_26 W1_10 W5_81) rfl (by decide) (hdX9_no) h0 (by decide) (cl_9) rfl (Nat.le_of_ble_eq_true rfl) dX9_walker_20 rfl (fun r4 M3 => ?_)
    exact J_iret C RT rfl dX9_walker_23
  · refine J_iload_n C dX9_walker_8 rfl 2 rfl ?_
    refine J_iconst C dX9_walker_9 kci_0 ?_
    refine J_bipush C dX9_walker_10 kcb_6 ?_
    refine J_csi (As := [.int x2, .int (0 : Int32), .int (6 : Int32)]) (dm := 0) C (c9_isIn (gl g) w x2 (0 : Int32) (6 : Int32) M1) (gd_s W5_94 W5_95 W1_10 W5_96) rfl (by decide) (hdX9_isIn.2) rfl (Nat.le_of_ble_eq_true rfl) dX9_walker_12 rfl (fun r6 M5 => ?_)
    refine J_if_ne (tgt := 24) C dX9_walker_15 (by decide) (fun _ => ?_) (fun _ => ?_)
    · refine J_iload_n C dX9_walker_24 rfl 3 rfl ?_
      refine J_iconst C dX9_walker_25 kci_1 ?_
      refine J_bipush C dX9_walker_26 kcb_99 ?_
      refine J_csi (As := [.int x3, .int (1 : Int32), .int (99 : Int32)]) (dm := 0) C (c9_bound (gl g) w x3 (1 : Int32) (99 : Int32) M5) (gd_s W5_97 W5_98 W1_10 W5_99) rfl (by decide) (hdX9_bound.2) rfl (Nat.le_of_ble_eq_true rfl) dX9_walker_28 rfl (fun r8 M7 => ?_)
      refine J_istore (lv' := [(4, .int r8), (0, .ref (wa w o0)), (1, .int x1), (2, .int x2), (3, .int x3)]) C dX9_walker_31 (by decide) rfl ?_
      refine J_iload C dX9_walker_33 0 rfl ?_
      refine J_if_ne (tgt := 51) C dX9_walker_35 (by decide) (fun _ => ?_) (fun _ => ?_)
      · refine J_lv [1, 2, 3, 4, 0] rfl ?_
        exact b9_walker_51 C RT n o0 h0 x1 x2 x3 r8 M7
      · refine J_aload_n C dX9_walker_38 rfl 1 rfl ?_
        refine J_geti C fk9_12 W4_189 h0 dX9_walker_39 ?_
        refine J_bipush C dX9_walker_42 kcb_12 ?_
        refine J_icmp_ne (tgt := 51) C dX9_walker_44 (by decide) (fun _ => ?_) (fun _ => ?_)
        · refine J_lv [1, 2, 3, 4, 0] rfl ?_
          exact b9_walker_51 C RT n o0 h0 x1 x2 x3 r8 M7
        · refine J_bipush C dX9_walker_47 kcb_m6 ?_
          refine J_istore (lv' := [(4, .int (-6 : Int32)), (0, .ref (wa w o0)), (1, .int x1), (2, .int x2), (3, .int x3)]) C dX9_walker_49 (by decide) rfl ?_
          refine J_lv [1, 2, 3, 4, 0] rfl ?_
          exact b9_walker_51 C RT n o0 h0 x1 x2 x3 (-6 : Int32) M7
    · refine J_aload_n C dX9_walker_18 rfl 0 rfl ?_
      refine J_iconst C dX9_walker_19 kci_m1 ?_
      refine J_cvi (As := [.int (-1 : Int32)]) C (c9_no (gl g) w o0 h0 (-1 : Int32) M5) (gd_v W5_78 W5_80 WP_26 W1_10 W5_81) rfl (by decide) (hdX9_no) h0 (by decide) (cl_9) rfl (Nat.le_of_ble_eq_true rfl) dX9_walker_20 rfl (fun r16 M15 => ?_)
      exact J_iret C RT rfl dX9_walker_23
theorem c9_walker (l : Launch) (w : WE) (n : Nat) (o0 : Nat) (h0 : typ o0 = 9) (x1 : Int32) (x2 : Int32) (x3 : Int32) (M : Mem) : MC l w yX9_walker (wz yX9_walker cX9_walker 5 (some .int)) rm9_walker [.ref (wa w o0), .int x1, .int x2, .int x3] (s9_walker n o0 x1 x2 x3 M) M :=
  mc_of_J (own := RX9) rfl (by decide) rfl rfl (Nat.le_of_ble_eq_true rfl) (fun _ _ C RT => b9_walker C RT n o0 h0 x1 x2 x3 M)
theorem hdX9_walker : yX9_walker.cls = RX9 ∧ yOK yX9_walker 3 := ⟨rfl, by decide, by decide, by decide⟩
