abbrev rm8_chair : Room := { frames := 2, cells := 0, slots := 0, locals := 43 }
def s8_chair (n : Nat) (o0 : Nat) (x1 : Int32) (M : Mem) : Option Res := cb (s2_whyNoChair (link o0 1) x1 M) (fun r2 M1 => if r2 = 0 then (cb (s2_addChair n (link o0 1) x1 M1) (fun r4 M3 => some (r4, M3))) else (cb (s8_refuse o0 r2 M1) (fun r6 M5 => some (r6, M5))))
set_option maxRecDepth 100000 in
set_option maxHeartbeats 4000000 in
theorem b8_chair {w : WE} {g : GT} (C : CT w g RX8 cX8_chair rm8_chair 3) (RT : RTi w g cX8_chair .int) (n : Nat) (o0 : Nat) (h0 : typ o0 = 8) (x1 : Int32) (M : Mem) : J w g (s8_chair n o0 x1 M) M 0 [(0, .ref (wa w o0)), (1, .int x1)] [] := by
  rw [s8_chair]
  refine J_aload_n C dX8_chair_0 rfl 0 rfl ?_
  refine J_getr C fk8_1 W2_38 h0 dX8_chair_1 ?_
  refine J_iload_n C dX8_chair_4 rfl 1 rfl ?_
  refine J_cvi (As := [.int x1]) C (c2_whyNoChair (gl g) w (link o0 1) (tl_8_1 h0) x1 M) (gd_v W3_31 W2_210 W2_211 W1_3 W2_212) rfl (by decide) (hdX2_whyNoChair) (tl_8_1 h0) (by decide) (cl_2) rfl (Nat.le_of_ble_eq_true rfl) dX8_chair_5 rfl (fun r2 M1 => ?_)
  refine J_istore_n (lv' := [(2, .int r2), (0, .ref (wa w o0)), (1, .int x1)]) C dX8_chair_8 rfl (by decide) rfl ?_
  refine J_iload_n C dX8_chair_9 rfl 0 rfl ?_
  refine J_if_eq (tgt := 21) C dX8_chair_10 (by decide) (fun _ => ?_) (fun _ => ?_)
  · refine J_aload_n C dX8_chair_21 rfl 1 rfl ?_
    refine J_getr C fk8_1 W2_38 h0 dX8_chair_22 ?_
    refine J_iload_n C dX8_chair_25 rfl 2 rfl ?_
    refine J_cvi (As := [.int x1]) C (c2_addChair (gl g) w n (link o0 1) (tl_8_1 h0) x1 M1) (gd_v W3_32 W2_222 W2_223 W1_3 W2_224) rfl (by decide) (hdX2_addChair) (tl_8_1 h0) (by decide) (cl_2) rfl (Nat.le_of_ble_eq_true rfl) dX8_chair_26 rfl (fun r4 M3 => ?_)
    exact J_iret C RT rfl dX8_chair_29
  · refine J_aload_n C dX8_chair_13 rfl 1 rfl ?_
    refine J_iload_n C dX8_chair_14 rfl 0 rfl ?_
    refine J_cvi (As := [.int r2]) C (c8_refuse (gl g) w o0 h0 r2 M1) (gd_v W2_66 W2_68 WP_0 W1_1 W2_69) rfl (by decide) (hdX8_refuse) h0 (by decide) (cl_8) rfl (Nat.le_of_ble_eq_true rfl) dX8_chair_15 rfl (fun r6 M5 => ?_)
    refine J_goto (tgt := 29) C dX8_chair_18 (by decide) ?_
    exact J_iret C RT rfl dX8_chair_29
theorem c8_chair (l : Launch) (w : WE) (n : Nat) (o0 : Nat) (h0 : typ o0 = 8) (x1 : Int32) (M : Mem) : MC l w yX8_chair (wz yX8_chair cX8_chair 3 (some .int)) rm8_chair [.ref (wa w o0), .int x1] (s8_chair n o0 x1 M) M :=
  mc_of_J (own := RX8) rfl (by decide) rfl rfl (Nat.le_of_ble_eq_true rfl) (fun _ _ C RT => b8_chair C RT n o0 h0 x1 M)
theorem hdX8_chair : yX8_chair.cls = RX8 ∧ yOK yX8_chair 1 := ⟨rfl, by decide, by decide, by decide⟩
abbrev rm8_walker : Room := { frames := 2, cells := 0, slots := 0, locals := 47 }
def s8_walker (n : Nat) (o0 : Nat) (x1 : Int32) (x2 : Int32) (x3 : Int32) (M : Mem) : Option Res := cb (s2_whyNoWalker (link o0 1) x1 x2 x3 M) (fun r2 M1 => if r2 = 0 then (cb (s2_addWalker n (link o0 1) x1 x2 x3 M1) (fun r4 M3 => some (r4, M3))) else (cb (s8_refuse o0 r2 M1) (fun r6 M5 => some (r6, M5))))
set_option maxRecDepth 100000 in
set_option maxHeartbeats 4000000 in
theorem b8_walker {w : WE} {g : GT} (C : CT w g RX8 cX8_walker rm8_walker 5) (RT : RTi w g cX8_walker .int) (n : Nat) (o0 : Nat) (h0 : typ o0 = 8) (x1 : Int32) (x2 : Int32) (x3 : Int32) (M : Mem) : J w g (s8_walker n o0 x1 x2 x3 M) M 0 [(0, .ref (wa w o0)), (1, .int x1), (2, .int x2), (3, .int x3)] [] := by
  rw [s8_walker]
  refine J_aload_n C dX8_walker_0 rfl 0 rfl ?_
  refine J_getr C fk8_1 W2_38 h0 dX8_walker_1 ?_
  refine J_iload_n C dX8_walker_4 rfl 1 rfl ?_
  refine J_iload_n C dX8_walker_5 rfl 2 rfl ?_
  refine J_iload_n C dX8_walker_6 rfl 3 rfl ?_
  refine J_cvi (As := [.int x1, .int x2, .int x3]) C (c2_whyNoWalker (gl g) w (link o0 1) (tl_8_1 h0) x1 x2 x3 M) (gd_v W3_37 W2_234 W2_235 W1_3 W2_236) rfl (by decide) (hdX2_whyNoWalker) (tl_8_1 h0) (by decide) (cl_2) rfl (Nat.le_of_ble_eq_true rfl) dX8_walker_7 rfl (fun r2 M1 => ?_)
  refine J_istore (lv' := [(4, .int r2), (0, .ref (wa w o0)), (1, .int x1), (2, .int x2), (3, .int x3)]) C dX8_walker_10 (by decide) rfl ?_
  refine J_iload C dX8_walker_12 0 rfl ?_
  refine J_if_eq (tgt := 26) C dX8_walker_14 (by decide) (fun _ => ?_) (fun _ => ?_)
  · refine J_aload_n C dX8_walker_26 rfl 1 rfl ?_
    refine J_getr C fk8_1 W2_38 h0 dX8_walker_27 ?_
    refine J_iload_n C dX8_walker_30 rfl 2 rfl ?_
    refine J_iload_n C dX8_walker_31 rfl 3 rfl ?_
    refine J_iload_n C dX8_walker_32 rfl 4 rfl ?_
    refine J_cvi (As := [.int x1, .int x2, .int x3]) C (c2_addWalker (gl g) w n (link o0 1) (tl_8_1 h0) x1 x2 x3 M1) (gd_v W3_38 W3_3 W3_4 W1_3 W3_5) rfl (by decide) (hdX2_addWalker) (tl_8_1 h0) (by decide) (cl_2) rfl (Nat.le_of_ble_eq_true rfl) dX8_walker_33 rfl (fun r4 M3 => ?_)
    exact J_iret C RT rfl dX8_walker_36
  · refine J_aload_n C dX8_walker_17 rfl 1 rfl ?_
    refine J_iload C dX8_walker_18 0 rfl ?_
    refine J_cvi (As := [.int r2]) C (c8_refuse (gl g) w o0 h0 r2 M1) (gd_v W2_66 W2_68 WP_0 W1_1 W2_69) rfl (by decide) (hdX8_refuse) h0 (by decide) (cl_8) rfl (Nat.le_of_ble_eq_true rfl) dX8_walker_20 rfl (fun r6 M5 => ?_)
    refine J_goto (tgt := 36) C dX8_walker_23 (by decide) ?_
    exact J_iret C RT rfl dX8_walker_36
theorem c8_walker (l : Launch) (w : WE) (n : Nat) (o0 : Nat) (h0 : typ o0 = 8) (x1 : Int32) (x2 : Int32) (x3 : Int32) (M : Mem) : MC l w yX8_walker (wz yX8_walker cX8_walker 5 (some .int)) rm8_walker [.ref (wa w o0), .int x1, .int x2, .int x3] (s8_walker n o0 x1 x2 x3 M) M :=
  mc_of_J (own := RX8) rfl (by decide) rfl rfl (Nat.le_of_ble_eq_true rfl) (fun _ _ C RT => b8_walker C RT n o0 h0 x1 x2 x3 M)
theorem hdX8_walker : yX8_walker.cls = RX8 ∧ yOK yX8_walker 3 := ⟨rfl, by decide, by decide, by decide⟩
abbrev rm8_leastOf : Room := { frames := 0, cells := 0, slots := 0, locals := 0 }
def s8_leastOf (x0 : Int32) (M : Mem) : Option Res := if (2 : Int32) ≤ x0 then (some ((0 : Int32), M)) else (some ((1 : Int32), M))
set_option maxRecDepth 100000 in
set_option maxHeartbeats 4000000 in
theorem b8_leastOf {w : WE} {g : GT} (C : CT w g RX8 cX8_leastOf rm8_leastOf 1) (RT : RTi w g cX8_leastOf .int) (x0 : Int32) (M : Mem) : J w g (s8_leastOf x0 M) M 0 [(0, .int x0)] [] := by
  rw [s8_leastOf]
  refine J_iload_n C dX8_leastOf_0 rfl 0 rfl ?_
  refine J_iconst C dX8_leastOf_1 kci_2 ?_
  refine J_icmp_ge (tgt := 9) C dX8_leastOf_2 (by decide) (fun _ => ?_) (fun _ => ?_)
  · refine J_iconst C dX8_leastOf_9 kci_0 ?_
    exact J_iret C RT rfl dX8_leastOf_10
  · refine J_iconst C dX8_leastOf_5 kci_1 ?_
    refine J_goto (tgt := 10) C dX8_leastOf_6 (by decide) ?_
    exact J_iret C RT rfl dX8_leastOf_10
theorem c8_leastOf (l : Launch) (w : WE) (x0 : Int32) (M : Mem) : MC l w yX8_leastOf (wz yX8_leastOf cX8_leastOf 1 (some .int)) rm8_leastOf [.int x0] (s8_leastOf x0 M) M :=
  mc_of_J (own := RX8) rfl (by decide) rfl rfl (Nat.le_of_ble_eq_true rfl) (fun _ _ C RT => b8_leastOf C RT x0 M)
theorem hdX8_leastOf : yX8_leastOf.cls = RX8 ∧ yOK yX8_leastOf 1 := ⟨rfl, by decide, by decide, by decide⟩
abbrev rm8_greatestOf : Room := { frames := 0, cells := 0, slots := 0, locals := 0 }
def s8_greatestOf (x0 : Int32) (M : Mem) : Option Res := if (2 : Int32) ≤ x0 then (if x0 = (5 : Int32) then (some ((6 : Int32), M)) else (some ((9 : Int32), M))) else (some ((99 : Int32), M))
set_option maxRecDepth 100000 in
set_option maxHeartbeats 4000000 in
theorem b8_greatestOf {w : WE} {g : GT} (C : CT w g RX8 cX8_greatestOf rm8_greatestOf 1) (RT : RTi w g cX8_greatestOf .int) (x0 : Int32) (M : Mem) : J w g (s8_greatestOf x0 M) M 0 [(0, .int x0)] [] := by
  rw [s8_greatestOf]
  refine J_iload_n C dX8_greatestOf_0 rfl 0 rfl ?_
  refine J_iconst C dX8_greatestOf_1 kci_2 ?_
  refine J_icmp_ge (tgt := 8) C dX8_greatestOf_2 (by decide) (fun _ => ?_) (fun _ => ?_)
  · refine J_iload_n C dX8_greatestOf_8 rfl 0 rfl ?_
    refine J_iconst C dX8_greatestOf_9 kci_5 ?_
    refine J_icmp_ne (tgt := 18) C dX8_greatestOf_10 (by decide) (fun _ => ?_) (fun _ => ?_)
    · refine J_bipush C dX8_greatestOf_18 kcb_9 ?_
      exact J_iret C RT rfl dX8_greatestOf_20
    · refine J_bipush C dX8_greatestOf_13 kcb_6 ?_
      refine J_goto (tgt := 20) C dX8_greatestOf_15 (by decide) ?_
      exact J_iret C RT rfl dX8_greatestOf_20
  · refine J_bipush C dX8_greatestOf_5 kcb_99 ?_
    exact J_iret C RT rfl dX8_greatestOf_7
theorem c8_greatestOf (l : Launch) (w : WE) (x0 : Int32) (M : Mem) : MC l w yX8_greatestOf (wz yX8_greatestOf cX8_greatestOf 1 (some .int)) rm8_greatestOf [.int x0] (s8_greatestOf x0 M) M :=
  mc_of_J (own := RX8) rfl (by decide) rfl rfl (Nat.le_of_ble_eq_true rfl) (fun _ _ C RT => b8_greatestOf C RT x0 M)
theorem hdX8_greatestOf : yX8_greatestOf.cls = RX8 ∧ yOK yX8_greatestOf 1 := ⟨rfl, by decide, by decide, by decide⟩
abbrev rm8_set : Room := { frames := 1, cells := 0, slots := 0, locals := 23 }
def s8_set (o0 : Nat) (x1 : Int32) (x2 : Int32) (x3 : Int32) (M : Mem) : Option Res := cb (s2_knows (link o0 1) x1 M) (fun r2 M1 => if r2 = 0 then (cb (s8_refuse o0 (1 : Int32) M1) (fun r19 M18 => some (r19, M18))) else (if x2 < 0 then (cb (s8_refuse o0 (2 : Int32) M1) (fun r4 M3 => some (r4, M3))) else (if x2 ≤ (5 : Int32) then (cb (s8_leastOf x2 M1) (fun r6 M5 => if r6 ≤ x3 then (cb (s8_greatestOf x2 M5) (fun r8 M7 => if x3 ≤ r8 then (if inB x1 (alen (link (link o0 1) 3)) then cb (s7_change (link (link (link o0 1) 3) x1.toNatClampNeg) x2 x3 M7) (fun r11 M10 => some (r11, M10)) else none) else (cb (s8_refuse o0 (6 : Int32) M7) (fun r13 M12 => some (r13, M12))))) else (cb (s8_refuse o0 (4 : Int32) M5) (fun r15 M14 => some (r15, M14))))) else (cb (s8_refuse o0 (2 : Int32) M1) (fun r17 M16 => some (r17, M16))))))
set_option maxRecDepth 100000 in
set_option maxHeartbeats 4000000 in
theorem b8_set {w : WE} {g : GT} (C : CT w g RX8 cX8_set rm8_set 4) (RT : RTi w g cX8_set .int) (o0 : Nat) (h0 : typ o0 = 8) (x1 : Int32) (x2 : Int32) (x3 : Int32) (M : Mem) : J w g (s8_set o0 x1 x2 x3 M) M 0 [(0, .ref (wa w o0)), (1, .int x1), (2, .int x2), (3, .int x3)] [] := by
  rw [s8_set]
  refine J_aload_n C dX8_set_0 rfl 0 rfl ?_
  refine J_getr C fk8_1 W2_38 h0 dX8_set_1 ?_
  refine J_iload_n C dX8_set_4 rfl 1 rfl ?_
  refine J_cvi (As := [.int x1]) C (c2_knows (gl g) w (link o0 1) (tl_8_1 h0) x1 M) (gd_v W3_43 W3_44 W3_45 W1_3 W3_46) rfl (by decide) (hdX2_knows) (tl_8_1 h0) (by decide) (cl_2) rfl (Nat.le_of_ble_eq_true rfl) dX8_set_5 rfl (fun r2 M1 => ?_)
  refine J_if_ne (tgt := 17) C dX8_set_8 (by decide) (fun _ => ?_) (fun _ => ?_)
  · refine J_iload_n C dX8_set_17 rfl 2 rfl ?_
    refine J_if_lt (tgt := 26) C dX8_set_18 (by decide) (fun _ => ?_) (fun _ => ?_)
    · refine J_aload_n C dX8_set_26 rfl 0 rfl ?_
      refine J_iconst C dX8_set_27 kci_2 ?_
      refine J_cvi (As := [.int (2 : Int32)]) C (c8_refuse (gl g) w o0 h0 (2 : Int32) M1) (gd_v W2_66 W2_68 WP_0 W1_1 W2_69) rfl (by decide) (hdX8_refuse) h0 (by decide) (cl_8) rfl (Nat.le_of_ble_eq_true rfl) dX8_set_28 rfl (fun r4 M3 => ?_)
      exact J_iret C RT rfl dX8_set_31
    · refine J_iload_n C dX8_set_21 rfl 2 rfl ?_
      refine J_iconst C dX8_set_22 kci_5 ?_
      refine J_icmp_le (tgt := 32) C dX8_set_23 (by decide) (fun _ => ?_) (fun _ => ?_)
      · refine J_iload_n C dX8_set_32 rfl 3 rfl ?_
        refine J_iload_n C dX8_set_33 rfl 2 rfl ?_
        refine J_csi (As := [.int x2]) (dm := 0) C (c8_leastOf (gl g) w x2 M1) (gd_s W3_47 W3_48 W1_1 W3_49) rfl (by decide) (hdX8_leastOf.2) rfl (Nat.le_of_ble_eq_true rfl) dX8_set_34 rfl (fun r6 M5 => ?_)
        refine J_icmp_ge (tgt := 46) C dX8_set_37 (by decide) (fun _ => ?_) (fun _ => ?_)
        · refine J_iload_n C dX8_set_46 rfl 3 rfl ?_
          refine J_iload_n C dX8_set_47 rfl 2 rfl ?_
          refine J_csi (As := [.int x2]) (dm := 0) C (c8_greatestOf (gl g) w x2 M5) (gd_s W3_50 W3_51 W1_1 W3_52) rfl (by decide) (hdX8_greatestOf.2) rfl (Nat.le_of_ble_eq_true rfl) dX8_set_48 rfl (fun r8 M7 => ?_)
          refine J_icmp_le (tgt := 61) C dX8_set_51 (by decide) (fun _ => ?_) (fun _ => ?_)
          · refine J_aload_n C dX8_set_61 rfl 0 rfl ?_
            refine J_getr C fk8_1 W2_38 h0 dX8_set_62 ?_
            refine J_getr C fk2_3 W1_177 (tl_8_1 h0) dX8_set_65 ?_
            refine J_iload_n C dX8_set_68 rfl 1 rfl ?_
            refine J_aaload C (tl_2_3 (tl_8_1 h0)) dX8_set_69 (fun hb9 => ?_)
            refine J_iload_n C dX8_set_70 rfl 2 rfl ?_
            refine J_iload_n C dX8_set_71 rfl 3 rfl ?_
            refine J_cvi (As := [.int x2, .int x3]) C (c7_change (gl g) w (link (link (link o0 1) 3) x1.toNatClampNeg) (t_wk (tl_2_3 (tl_8_1 h0)) hb9) x2 x3 M7) (gd_v W3_53 W3_54 W3_55 W1_7 W3_56) rfl (by decide) (hdX7_change) (t_wk (tl_2_3 (tl_8_1 h0)) hb9) (by decide) (cl_7) rfl (Nat.le_of_ble_eq_true rfl) dX8_set_72 rfl (fun r11 M10 => ?_)
            exact J_iret C RT rfl dX8_set_75
          · refine J_aload_n C dX8_set_54 rfl 0 rfl ?_
            refine J_bipush C dX8_set_55 kcb_6 ?_
            refine J_cvi (As := [.int (6 : Int32)]) C (c8_refuse (gl g) w o0 h0 (6 : Int32) M7) (gd_v W2_66 W2_68 WP_0 W1_1 W2_69) rfl (by decide) (hdX8_refuse) h0 (by decide) (cl_8) rfl (Nat.le_of_ble_eq_true rfl) dX8_set_57 rfl (fun r13 M12 => ?_)
            exact J_iret C RT rfl dX8_set_60
        · refine J_aload_n C dX8_set_40 rfl 0 rfl ?_
          refine J_iconst C dX8_set_41 kci_4 ?_
          refine J_cvi (As := [.int (4 : Int32)]) C (c8_refuse (gl g) w o0 h0 (4 : Int32) M5) (gd_v W2_66 W2_68 WP_0 W1_1 W2_69) rfl (by decide) (hdX8_refuse) h0 (by decide) (cl_8) rfl (Nat.le_of_ble_eq_true rfl) dX8_set_42 rfl (fun r15 M14 => ?_)
          exact J_iret C RT rfl dX8_set_45
      · refine J_aload_n C dX8_set_26 rfl 0 rfl ?_
        refine J_iconst C dX8_set_27 kci_2 ?_
        refine J_cvi (As := [.int (2 : Int32)]) C (c8_refuse (gl g) w o0 h0 (2 : Int32) M1) (gd_v W2_66 W2_68 WP_0 W1_1 W2_69) rfl (by decide) (hdX8_refuse) h0 (by decide) (cl_8) rfl (Nat.le_of_ble_eq_true rfl) dX8_set_28 rfl (fun r17 M16 => ?_)
        exact J_iret C RT rfl dX8_set_31
  · refine J_aload_n C dX8_set_11 rfl 0 rfl ?_
    refine J_iconst C dX8_set_12 kci_1 ?_
    refine J_cvi (As := [.int (1 : Int32)]) C (c8_refuse (gl g) w o0 h0 (1 : Int32) M1) (gd_v W2_66 W2_68 WP_0 W1_1 W2_69) rfl (by decide) (hdX8_refuse) h0 (by decide) (cl_8) rfl (Nat.le_of_ble_eq_true rfl) dX8_set_13 rfl (fun r19 M18 => ?_)
    exact J_iret C RT rfl dX8_set_16
theorem c8_set (l : Launch) (w : WE) (o0 : Nat) (h0 : typ o0 = 8) (x1 : Int32) (x2 : Int32) (x3 : Int32) (M : Mem) : MC l w yX8_set (wz yX8_set cX8_set 4 (some .int)) rm8_set [.ref (wa w o0), .int x1, .int x2, .int x3] (s8_set o0 x1 x2 x3 M) M :=
  mc_of_J (own := RX8) rfl (by decide) rfl rfl (Nat.le_of_ble_eq_true rfl) (fun _ _ C RT => b8_set C RT o0 h0 x1 x2 x3 M)
theorem hdX8_set : yX8_set.cls = RX8 ∧ yOK yX8_set 3 := ⟨rfl, by decide, by decide, by decide⟩
abbrev rm8_player : Room := { frames := 2, cells := 0, slots := 0, locals := 44 }
def s8_player (o0 : Nat) (x1 : Int32) (x2 : Int32) (M : Mem) : Option Res := cb (s3_whyNot (link (link o0 1) 1) x1 x2 M) (fun r2 M1 => if r2 = 0 then (ilet (M1 (link (link o0 1) 1) 0) (fun v3 => mlet (mset M1 (link (link o0 1) 1) 0 x1) (fun M4 => mlet (mset M4 (link (link o0 1) 1) 1 x2) (fun M5 => some (v3, M5))))) else (cb (s8_refuse o0 r2 M1) (fun r7 M6 => some (r7, M6))))
set_option maxRecDepth 100000 in
set_option maxHeartbeats 4000000 in
theorem b8_player {w : WE} {g : GT} (C : CT w g RX8 cX8_player rm8_player 5) (RT : RTi w g cX8_player .int) (o0 : Nat) (h0 : typ o0 = 8) (x1 : Int32) (x2 : Int32) (M : Mem) : J w g (s8_player o0 x1 x2 M) M 0 [(0, .ref (wa w o0)), (1, .int x1), (2, .int x2)] [] := by
  rw [s8_player]
  refine J_aload_n C dX8_player_0 rfl 0 rfl ?_
  refine J_getr C fk8_1 W2_38 h0 dX8_player_1 ?_
  refine J_getr C fk2_1 W1_168 (tl_8_1 h0) dX8_player_4 ?_
  refine J_iload_n C dX8_player_7 rfl 1 rfl ?_
  refine J_iload_n C dX8_player_8 rfl 2 rfl ?_
  refine J_cvi (As := [.int x1, .int x2]) C (c3_whyNot (gl g) w (link (link o0 1) 1) (tl_2_1 (tl_8_1 h0)) x1 x2 M) (gd_v W3_61 W3_19 W3_20 W1_5 W3_21) rfl (by decide) (hdX3_whyNot) (tl_2_1 (tl_8_1 h0)) (by decide) (cl_3) rfl (Nat.le_of_ble_eq_true rfl) dX8_player_9 rfl (fun r2 M1 => ?_)
  refine J_istore_n (lv' := [(3, .int r2), (0, .ref (wa w o0)), (1, .int x1), (2, .int x2)]) C dX8_player_12 rfl (by decide) rfl ?_
  refine J_iload_n C dX8_player_13 rfl 0 rfl ?_
  refine J_if_eq (tgt := 23) C dX8_player_14 (by decide) (fun _ => ?_) (fun _ => ?_)
  · refine J_aload_n C dX8_player_23 rfl 1 rfl ?_
    refine J_getr C fk8_1 W2_38 h0 dX8_player_24 ?_
    refine J_getr C fk2_1 W1_168 (tl_8_1 h0) dX8_player_27 ?_
    refine J_geti C fk3_0 W1_73 (tl_2_1 (tl_8_1 h0)) dX8_player_30 ?_
    refine J_ilet (fun v3 => ?_)
    refine J_istore (lv' := [(4, .int v3), (3, .int r2), (0, .ref (wa w o0)), (1, .int x1), (2, .int x2)]) C dX8_player_33 (by decide) rfl ?_
    refine J_aload_n C dX8_player_35 rfl 2 rfl ?_
    refine J_getr C fk8_1 W2_38 h0 dX8_player_36 ?_
    refine J_getr C fk2_1 W1_168 (tl_8_1 h0) dX8_player_39 ?_
    refine J_iload_n C dX8_player_42 rfl 3 rfl ?_
    refine J_puti C fk3_0 W1_73 fp3_0 (tl_2_1 (tl_8_1 h0)) dX8_player_43 ?_
    refine J_mlet (fun M4 => ?_)
    refine J_aload_n C dX8_player_46 rfl 2 rfl ?_
    refine J_getr C fk8_1 W2_38 h0 dX8_player_47 ?_
    refine J_getr C fk2_1 W1_168 (tl_8_1 h0) dX8_player_50 ?_
    refine J_iload_n C dX8_player_53 rfl 4 rfl ?_
    refine J_puti C fk3_1 W1_78 fp3_1 (tl_2_1 (tl_8_1 h0)) dX8_player_54 ?_
    refine J_mlet (fun M5 => ?_)
    refine J_iload C dX8_player_57 0 rfl ?_
    exact J_iret C RT rfl dX8_player_59
  · refine J_aload_n C dX8_player_17 rfl 1 rfl ?_
    refine J_iload_n C dX8_player_18 rfl 0 rfl ?_
    refine J_cvi (As := [.int r2]) C (c8_refuse (gl g) w o0 h0 r2 M1) (gd_v W2_66 W2_68 WP_0 W1_1 W2_69) rfl (by decide) (hdX8_refuse) h0 (by decide) (cl_8) rfl (Nat.le_of_ble_eq_true rfl) dX8_player_19 rfl (fun r7 M6 => ?_)
    exact J_iret C RT rfl dX8_player_22
theorem c8_player (l : Launch) (w : WE) (o0 : Nat) (h0 : typ o0 = 8) (x1 : Int32) (x2 : Int32) (M : Mem) : MC l w yX8_player (wz yX8_player cX8_player 5 (some .int)) rm8_player [.ref (wa w o0), .int x1, .int x2] (s8_player o0 x1 x2 M) M :=
  mc_of_J (own := RX8) rfl (by decide) rfl rfl (Nat.le_of_ble_eq_true rfl) (fun _ _ C RT => b8_player C RT o0 h0 x1 x2 M)
theorem hdX8_player : yX8_player.cls = RX8 ∧ yOK yX8_player 2 := ⟨rfl, by decide, by decide, by decide⟩
abbrev rm8_form : Room := { frames := 1, cells := 0, slots := 0, locals := 22 }
def s8_form (o0 : Nat) (x1 : Int32) (M : Mem) : Option Res := cb (s8_whyNotWithin x1 (0 : Int32) (2 : Int32) M) (fun r2 M1 => if r2 = 0 then (ilet (M1 (link o0 1) 6) (fun v3 => mlet (mset M1 (link o0 1) 6 x1) (fun M4 => some (v3, M4)))) else (cb (s8_refuse o0 r2 M1) (fun r6 M5 => some (r6, M5))))
set_option maxRecDepth 100000 in
set_option maxHeartbeats 4000000 in
theorem b8_form {w : WE} {g : GT} (C : CT w g RX8 cX8_form rm8_form 4) (RT : RTi w g cX8_form .int) (o0 : Nat) (h0 : typ o0 = 8) (x1 : Int32) (M : Mem) : J w g (s8_form o0 x1 M) M 0 [(0, .ref (wa w o0)), (1, .int x1)] [] := by
  rw [s8_form]
  refine J_iload_n C dX8_form_0 rfl 1 rfl ?_
  refine J_iconst C dX8_form_1 kci_0 ?_
  refine J_iconst C dX8_form_2 kci_2 ?_
  refine J_csi (As := [.int x1, .int (0 : Int32), .int (2 : Int32)]) (dm := 0) C (c8_whyNotWithin (gl g) w x1 (0 : Int32) (2 : Int32) M) (gd_s W3_66 W2_203 W1_1 W2_204) rfl (by decide) (hdX8_whyNotWithin.2) rfl (Nat.le_of_ble_eq_true rfl) dX8_form_3 rfl (fun r2 M1 => ?_)
  refine J_istore_n (lv' := [(2, .int r2), (0, .ref (wa w o0)), (1, .int x1)]) C dX8_form_6 rfl (by decide) rfl ?_
  refine J_iload_n C dX8_form_7 rfl 0 rfl ?_
  refine J_if_eq (tgt := 17) C dX8_form_8 (by decide) (fun _ => ?_) (fun _ => ?_)
  · refine J_aload_n C dX8_form_17 rfl 1 rfl ?_
    refine J_getr C fk8_1 W2_38 h0 dX8_form_18 ?_
    refine J_geti C fk2_6 W1_184 (tl_8_1 h0) dX8_form_21 ?_
    refine J_ilet (fun v3 => ?_)
    refine J_istore_n (lv' := [(3, .int v3), (2, .int r2), (0, .ref (wa w o0)), (1, .int x1)]) C dX8_form_24 rfl (by decide) rfl ?_
    refine J_aload_n C dX8_form_25 rfl 2 rfl ?_
    refine J_getr C fk8_1 W2_38 h0 dX8_form_26 ?_
    refine J_iload_n C dX8_form_29 rfl 3 rfl ?_
    refine J_puti C fk2_6 W1_184 fp2_6 (tl_8_1 h0) dX8_form_30 ?_
    refine J_mlet (fun M4 => ?_)
    refine J_iload_n C dX8_form_33 rfl 0 rfl ?_
    exact J_iret C RT rfl dX8_form_34
  · refine J_aload_n C dX8_form_11 rfl 1 rfl ?_
    refine J_iload_n C dX8_form_12 rfl 0 rfl ?_
    refine J_cvi (As := [.int r2]) C (c8_refuse (gl g) w o0 h0 r2 M1) (gd_v W2_66 W2_68 WP_0 W1_1 W2_69) rfl (by decide) (hdX8_refuse) h0 (by decide) (cl_8) rfl (Nat.le_of_ble_eq_true rfl) dX8_form_13 rfl (fun r6 M5 => ?_)
    exact J_iret C RT rfl dX8_form_16
theorem c8_form (l : Launch) (w : WE) (o0 : Nat) (h0 : typ o0 = 8) (x1 : Int32) (M : Mem) : MC l w yX8_form (wz yX8_form cX8_form 4 (some .int)) rm8_form [.ref (wa w o0), .int x1] (s8_form o0 x1 M) M :=
  mc_of_J (own := RX8) rfl (by decide) rfl rfl (Nat.le_of_ble_eq_true rfl) (fun _ _ C RT => b8_form C RT o0 h0 x1 M)
theorem hdX8_form : yX8_form.cls = RX8 ∧ yOK yX8_form 1 := ⟨rfl, by decide, by decide, by decide⟩
abbrev rm8_seed : Room := { frames := 0, cells := 0, slots := 0, locals := 0 }
def s8_seed (o0 : Nat) (x1 : Int32) (M : Mem) : Option Res := ilet (M (link (link o0 1) 1) 2) (fun v1 => mlet (mset M (link (link o0 1) 1) 2 x1) (fun M2 => some (v1, M2)))
set_option maxRecDepth 100000 in
set_option maxHeartbeats 4000000 in
theorem b8_seed {w : WE} {g : GT} (C : CT w g RX8 cX8_seed rm8_seed 3) (RT : RTi w g cX8_seed .int) (o0 : Nat) (h0 : typ o0 = 8) (x1 : Int32) (M : Mem) : J w g (s8_seed o0 x1 M) M 0 [(0, .ref (wa w o0)), (1, .int x1)] [] := by
  rw [s8_seed]
  refine J_aload_n C dX8_seed_0 rfl 0 rfl ?_
  refine J_getr C fk8_1 W2_38 h0 dX8_seed_1 ?_
  refine J_getr C fk2_1 W1_168 (tl_8_1 h0) dX8_seed_4 ?_
  refine J_geti C fk3_2 W1_83 (tl_2_1 (tl_8_1 h0)) dX8_seed_7 ?_
  refine J_ilet (fun v1 => ?_)
  refine J_istore_n (lv' := [(2, .int v1), (0, .ref (wa w o0)), (1, .int x1)]) C dX8_seed_10 rfl (by decide) rfl ?_
  refine J_aload_n C dX8_seed_11 rfl 1 rfl ?_
  refine J_getr C fk8_1 W2_38 h0 dX8_seed_12 ?_
  refine J_getr C fk2_1 W1_168 (tl_8_1 h0) dX8_seed_15 ?_
  refine J_iload_n C dX8_seed_18 rfl 2 rfl ?_
  refine J_puti C fk3_2 W1_83 fp3_2 (tl_2_1 (tl_8_1 h0)) dX8_seed_19 ?_
  refine J_mlet (fun M2 => ?_)
  refine J_iload_n C dX8_seed_22 rfl 0 rfl ?_
  exact J_iret C RT rfl dX8_seed_23
theorem c8_seed (l : Launch) (w : WE) (o0 : Nat) (h0 : typ o0 = 8) (x1 : Int32) (M : Mem) : MC l w yX8_seed (wz yX8_seed cX8_seed 3 (some .int)) rm8_seed [.ref (wa w o0), .int x1] (s8_seed o0 x1 M) M :=
  mc_of_J (own := RX8) rfl (by decide) rfl rfl (Nat.le_of_ble_eq_true rfl) (fun _ _ C RT => b8_seed C RT o0 h0 x1 M)
theorem hdX8_seed : yX8_seed.cls = RX8 ∧ yOK yX8_seed 1 := ⟨rfl, by decide, by decide, by decide⟩
abbrev rm8_of : Room := { frames := 1, cells := 0, slots := 0, locals := 21 }
def s8_of (o0 : Nat) (x1 : Int32) (x2 : Int32) (M : Mem) : Option Res := cb (s2_knows (link o0 1) x1 M) (fun r2 M1 => if r2 = 0 then (cb (s8_refuse o0 (1 : Int32) M1) (fun r11 M10 => some (r11, M10))) else (if x2 < 0 then (cb (s8_refuse o0 (2 : Int32) M1) (fun r4 M3 => some (r4, M3))) else (if x2 ≤ (5 : Int32) then (if inB x1 (alen (link (link o0 1) 3)) then cb (s7_tell (link (link (link o0 1) 3) x1.toNatClampNeg) x2 M1) (fun r7 M6 => some (r7, M6)) else none) else (cb (s8_refuse o0 (2 : Int32) M1) (fun r9 M8 => some (r9, M8))))))
set_option maxRecDepth 100000 in
set_option maxHeartbeats 4000000 in
theorem b8_of {w : WE} {g : GT} (C : CT w g RX8 cX8_of rm8_of 3) (RT : RTi w g cX8_of .int) (o0 : Nat) (h0 : typ o0 = 8) (x1 : Int32) (x2 : Int32) (M : Mem) : J w g (s8_of o0 x1 x2 M) M 0 [(0, .ref (wa w o0)), (1, .int x1), (2, .int x2)] [] := by
  rw [s8_of]
  refine J_aload_n C dX8_of_0 rfl 0 rfl ?_
  refine J_getr C fk8_1 W2_38 h0 dX8_of_1 ?_
  refine J_iload_n C dX8_of_4 rfl 1 rfl ?_
  refine J_cvi (As := [.int x1]) C (c2_knows (gl g) w (link o0 1) (tl_8_1 h0) x1 M) (gd_v W3_43 W3_44 W3_45 W1_3 W3_46) rfl (by decide) (hdX2_knows) (tl_8_1 h0) (by decide) (cl_2) rfl (Nat.le_of_ble_eq_true rfl) dX8_of_5 rfl (fun r2 M1 => ?_)
  refine J_if_ne (tgt := 17) C dX8_of_8 (by decide) (fun _ => ?_) (fun _ => ?_)
  · refine J_iload_n C dX8_of_17 rfl 2 rfl ?_
    refine J_if_lt (tgt := 26) C dX8_of_18 (by decide) (fun _ => ?_) (fun _ => ?_)
    · refine J_aload_n C dX8_of_26 rfl 0 rfl ?_
      refine J_iconst C dX8_of_27 kci_2 ?_
      refine J_cvi (As := [.int (2 : Int32)]) C (c8_refuse (gl g) w o0 h0 (2 : Int32) M1) (gd_v W2_66 W2_68 WP_0 W1_1 W2_69) rfl (by decide) (hdX8_refuse) h0 (by decide) (cl_8) rfl (Nat.le_of_ble_eq_true rfl) dX8_of_28 rfl (fun r4 M3 => ?_)
      exact J_iret C RT rfl dX8_of_31
    · refine J_iload_n C dX8_of_21 rfl 2 rfl ?_
      refine J_iconst C dX8_of_22 kci_5 ?_
      refine J_icmp_le (tgt := 32) C dX8_of_23 (by decide) (fun _ => ?_) (fun _ => ?_)
      · refine J_aload_n C dX8_of_32 rfl 0 rfl ?_
        refine J_getr C fk8_1 W2_38 h0 dX8_of_33 ?_
        refine J_getr C fk2_3 W1_177 (tl_8_1 h0) dX8_of_36 ?_
        refine J_iload_n C dX8_of_39 rfl 1 rfl ?_
        refine J_aaload C (tl_2_3 (tl_8_1 h0)) dX8_of_40 (fun hb5 => ?_)
        refine J_iload_n C dX8_of_41 rfl 2 rfl ?_
        refine J_cvi (As := [.int x2]) C (c7_tell (gl g) w (link (link (link o0 1) 3) x1.toNatClampNeg) (t_wk (tl_2_3 (tl_8_1 h0)) hb5) x2 M1) (gd_v W3_75 W3_76 W3_77 W1_7 W3_78) rfl (by decide) (hdX7_tell) (t_wk (tl_2_3 (tl_8_1 h0)) hb5) (by decide) (cl_7) rfl (Nat.le_of_ble_eq_true rfl) dX8_of_42 rfl (fun r7 M6 => ?_)
        exact J_iret C RT rfl dX8_of_45
      · refine J_aload_n C dX8_of_26 rfl 0 rfl ?_
        refine J_iconst C dX8_of_27 kci_2 ?_
        refine J_cvi (As := [.int (2 : Int32)]) C (c8_refuse (gl g) w o0 h0 (2 : Int32) M1) (gd_v W2_66 W2_68 WP_0 W1_1 W2_69) rfl (by decide) (hdX8_refuse) h0 (by decide) (cl_8) rfl (Nat.le_of_ble_eq_true rfl) dX8_of_28 rfl (fun r9 M8 => ?_)
        exact J_iret C RT rfl dX8_of_31
  · refine J_aload_n C dX8_of_11 rfl 0 rfl ?_
    refine J_iconst C dX8_of_12 kci_1 ?_
    refine J_cvi (As := [.int (1 : Int32)]) C (c8_refuse (gl g) w o0 h0 (1 : Int32) M1) (gd_v W2_66 W2_68 WP_0 W1_1 W2_69) rfl (by decide) (hdX8_refuse) h0 (by decide) (cl_8) rfl (Nat.le_of_ble_eq_true rfl) dX8_of_13 rfl (fun r11 M10 => ?_)
    exact J_iret C RT rfl dX8_of_16
theorem c8_of (l : Launch) (w : WE) (o0 : Nat) (h0 : typ o0 = 8) (x1 : Int32) (x2 : Int32) (M : Mem) : MC l w yX8_of (wz yX8_of cX8_of 3 (some .int)) rm8_of [.ref (wa w o0), .int x1, .int x2] (s8_of o0 x1 x2 M) M :=
  mc_of_J (own := RX8) rfl (by decide) rfl rfl (Nat.le_of_ble_eq_true rfl) (fun _ _ C RT => b8_of C RT o0 h0 x1 x2 M)
theorem hdX8_of : yX8_of.cls = RX8 ∧ yOK yX8_of 2 := ⟨rfl, by decide, by decide, by decide⟩
abbrev rm8_has : Room := { frames := 1, cells := 0, slots := 0, locals := 21 }
def s8_has (o0 : Nat) (x1 : Int32) (M : Mem) : Option Res := cb (s4_isPlace (link (link o0 1) 0) x1 M) (fun r2 M1 => if r2 = 0 then (cb (s8_refuse o0 (1 : Int32) M1) (fun r6 M5 => some (r6, M5))) else (cb (s4_hasChair (link (link o0 1) 0) x1 M1) (fun r4 M3 => if r4 = 0 then (some ((0 : Int32), M3)) else (some ((1 : Int32), M3)))))
set_option maxRecDepth 100000 in
set_option maxHeartbeats 4000000 in
theorem b8_has {w : WE} {g : GT} (C : CT w g RX8 cX8_has rm8_has 2) (RT : RTi w g cX8_has .int) (o0 : Nat) (h0 : typ o0 = 8) (x1 : Int32) (M : Mem) : J w g (s8_has o0 x1 M) M 0 [(0, .ref (wa w o0)), (1, .int x1)] [] := by
  rw [s8_has]
  refine J_aload_n C dX8_has_0 rfl 0 rfl ?_
  refine J_getr C fk8_1 W2_38 h0 dX8_has_1 ?_
  refine J_getr C fk2_0 W1_164 (tl_8_1 h0) dX8_has_4 ?_
  refine J_iload_n C dX8_has_7 rfl 1 rfl ?_
  refine J_cvi (As := [.int x1]) C (c4_isPlace (gl g) w (link (link o0 1) 0) (tl_2_0 (tl_8_1 h0)) x1 M) (gd_v W3_83 W2_214 W2_215 W1_4 W2_216) rfl (by decide) (hdX4_isPlace) (tl_2_0 (tl_8_1 h0)) (by decide) (cl_4) rfl (Nat.le_of_ble_eq_true rfl) dX8_has_8 rfl (fun r2 M1 => ?_)
  refine J_if_ne (tgt := 20) C dX8_has_11 (by decide) (fun _ => ?_) (fun _ => ?_)
  · refine J_aload_n C dX8_has_20 rfl 0 rfl ?_
    refine J_getr C fk8_1 W2_38 h0 dX8_has_21 ?_
    refine J_getr C fk2_0 W1_164 (tl_8_1 h0) dX8_has_24 ?_
    refine J_iload_n C dX8_has_27 rfl 1 rfl ?_
    refine J_cvi (As := [.int x1]) C (c4_hasChair (gl g) w (link (link o0 1) 0) (tl_2_0 (tl_8_1 h0)) x1 M1) (gd_v W3_84 W2_218 W2_219 W1_4 W2_220) rfl (by decide) (hdX4_hasChair) (tl_2_0 (tl_8_1 h0)) (by decide) (cl_4) rfl (Nat.le_of_ble_eq_true rfl) dX8_has_28 rfl (fun r4 M3 => ?_)
    refine J_if_eq (tgt := 38) C dX8_has_31 (by decide) (fun _ => ?_) (fun _ => ?_)
    · refine J_iconst C dX8_has_38 kci_0 ?_
      exact J_iret C RT rfl dX8_has_39
    · refine J_iconst C dX8_has_34 kci_1 ?_
      refine J_goto (tgt := 39) C dX8_has_35 (by decide) ?_
      exact J_iret C RT rfl dX8_has_39
  · refine J_aload_n C dX8_has_14 rfl 0 rfl ?_
    refine J_iconst C dX8_has_15 kci_1 ?_
    refine J_cvi (As := [.int (1 : Int32)]) C (c8_refuse (gl g) w o0 h0 (1 : Int32) M1) (gd_v W2_66 W2_68 WP_0 W1_1 W2_69) rfl (by decide) (hdX8_refuse) h0 (by decide) (cl_8) rfl (Nat.le_of_ble_eq_true rfl) dX8_has_16 rfl (fun r6 M5 => ?_)
    exact J_iret C RT rfl dX8_has_19
theorem c8_has (l : Launch) (w : WE) (o0 : Nat) (h0 : typ o0 = 8) (x1 : Int32) (M : Mem) : MC l w yX8_has (wz yX8_has cX8_has 2 (some .int)) rm8_has [.ref (wa w o0), .int x1] (s8_has o0 x1 M) M :=
  mc_of_J (own := RX8) rfl (by decide) rfl rfl (Nat.le_of_ble_eq_true rfl) (fun _ _ C RT => b8_has C RT o0 h0 x1 M)
theorem hdX8_has : yX8_has.cls = RX8 ∧ yOK yX8_has 1 := ⟨rfl, by decide, by decide, by decide⟩
abbrev rm8_haste : Room := { frames := 1, cells := 0, slots := 0, locals := 23 }
def s8_haste (n : Nat) (o0 : Nat) (x1 : Int32) (x2 : Int32) (M : Mem) : Option Res := cb (s2_knows (link o0 1) x1 M) (fun r2 M1 => if r2 = 0 then (cb (s8_refuse o0 (1 : Int32) M1) (fun r4 M3 => some (r4, M3))) else (cb (s4_isPlace (link (link o0 1) 0) x2 M1) (fun r6 M5 => if r6 = 0 then (cb (s8_refuse o0 (1 : Int32) M5) (fun r13 M12 => some (r13, M12))) else (if inB x1 (alen (link (link o0 1) 3)) then cb (s4_far n (link (link o0 1) 0) (M5 (link (link (link o0 1) 3) x1.toNatClampNeg) 0) x2 M5) (fun r9 M8 => cb (s7_hasteOver n (link (link (link o0 1) 3) x1.toNatClampNeg) r9 M8) (fun r11 M10 => some (r11, M10))) else none))))
set_option maxRecDepth 100000 in
set_option maxHeartbeats 4000000 in
theorem b8_haste {w : WE} {g : GT} (C : CT w g RX8 cX8_haste rm8_haste 4) (RT : RTi w g cX8_haste .int) (n : Nat) (o0 : Nat) (h0 : typ o0 = 8) (x1 : Int32) (x2 : Int32) (M : Mem) : J w g (s8_haste n o0 x1 x2 M) M 0 [(0, .ref (wa w o0)), (1, .int x1), (2, .int x2)] [] := by
  rw [s8_haste]
  refine J_aload_n C dX8_haste_0 rfl 0 rfl ?_
  refine J_getr C fk8_1 W2_38 h0 dX8_haste_1 ?_
  refine J_iload_n C dX8_haste_4 rfl 1 rfl ?_
  refine J_cvi (As := [.int x1]) C (c2_knows (gl g) w (link o0 1) (tl_8_1 h0) x1 M) (gd_v W3_43 W3_44 W3_45 W1_3 W3_46) rfl (by decide) (hdX2_knows) (tl_8_1 h0) (by decide) (cl_2) rfl (Nat.le_of_ble_eq_true rfl) dX8_haste_5 rfl (fun r2 M1 => ?_)
  refine J_if_eq (tgt := 25) C dX8_haste_8 (by decide) (fun _ => ?_) (fun _ => ?_)
  · refine J_aload_n C dX8_haste_25 rfl 0 rfl ?_
    refine J_iconst C dX8_haste_26 kci_1 ?_
    refine J_cvi (As := [.int (1 : Int32)]) C (c8_refuse (gl g) w o0 h0 (1 : Int32) M1) (gd_v W2_66 W2_68 WP_0 W1_1 W2_69) rfl (by decide) (hdX8_refuse) h0 (by decide) (cl_8) rfl (Nat.le_of_ble_eq_true rfl) dX8_haste_27 rfl (fun r4 M3 => ?_)
    exact J_iret C RT rfl dX8_haste_30
  · refine J_aload_n C dX8_haste_11 rfl 0 rfl ?_
    refine J_getr C fk8_1 W2_38 h0 dX8_haste_12 ?_
    refine J_getr C fk2_0 W1_164 (tl_8_1 h0) dX8_haste_15 ?_
    refine J_iload_n C dX8_haste_18 rfl 2 rfl ?_
    refine J_cvi (As := [.int x2]) C (c4_isPlace (gl g) w (link (link o0 1) 0) (tl_2_0 (tl_8_1 h0)) x2 M1) (gd_v W3_83 W2_214 W2_215 W1_4 W2_216) rfl (by decide) (hdX4_isPlace) (tl_2_0 (tl_8_1 h0)) (by decide) (cl_4) rfl (Nat.le_of_ble_eq_true rfl) dX8_haste_19 rfl (fun r6 M5 => ?_)
    refine J_if_ne (tgt := 31) C dX8_haste_22 (by decide) (fun _ => ?_) (fun _ => ?_)
    · refine J_aload_n C dX8_haste_31 rfl 0 rfl ?_
      refine J_getr C fk8_1 W2_38 h0 dX8_haste_32 ?_
      refine J_getr C fk2_3 W1_177 (tl_8_1 h0) dX8_haste_35 ?_
      refine J_iload_n C dX8_haste_38 rfl 1 rfl ?_
      refine J_aaload C (tl_2_3 (tl_8_1 h0)) dX8_haste_39 (fun hb7 => ?_)
      refine J_astore_n (lv' := [(3, .ref (wa w (link (link (link o0 1) 3) x1.toNatClampNeg))), (0, .ref (wa w o0)), (1, .int x1), (2, .int x2)]) C dX8_haste_40 rfl (by decide) rfl ?_
      refine J_aload_n C dX8_haste_41 rfl 0 rfl ?_
      refine J_aload_n C dX8_haste_42 rfl 1 rfl ?_
      refine J_getr C fk8_1 W2_38 h0 dX8_haste_43 ?_
      refine J_getr C fk2_0 W1_164 (tl_8_1 h0) dX8_haste_46 ?_
      refine J_aload_n C dX8_haste_49 rfl 0 rfl ?_
      refine J_geti C fk7_0 W1_122 (t_wk (tl_2_3 (tl_8_1 h0)) hb7) dX8_haste_50 ?_
      refine J_iload_n C dX8_haste_53 rfl 3 rfl ?_
      refine J_cvi (As := [.int (M5 (link (link (link o0 1) 3) x1.toNatClampNeg) 0), .int x2]) C (c4_far (gl g) w n (link (link o0 1) 0) (tl_2_0 (tl_8_1 h0)) (M5 (link (link (link o0 1) 3) x1.toNatClampNeg) 0) x2 M5) (gd_v W3_89 W3_90 W3_91 W1_4 W3_92) rfl (by decide) (hdX4_far) (tl_2_0 (tl_8_1 h0)) (by decide) (cl_4) rfl (Nat.le_of_ble_eq_true rfl) dX8_haste_54 rfl (fun r9 M8 => ?_)
      refine J_cvi (As := [.int r9]) C (c7_hasteOver (gl g) w n (link (link (link o0 1) 3) x1.toNatClampNeg) (t_wk (tl_2_3 (tl_8_1 h0)) hb7) r9 M8) (gd_v W3_93 W3_94 W3_95 W1_7 W3_96) rfl (by decide) (hdX7_hasteOver) (t_wk (tl_2_3 (tl_8_1 h0)) hb7) (by decide) (cl_7) rfl (Nat.le_of_ble_eq_true rfl) dX8_haste_57 rfl (fun r11 M10 => ?_)
      exact J_iret C RT rfl dX8_haste_60
    · refine J_aload_n C dX8_haste_25 rfl 0 rfl ?_
      refine J_iconst C dX8_haste_26 kci_1 ?_
      refine J_cvi (As := [.int (1 : Int32)]) C (c8_refuse (gl g) w o0 h0 (1 : Int32) M5) (gd_v W2_66 W2_68 WP_0 W1_1 W2_69) rfl (by decide) (hdX8_refuse) h0 (by decide) (cl_8) rfl (Nat.le_of_ble_eq_true rfl) dX8_haste_27 rfl (fun r13 M12 => ?_)
      exact J_iret C RT rfl dX8_haste_30
theorem c8_haste (l : Launch) (w : WE) (n : Nat) (o0 : Nat) (h0 : typ o0 = 8) (x1 : Int32) (x2 : Int32) (M : Mem) : MC l w yX8_haste (wz yX8_haste cX8_haste 4 (some .int)) rm8_haste [.ref (wa w o0), .int x1, .int x2] (s8_haste n o0 x1 x2 M) M :=
  mc_of_J (own := RX8) rfl (by decide) rfl rfl (Nat.le_of_ble_eq_true rfl) (fun _ _ C RT => b8_haste C RT n o0 h0 x1 x2 M)
theorem hdX8_haste : yX8_haste.cls = RX8 ∧ yOK yX8_haste 2 := ⟨rfl, by decide, by decide, by decide⟩
abbrev rm8_go : Room := { frames := 4, cells := 0, slots := 0, locals := 93 }
def s8_go_35 (n : Nat) (o0 : Nat) (x1 : Int32) : Nat → Int32 → Mem → Option Res
  | 0, _, _ => none
  | f + 1, x3, M => if x1 ≤ x3 then (some ((0 : Int32), M)) else (cb (s2_passTenth n (link o0 1) M) (fun r4 M3 => if r4 = 0 then (ilet (x3 + 1) (fun v5 => s8_go_35 n o0 x1 f v5 M3)) else (cb (s2_endRound n (link o0 1) M3) (fun r7 M6 => if (M6 (link o0 1) 9) = 0 then (some ((1 : Int32), M6)) else (some ((2 : Int32), M6))))))
set_option maxRecDepth 100000 in
set_option maxHeartbeats 4000000 in
theorem b8_go_35 {w : WE} {g : GT} (C : CT w g RX8 cX8_go rm8_go 4) (RT : RTi w g cX8_go .int) (n : Nat) (o0 : Nat) (h0 : typ o0 = 8) (x1 : Int32) : ∀ (f : Nat) (x3 : Int32) (M : Mem), J w g (s8_go_35 n o0 x1 f x3 M) M 35 [(0, .ref (wa w o0)), (1, .int x1), (3, .int x3)] [] := by
  intro f
  induction f with
  | zero =>
    intro x3 M
    rw [s8_go_35]
    exact J_none
  | succ f ih =>
    intro x3 M
    rw [s8_go_35]
    refine J_iload_n C dX8_go_35 rfl 2 rfl ?_
    refine J_iload_n C dX8_go_36 rfl 1 rfl ?_
    refine J_icmp_ge (tgt := 80) C dX8_go_37 (by decide) (fun _ => ?_) (fun _ => ?_)
    · refine J_iconst C dX8_go_80 kci_0 ?_
      exact J_iret C RT rfl dX8_go_81
    · refine J_aload_n C dX8_go_40 rfl 0 rfl ?_
      refine J_getr C fk8_1 W2_38 h0 dX8_go_41 ?_
      refine J_cvi (As := []) C (c2_passTenth (gl g) w n (link o0 1) (tl_8_1 h0) M) (gd_v W3_113 W3_114 W3_115 W1_3 W3_116) rfl (by decide) (hdX2_passTenth) (tl_8_1 h0) (by decide) (cl_2) rfl (Nat.le_of_ble_eq_true rfl) dX8_go_44 rfl (fun r4 M3 => ?_)
      refine J_if_eq (tgt := 74) C dX8_go_47 (by decide) (fun _ => ?_) (fun _ => ?_)
      · refine J_iinc (lw := fun v5 => [(3, .int v5), (0, .ref (wa w o0)), (1, .int x1)]) (X := x3 + 1) C dX8_go_74 (q := 2) rfl (by rw [kci_1]) (by decide) (fun _ => rfl) (fun v5 => ?_)
        refine J_goto (tgt := 35) C dX8_go_77 (by decide) ?_
        refine J_lv [1, 2, 0] rfl ?_
        exact ih v5 M3
      · refine J_aload_n C dX8_go_50 rfl 0 rfl ?_
        refine J_getr C fk8_1 W2_38 h0 dX8_go_51 ?_
        refine J_cvi (As := []) C (c2_endRound (gl g) w n (link o0 1) (tl_8_1 h0) M3) (gd_v W3_140 W3_141 W3_142 W1_3 W3_143) rfl (by decide) (hdX2_endRound) (tl_8_1 h0) (by decide) (cl_2) rfl (Nat.le_of_ble_eq_true rfl) dX8_go_54 rfl (fun r7 M6 => ?_)
        refine J_pop C rfl dX8_go_57 ?_
        refine J_aload_n C dX8_go_58 rfl 0 rfl ?_
        refine J_getr C fk8_1 W2_38 h0 dX8_go_59 ?_
        refine J_geti C fk2_9 W1_192 (tl_8_1 h0) dX8_go_62 ?_
        refine J_if_eq (tgt := 72) C dX8_go_65 (by decide) (fun _ => ?_) (fun _ => ?_)
        · refine J_iconst C dX8_go_72 kci_1 ?_
          exact J_iret C RT rfl dX8_go_73
        · refine J_iconst C dX8_go_68 kci_2 ?_
          refine J_goto (tgt := 73) C dX8_go_69 (by decide) ?_
          exact J_iret C RT rfl dX8_go_73
def s8_go_22 (n : Nat) (o0 : Nat) (x1 : Int32) (t0 : Int32) (M : Mem) : Option Res := if t0 = 0 then (s8_go_35 n o0 x1 n (0 : Int32) M) else (cb (s8_refuse o0 t0 M) (fun r9 M8 => some (r9, M8)))
set_option maxRecDepth 100000 in
set_option maxHeartbeats 4000000 in
theorem b8_go_22 {w : WE} {g : GT} (C : CT w g RX8 cX8_go rm8_go 4) (RT : RTi w g cX8_go .int) (n : Nat) (o0 : Nat) (h0 : typ o0 = 8) (x1 : Int32) (t0 : Int32) (M : Mem) : J w g (s8_go_22 n o0 x1 t0 M) M 22 [(0, .ref (wa w o0)), (1, .int x1)] [.int t0] := by
  rw [s8_go_22]
  refine J_istore_n (lv' := [(2, .int t0), (0, .ref (wa w o0)), (1, .int x1)]) C dX8_go_22 rfl (by decide) rfl ?_
  refine J_iload_n C dX8_go_23 rfl 0 rfl ?_
  refine J_if_eq (tgt := 33) C dX8_go_24 (by decide) (fun _ => ?_) (fun _ => ?_)
  · refine J_iconst C dX8_go_33 kci_0 ?_
    refine J_istore_n (lv' := [(3, .int (0 : Int32)), (2, .int t0), (0, .ref (wa w o0)), (1, .int x1)]) C dX8_go_34 rfl (by decide) rfl ?_
    refine J_lv [2, 3, 0] rfl ?_
    exact b8_go_35 C RT n o0 h0 x1 n (0 : Int32) M
  · refine J_aload_n C dX8_go_27 rfl 1 rfl ?_
    refine J_iload_n C dX8_go_28 rfl 0 rfl ?_
    refine J_cvi (As := [.int t0]) C (c8_refuse (gl g) w o0 h0 t0 M) (gd_v W2_66 W2_68 WP_0 W1_1 W2_69) rfl (by decide) (hdX8_refuse) h0 (by decide) (cl_8) rfl (Nat.le_of_ble_eq_true rfl) dX8_go_29 rfl (fun r9 M8 => ?_)
    exact J_iret C RT rfl dX8_go_32
def s8_go (n : Nat) (o0 : Nat) (x1 : Int32) (M : Mem) : Option Res := cb (s2_canGoOn n (link o0 1) M) (fun r2 M1 => if r2 = 0 then (s8_go_22 n o0 x1 (3 : Int32) M1) else (cb (s8_whyNotWithin x1 (1 : Int32) (300 : Int32) M1) (fun r11 M10 => s8_go_22 n o0 x1 r11 M10)))
set_option maxRecDepth 100000 in
set_option maxHeartbeats 4000000 in
theorem b8_go {w : WE} {g : GT} (C : CT w g RX8 cX8_go rm8_go 4) (RT : RTi w g cX8_go .int) (n : Nat) (o0 : Nat) (h0 : typ o0 = 8) (x1 : Int32) (M : Mem) : J w g (s8_go n o0 x1 M) M 0 [(0, .ref (wa w o0)), (1, .int x1)] [] := by
  rw [s8_go]
  refine J_aload_n C dX8_go_0 rfl 0 rfl ?_
  refine J_getr C fk8_1 W2_38 h0 dX8_go_1 ?_
  refine J_cvi (As := []) C (c2_canGoOn (gl g) w n (link o0 1) (tl_8_1 h0) M) (gd_v W3_101 W3_102 W3_103 W1_3 W3_104) rfl (by decide) (hdX2_canGoOn) (tl_8_1 h0) (by decide) (cl_2) rfl (Nat.le_of_ble_eq_true rfl) dX8_go_4 rfl (fun r2 M1 => ?_)
  refine J_if_eq (tgt := 21) C dX8_go_7 (by decide) (fun _ => ?_) (fun _ => ?_)
  · refine J_iconst C dX8_go_21 kci_3 ?_
    exact b8_go_22 C RT n o0 h0 x1 (3 : Int32) M1
  · refine J_iload_n C dX8_go_10 rfl 1 rfl ?_
    refine J_iconst C dX8_go_11 kci_1 ?_
    refine J_sipush C dX8_go_12 kcs_300 ?_
    refine J_csi (As := [.int x1, .int (1 : Int32), .int (300 : Int32)]) (dm := 0) C (c8_whyNotWithin (gl g) w x1 (1 : Int32) (300 : Int32) M1) (gd_s W3_66 W2_203 W1_1 W2_204) rfl (by decide) (hdX8_whyNotWithin.2) rfl (Nat.le_of_ble_eq_true rfl) dX8_go_15 rfl (fun r11 M10 => ?_)
    refine J_goto (tgt := 22) C dX8_go_18 (by decide) ?_
    exact b8_go_22 C RT n o0 h0 x1 r11 M10
theorem c8_go (l : Launch) (w : WE) (n : Nat) (o0 : Nat) (h0 : typ o0 = 8) (x1 : Int32) (M : Mem) : MC l w yX8_go (wz yX8_go cX8_go 4 (some .int)) rm8_go [.ref (wa w o0), .int x1] (s8_go n o0 x1 M) M :=
  mc_of_J (own := RX8) rfl (by decide) rfl rfl (Nat.le_of_ble_eq_true rfl) (fun _ _ C RT => b8_go C RT n o0 h0 x1 M)
theorem hdX8_go : yX8_go.cls = RX8 ∧ yOK yX8_go 1 := ⟨rfl, by decide, by decide, by decide⟩
abbrev rm8_stop : Room := { frames := 4, cells := 0, slots := 0, locals := 93 }
def s8_stop (n : Nat) (o0 : Nat) (M : Mem) : Option Res := cb (s2_canGoOn n (link o0 1) M) (fun r2 M1 => if r2 = 0 then (cb (s8_refuse o0 (3 : Int32) M1) (fun r4 M3 => some (r4, M3))) else (cb (s2_endRound n (link o0 1) M1) (fun r6 M5 => some (r6, M5))))
set_option maxRecDepth 100000 in
set_option maxHeartbeats 4000000 in
theorem b8_stop {w : WE} {g : GT} (C : CT w g RX8 cX8_stop rm8_stop 1) (RT : RTi w g cX8_stop .int) (n : Nat) (o0 : Nat) (h0 : typ o0 = 8) (M : Mem) : J w g (s8_stop n o0 M) M 0 [(0, .ref (wa w o0))] [] := by
  rw [s8_stop]
  refine J_aload_n C dX8_stop_0 rfl 0 rfl ?_
  refine J_getr C fk8_1 W2_38 h0 dX8_stop_1 ?_
  refine J_cvi (As := []) C (c2_canGoOn (gl g) w n (link o0 1) (tl_8_1 h0) M) (gd_v W3_101 W3_102 W3_103 W1_3 W3_104) rfl (by decide) (hdX2_canGoOn) (tl_8_1 h0) (by decide) (cl_2) rfl (Nat.le_of_ble_eq_true rfl) dX8_stop_4 rfl (fun r2 M1 => ?_)
  refine J_if_eq (tgt := 20) C dX8_stop_7 (by decide) (fun _ => ?_) (fun _ => ?_)
  · refine J_aload_n C dX8_stop_20 rfl 0 rfl ?_
    refine J_iconst C dX8_stop_21 kci_3 ?_
    refine J_cvi (As := [.int (3 : Int32)]) C (c8_refuse (gl g) w o0 h0 (3 : Int32) M1) (gd_v W2_66 W2_68 WP_0 W1_1 W2_69) rfl (by decide) (hdX8_refuse) h0 (by decide) (cl_8) rfl (Nat.le_of_ble_eq_true rfl) dX8_stop_22 rfl (fun r4 M3 => ?_)
    exact J_iret C RT rfl dX8_stop_25
  · refine J_aload_n C dX8_stop_10 rfl 0 rfl ?_
    refine J_getr C fk8_1 W2_38 h0 dX8_stop_11 ?_
    refine J_cvi (As := []) C (c2_endRound (gl g) w n (link o0 1) (tl_8_1 h0) M1) (gd_v W3_140 W3_141 W3_142 W1_3 W3_143) rfl (by decide) (hdX2_endRound) (tl_8_1 h0) (by decide) (cl_2) rfl (Nat.le_of_ble_eq_true rfl) dX8_stop_14 rfl (fun r6 M5 => ?_)
    refine J_goto (tgt := 25) C dX8_stop_17 (by decide) ?_
    exact J_iret C RT rfl dX8_stop_25
theorem c8_stop (l : Launch) (w : WE) (n : Nat) (o0 : Nat) (h0 : typ o0 = 8) (M : Mem) : MC l w yX8_stop (wz yX8_stop cX8_stop 1 (some .int)) rm8_stop [.ref (wa w o0)] (s8_stop n o0 M) M :=
  mc_of_J (own := RX8) rfl (by decide) rfl rfl (Nat.le_of_ble_eq_true rfl) (fun _ _ C RT => b8_stop C RT n o0 h0 M)
theorem hdX8_stop : yX8_stop.cls = RX8 ∧ yOK yX8_stop 0 := ⟨rfl, by decide, by decide, by decide⟩
abbrev rm8_sits : Room := { frames := 3, cells := 0, slots := 0, locals := 72 }
def s8_sits (n : Nat) (o0 : Nat) (x1 : Int32) (M : Mem) : Option Res := cb (s2_knowsIn (link o0 1) x1 M) (fun r2 M1 => if r2 = 0 then (cb (s8_refuse o0 (1 : Int32) M1) (fun r8 M7 => some (r8, M7))) else (cb (s5_seatAll n (link (link o0 1) 2) (link o0 1) M1) (fun _ M3 => cb (s5_placeOf (link (link o0 1) 2) x1 (link (link o0 1) 0) M3) (fun r6 M5 => some (r6, M5)))))
set_option maxRecDepth 100000 in
set_option maxHeartbeats 4000000 in
theorem b8_sits {w : WE} {g : GT} (C : CT w g RX8 cX8_sits rm8_sits 2) (RT : RTi w g cX8_sits .int) (n : Nat) (o0 : Nat) (h0 : typ o0 = 8) (x1 : Int32) (M : Mem) : J w g (s8_sits n o0 x1 M) M 0 [(0, .ref (wa w o0)), (1, .int x1)] [] := by
  rw [s8_sits]
  refine J_aload_n C dX8_sits_0 rfl 0 rfl ?_
  refine J_getr C fk8_1 W2_38 h0 dX8_sits_1 ?_
  refine J_iload_n C dX8_sits_4 rfl 1 rfl ?_
  refine J_cvi (As := [.int x1]) C (c2_knowsIn (gl g) w (link o0 1) (tl_8_1 h0) x1 M) (gd_v W3_212 W3_110 W3_111 W1_3 W3_112) rfl (by decide) (hdX2_knowsIn) (tl_8_1 h0) (by decide) (cl_2) rfl (Nat.le_of_ble_eq_true rfl) dX8_sits_5 rfl (fun r2 M1 => ?_)
  refine J_if_ne (tgt := 17) C dX8_sits_8 (by decide) (fun _ => ?_) (fun _ => ?_)
  · refine J_aload_n C dX8_sits_17 rfl 0 rfl ?_
    refine J_getr C fk8_1 W2_38 h0 dX8_sits_18 ?_
    refine J_getr C fk2_2 W1_173 (tl_8_1 h0) dX8_sits_21 ?_
    refine J_aload_n C dX8_sits_24 rfl 0 rfl ?_
    refine J_getr C fk8_1 W2_38 h0 dX8_sits_25 ?_
    refine J_cvv (As := [.ref (wa w (link o0 1))]) C (c5_seatAll (gl g) w n (link (link o0 1) 2) (tl_2_2 (tl_8_1 h0)) (link o0 1) (tl_8_1 h0) M1) (gd_v W3_213 W3_145 W3_146 W1_6 W3_147) rfl (by decide) (hdX5_seatAll) (tl_2_2 (tl_8_1 h0)) (by decide) (cl_5) rfl (Nat.le_of_ble_eq_true rfl) dX8_sits_28 rfl (fun r4 M3 => ?_)
    refine J_aload_n C dX8_sits_31 rfl 0 rfl ?_
    refine J_getr C fk8_1 W2_38 h0 dX8_sits_32 ?_
    refine J_getr C fk2_2 W1_173 (tl_8_1 h0) dX8_sits_35 ?_
    refine J_iload_n C dX8_sits_38 rfl 1 rfl ?_
    refine J_aload_n C dX8_sits_39 rfl 0 rfl ?_
    refine J_getr C fk8_1 W2_38 h0 dX8_sits_40 ?_
    refine J_getr C fk2_0 W1_164 (tl_8_1 h0) dX8_sits_43 ?_
    refine J_cvi (As := [.int x1, .ref (wa w (link (link o0 1) 0))]) C (c5_placeOf (gl g) w (link (link o0 1) 2) (tl_2_2 (tl_8_1 h0)) x1 (link (link o0 1) 0) (tl_2_0 (tl_8_1 h0)) M3) (gd_v W3_214 W3_215 W3_216 W1_6 W3_217) rfl (by decide) (hdX5_placeOf) (tl_2_2 (tl_8_1 h0)) (by decide) (cl_5) rfl (Nat.le_of_ble_eq_true rfl) dX8_sits_46 rfl (fun r6 M5 => ?_)
    exact J_iret C RT rfl dX8_sits_49
  · refine J_aload_n C dX8_sits_11 rfl 0 rfl ?_
    refine J_iconst C dX8_sits_12 kci_1 ?_
    refine J_cvi (As := [.int (1 : Int32)]) C (c8_refuse (gl g) w o0 h0 (1 : Int32) M1) (gd_v W2_66 W2_68 WP_0 W1_1 W2_69) rfl (by decide) (hdX8_refuse) h0 (by decide) (cl_8) rfl (Nat.le_of_ble_eq_true rfl) dX8_sits_13 rfl (fun r8 M7 => ?_)
    exact J_iret C RT rfl dX8_sits_16
theorem c8_sits (l : Launch) (w : WE) (n : Nat) (o0 : Nat) (h0 : typ o0 = 8) (x1 : Int32) (M : Mem) : MC l w yX8_sits (wz yX8_sits cX8_sits 2 (some .int)) rm8_sits [.ref (wa w o0), .int x1] (s8_sits n o0 x1 M) M :=
  mc_of_J (own := RX8) rfl (by decide) rfl rfl (Nat.le_of_ble_eq_true rfl) (fun _ _ C RT => b8_sits C RT n o0 h0 x1 M)
theorem hdX8_sits : yX8_sits.cls = RX8 ∧ yOK yX8_sits 1 := ⟨rfl, by decide, by decide, by decide⟩
abbrev rm8_would : Room := { frames := 3, cells := 0, slots := 0, locals := 72 }
def s8_would (n : Nat) (o0 : Nat) (x1 : Int32) (M : Mem) : Option Res := if x1 < 0 then (cb (s8_refuse o0 (2 : Int32) M) (fun r2 M1 => some (r2, M1))) else (if x1 ≤ (1 : Int32) then (cb (s5_seatAll n (link (link o0 1) 2) (link o0 1) M) (fun _ M3 => cb (s2_whoGoes n (link o0 1) M3) (fun r6 M5 => if x1 = 0 then (some (r6, M5)) else (cb (s2_losesChair (link o0 1) r6 M5) (fun r8 M7 => if r8 = 0 then (some ((-9 : Int32), M7)) else (cb (s4_leavingPlace n (link (link o0 1) 0) (M7 (link o0 1) 6) M7) (fun r10 M9 => some (r10, M9)))))))) else (cb (s8_refuse o0 (2 : Int32) M) (fun r12 M11 => some (r12, M11))))
set_option maxRecDepth 100000 in
set_option maxHeartbeats 4000000 in
theorem b8_would {w : WE} {g : GT} (C : CT w g RX8 cX8_would rm8_would 3) (RT : RTi w g cX8_would .int) (n : Nat) (o0 : Nat) (h0 : typ o0 = 8) (x1 : Int32) (M : Mem) : J w g (s8_would n o0 x1 M) M 0 [(0, .ref (wa w o0)), (1, .int x1)] [] := by
  rw [s8_would]
  refine J_iload_n C dX8_would_0 rfl 1 rfl ?_
  refine J_if_lt (tgt := 9) C dX8_would_1 (by decide) (fun _ => ?_) (fun _ => ?_)
  · refine J_aload_n C dX8_would_9 rfl 0 rfl ?_
    refine J_iconst C dX8_would_10 kci_2 ?_
    refine J_cvi (As := [.int (2 : Int32)]) C (c8_refuse (gl g) w o0 h0 (2 : Int32) M) (gd_v W2_66 W2_68 WP_0 W1_1 W2_69) rfl (by decide) (hdX8_refuse) h0 (by decide) (cl_8) rfl (Nat.le_of_ble_eq_true rfl) dX8_would_11 rfl (fun r2 M1 => ?_)
    exact J_iret C RT rfl dX8_would_14
  · refine J_iload_n C dX8_would_4 rfl 1 rfl ?_
    refine J_iconst C dX8_would_5 kci_1 ?_
    refine J_icmp_le (tgt := 15) C dX8_would_6 (by decide) (fun _ => ?_) (fun _ => ?_)
    · refine J_aload_n C dX8_would_15 rfl 0 rfl ?_
      refine J_getr C fk8_1 W2_38 h0 dX8_would_16 ?_
      refine J_getr C fk2_2 W1_173 (tl_8_1 h0) dX8_would_19 ?_
      refine J_aload_n C dX8_would_22 rfl 0 rfl ?_
      refine J_getr C fk8_1 W2_38 h0 dX8_would_23 ?_
      refine J_cvv (As := [.ref (wa w (link o0 1))]) C (c5_seatAll (gl g) w n (link (link o0 1) 2) (tl_2_2 (tl_8_1 h0)) (link o0 1) (tl_8_1 h0) M) (gd_v W3_213 W3_145 W3_146 W1_6 W3_147) rfl (by decide) (hdX5_seatAll) (tl_2_2 (tl_8_1 h0)) (by decide) (cl_5) rfl (Nat.le_of_ble_eq_true rfl) dX8_would_26 rfl (fun r4 M3 => ?_)
      refine J_aload_n C dX8_would_29 rfl 0 rfl ?_
      refine J_getr C fk8_1 W2_38 h0 dX8_would_30 ?_
      refine J_cvi (As := []) C (c2_whoGoes (gl g) w n (link o0 1) (tl_8_1 h0) M3) (gd_v W3_223 W3_168 W3_169 W1_3 W3_170) rfl (by decide) (hdX2_whoGoes) (tl_8_1 h0) (by decide) (cl_2) rfl (Nat.le_of_ble_eq_true rfl) dX8_would_33 rfl (fun r6 M5 => ?_)
      refine J_istore_n (lv' := [(2, .int r6), (0, .ref (wa w o0)), (1, .int x1)]) C dX8_would_36 rfl (by decide) rfl ?_
      refine J_iload_n C dX8_would_37 rfl 2 rfl ?_
      refine J_if_ne (tgt := 43) C dX8_would_38 (by decide) (fun _ => ?_) (fun _ => ?_)
      · refine J_aload_n C dX8_would_43 rfl 1 rfl ?_
        refine J_getr C fk8_1 W2_38 h0 dX8_would_44 ?_
        refine J_iload_n C dX8_would_47 rfl 0 rfl ?_
        refine J_cvi (As := [.int r6]) C (c2_losesChair (gl g) w (link o0 1) (tl_8_1 h0) r6 M5) (gd_v W3_224 W3_182 W3_183 W1_3 W3_184) rfl (by decide) (hdX2_losesChair) (tl_8_1 h0) (by decide) (cl_2) rfl (Nat.le_of_ble_eq_true rfl) dX8_would_48 rfl (fun r8 M7 => ?_)
        refine J_if_eq (tgt := 74) C dX8_would_51 (by decide) (fun _ => ?_) (fun _ => ?_)
        · refine J_bipush C dX8_would_74 kcb_m9 ?_
          exact J_iret C RT rfl dX8_would_76
        · refine J_aload_n C dX8_would_54 rfl 1 rfl ?_
          refine J_getr C fk8_1 W2_38 h0 dX8_would_55 ?_
          refine J_getr C fk2_0 W1_164 (tl_8_1 h0) dX8_would_58 ?_
          refine J_aload_n C dX8_would_61 rfl 1 rfl ?_
          refine J_getr C fk8_1 W2_38 h0 dX8_would_62 ?_
          refine J_geti C fk2_6 W1_184 (tl_8_1 h0) dX8_would_65 ?_
          refine J_cvi (As := [.int (M7 (link o0 1) 6)]) C (c4_leavingPlace (gl g) w n (link (link o0 1) 0) (tl_2_0 (tl_8_1 h0)) (M7 (link o0 1) 6) M7) (gd_v W3_225 W3_186 W3_187 W1_4 W3_188) rfl (by decide) (hdX4_leavingPlace) (tl_2_0 (tl_8_1 h0)) (by decide) (cl_4) rfl (Nat.le_of_ble_eq_true rfl) dX8_would_68 rfl (fun r10 M9 => ?_)
          refine J_goto (tgt := 76) C dX8_would_71 (by decide) ?_
          exact J_iret C RT rfl dX8_would_76
      · refine J_iload_n C dX8_would_41 rfl 0 rfl ?_
        exact J_iret C RT rfl dX8_would_42
    · refine J_aload_n C dX8_would_9 rfl 0 rfl ?_
      refine J_iconst C dX8_would_10 kci_2 ?_
      refine J_cvi (As := [.int (2 : Int32)]) C (c8_refuse (gl g) w o0 h0 (2 : Int32) M) (gd_v W2_66 W2_68 WP_0 W1_1 W2_69) rfl (by decide) (hdX8_refuse) h0 (by decide) (cl_8) rfl (Nat.le_of_ble_eq_true rfl) dX8_would_11 rfl (fun r12 M11 => ?_)
      exact J_iret C RT rfl dX8_would_14
theorem c8_would (l : Launch) (w : WE) (n : Nat) (o0 : Nat) (h0 : typ o0 = 8) (x1 : Int32) (M : Mem) : MC l w yX8_would (wz yX8_would cX8_would 3 (some .int)) rm8_would [.ref (wa w o0), .int x1] (s8_would n o0 x1 M) M :=
  mc_of_J (own := RX8) rfl (by decide) rfl rfl (Nat.le_of_ble_eq_true rfl) (fun _ _ C RT => b8_would C RT n o0 h0 x1 M)
theorem hdX8_would : yX8_would.cls = RX8 ∧ yOK yX8_would 1 := ⟨rfl, by decide, by decide, by decide⟩
abbrev rm8_odds : Room := { frames := 5, cells := 0, slots := 0, locals := 117 }
def s8_odds_23 (n : Nat) (o0 : Nat) (x1 : Int32) (x2 : Int32) (t0 : Int32) (M : Mem) : Option Res := if t0 = 0 then (if inB x1 (alen (link (link o0 1) 3)) then cb (s0_oddsAt n (link o0 0) x1 x2 (M (link (link (link o0 1) 3) x1.toNatClampNeg) 5) M) (fun r5 M4 => some (r5, M4)) else none) else (cb (s8_refuse o0 t0 M) (fun r7 M6 => some (r7, M6)))
set_option maxRecDepth 100000 in
set_option maxHeartbeats 4000000 in
theorem b8_odds_23 {w : WE} {g : GT} (C : CT w g RX8 cX8_odds rm8_odds 4) (RT : RTi w g cX8_odds .int) (n : Nat) (o0 : Nat) (h0 : typ o0 = 8) (x1 : Int32) (x2 : Int32) (t0 : Int32) (M : Mem) : J w g (s8_odds_23 n o0 x1 x2 t0 M) M 23 [(0, .ref (wa w o0)), (1, .int x1), (2, .int x2)] [.int t0] := by
  rw [s8_odds_23]
  refine J_istore_n (lv' := [(3, .int t0), (0, .ref (wa w o0)), (1, .int x1), (2, .int x2)]) C dX8_odds_23 rfl (by decide) rfl ?_
  refine J_iload_n C dX8_odds_24 rfl 0 rfl ?_
  refine J_if_eq (tgt := 36) C dX8_odds_25 (by decide) (fun _ => ?_) (fun _ => ?_)
  · refine J_aload_n C dX8_odds_36 rfl 1 rfl ?_
    refine J_getr C fk8_0 W2_37 h0 dX8_odds_37 ?_
    refine J_iload_n C dX8_odds_40 rfl 2 rfl ?_
    refine J_iload_n C dX8_odds_41 rfl 3 rfl ?_
    refine J_aload_n C dX8_odds_42 rfl 1 rfl ?_
    refine J_getr C fk8_1 W2_38 h0 dX8_odds_43 ?_
    refine J_getr C fk2_3 W1_177 (tl_8_1 h0) dX8_odds_46 ?_
    refine J_iload_n C dX8_odds_49 rfl 2 rfl ?_
    refine J_aaload C (tl_2_3 (tl_8_1 h0)) dX8_odds_50 (fun hb3 => ?_)
    refine J_geti C fk7_5 W1_137 (t_wk (tl_2_3 (tl_8_1 h0)) hb3) dX8_odds_51 ?_
    refine J_cvi (As := [.int x1, .int x2, .int (M (link (link (link o0 1) 3) x1.toNatClampNeg) 5)]) C (c0_oddsAt (gl g) w n (link o0 0) (tl_8_0 h0) x1 x2 (M (link (link (link o0 1) 3) x1.toNatClampNeg) 5) M) (gd_v W3_230 W3_231 W3_232 W1_2 W3_233) rfl (by decide) (hdX0_oddsAt) (tl_8_0 h0) (by decide) (cl_0) rfl (Nat.le_of_ble_eq_true rfl) dX8_odds_54 rfl (fun r5 M4 => ?_)
    exact J_iret C RT rfl dX8_odds_57
  · refine J_aload_n C dX8_odds_28 rfl 1 rfl ?_
    refine J_iload_n C dX8_odds_29 rfl 0 rfl ?_
    refine J_cvi (As := [.int t0]) C (c8_refuse (gl g) w o0 h0 t0 M) (gd_v W2_66 W2_68 WP_0 W1_1 W2_69) rfl (by decide) (hdX8_refuse) h0 (by decide) (cl_8) rfl (Nat.le_of_ble_eq_true rfl) dX8_odds_30 rfl (fun r7 M6 => ?_)
    refine J_goto (tgt := 57) C dX8_odds_33 (by decide) ?_
    exact J_iret C RT rfl dX8_odds_57
def s8_odds (n : Nat) (o0 : Nat) (x1 : Int32) (x2 : Int32) (M : Mem) : Option Res := cb (s2_knowsIn (link o0 1) x1 M) (fun r2 M1 => if r2 = 0 then (s8_odds_23 n o0 x1 x2 (1 : Int32) M1) else (cb (s8_whyNotWithin x2 (1 : Int32) (200 : Int32) M1) (fun r9 M8 => s8_odds_23 n o0 x1 x2 r9 M8)))
set_option maxRecDepth 100000 in
set_option maxHeartbeats 4000000 in
theorem b8_odds {w : WE} {g : GT} (C : CT w g RX8 cX8_odds rm8_odds 4) (RT : RTi w g cX8_odds .int) (n : Nat) (o0 : Nat) (h0 : typ o0 = 8) (x1 : Int32) (x2 : Int32) (M : Mem) : J w g (s8_odds n o0 x1 x2 M) M 0 [(0, .ref (wa w o0)), (1, .int x1), (2, .int x2)] [] := by
  rw [s8_odds]
  refine J_aload_n C dX8_odds_0 rfl 0 rfl ?_
  refine J_getr C fk8_1 W2_38 h0 dX8_odds_1 ?_
  refine J_iload_n C dX8_odds_4 rfl 1 rfl ?_
  refine J_cvi (As := [.int x1]) C (c2_knowsIn (gl g) w (link o0 1) (tl_8_1 h0) x1 M) (gd_v W3_212 W3_110 W3_111 W1_3 W3_112) rfl (by decide) (hdX2_knowsIn) (tl_8_1 h0) (by decide) (cl_2) rfl (Nat.le_of_ble_eq_true rfl) dX8_odds_5 rfl (fun r2 M1 => ?_)
  refine J_if_eq (tgt := 22) C dX8_odds_8 (by decide) (fun _ => ?_) (fun _ => ?_)
  · refine J_iconst C dX8_odds_22 kci_1 ?_
    exact b8_odds_23 C RT n o0 h0 x1 x2 (1 : Int32) M1
  · refine J_iload_n C dX8_odds_11 rfl 2 rfl ?_
    refine J_iconst C dX8_odds_12 kci_1 ?_
    refine J_sipush C dX8_odds_13 kcs_200 ?_
    refine J_csi (As := [.int x2, .int (1 : Int32), .int (200 : Int32)]) (dm := 0) C (c8_whyNotWithin (gl g) w x2 (1 : Int32) (200 : Int32) M1) (gd_s W3_66 W2_203 W1_1 W2_204) rfl (by decide) (hdX8_whyNotWithin.2) rfl (Nat.le_of_ble_eq_true rfl) dX8_odds_16 rfl (fun r9 M8 => ?_)
    refine J_goto (tgt := 23) C dX8_odds_19 (by decide) ?_
    exact b8_odds_23 C RT n o0 h0 x1 x2 r9 M8
theorem c8_odds (l : Launch) (w : WE) (n : Nat) (o0 : Nat) (h0 : typ o0 = 8) (x1 : Int32) (x2 : Int32) (M : Mem) : MC l w yX8_odds (wz yX8_odds cX8_odds 4 (some .int)) rm8_odds [.ref (wa w o0), .int x1, .int x2] (s8_odds n o0 x1 x2 M) M :=
  mc_of_J (own := RX8) rfl (by decide) rfl rfl (Nat.le_of_ble_eq_true rfl) (fun _ _ C RT => b8_odds C RT n o0 h0 x1 x2 M)
theorem hdX8_odds : yX8_odds.cls = RX8 ∧ yOK yX8_odds 2 := ⟨rfl, by decide, by decide, by decide⟩
abbrev rm8_fair : Room := { frames := 6, cells := 0, slots := 0, locals := 139 }
def s8_fair (n : Nat) (o0 : Nat) (x1 : Int32) (M : Mem) : Option Res := cb (s8_whyNotWithin x1 (1 : Int32) (200 : Int32) M) (fun r2 M1 => if r2 = 0 then (cb (s0_unfairness n (link o0 0) x1 M1) (fun r4 M3 => some (r4, M3))) else (cb (s8_refuse o0 r2 M1) (fun r6 M5 => some (r6, M5))))
set_option maxRecDepth 100000 in
set_option maxHeartbeats 4000000 in
theorem b8_fair {w : WE} {g : GT} (C : CT w g RX8 cX8_fair rm8_fair 3) (RT : RTi w g cX8_fair .int) (n : Nat) (o0 : Nat) (h0 : typ o0 = 8) (x1 : Int32) (M : Mem) : J w g (s8_fair n o0 x1 M) M 0 [(0, .ref (wa w o0)), (1, .int x1)] [] := by
  rw [s8_fair]
  refine J_iload_n C dX8_fair_0 rfl 1 rfl ?_
  refine J_iconst C dX8_fair_1 kci_1 ?_
  refine J_sipush C dX8_fair_2 kcs_200 ?_
  refine J_csi (As := [.int x1, .int (1 : Int32), .int (200 : Int32)]) (dm := 0) C (c8_whyNotWithin (gl g) w x1 (1 : Int32) (200 : Int32) M) (gd_s W3_66 W2_203 W1_1 W2_204) rfl (by decide) (hdX8_whyNotWithin.2) rfl (Nat.le_of_ble_eq_true rfl) dX8_fair_5 rfl (fun r2 M1 => ?_)
  refine J_istore_n (lv' := [(2, .int r2), (0, .ref (wa w o0)), (1, .int x1)]) C dX8_fair_8 rfl (by decide) rfl ?_
  refine J_iload_n C dX8_fair_9 rfl 0 rfl ?_
  refine J_if_eq (tgt := 21) C dX8_fair_10 (by decide) (fun _ => ?_) (fun _ => ?_)
  · refine J_aload_n C dX8_fair_21 rfl 1 rfl ?_
    refine J_getr C fk8_0 W2_37 h0 dX8_fair_22 ?_
    refine J_iload_n C dX8_fair_25 rfl 2 rfl ?_
    refine J_cvi (As := [.int x1]) C (c0_unfairness (gl g) w n (link o0 0) (tl_8_0 h0) x1 M1) (gd_v W4_6 W4_7 W4_8 W1_2 W4_9) rfl (by decide) (hdX0_unfairness) (tl_8_0 h0) (by decide) (cl_0) rfl (Nat.le_of_ble_eq_true rfl) dX8_fair_26 rfl (fun r4 M3 => ?_)
    exact J_iret C RT rfl dX8_fair_29
  · refine J_aload_n C dX8_fair_13 rfl 1 rfl ?_
    refine J_iload_n C dX8_fair_14 rfl 0 rfl ?_
    refine J_cvi (As := [.int r2]) C (c8_refuse (gl g) w o0 h0 r2 M1) (gd_v W2_66 W2_68 WP_0 W1_1 W2_69) rfl (by decide) (hdX8_refuse) h0 (by decide) (cl_8) rfl (Nat.le_of_ble_eq_true rfl) dX8_fair_15 rfl (fun r6 M5 => ?_)
    refine J_goto (tgt := 29) C dX8_fair_18 (by decide) ?_
    exact J_iret C RT rfl dX8_fair_29
theorem c8_fair (l : Launch) (w : WE) (n : Nat) (o0 : Nat) (h0 : typ o0 = 8) (x1 : Int32) (M : Mem) : MC l w yX8_fair (wz yX8_fair cX8_fair 3 (some .int)) rm8_fair [.ref (wa w o0), .int x1] (s8_fair n o0 x1 M) M :=
  mc_of_J (own := RX8) rfl (by decide) rfl rfl (Nat.le_of_ble_eq_true rfl) (fun _ _ C RT => b8_fair C RT n o0 h0 x1 M)
theorem hdX8_fair : yX8_fair.cls = RX8 ∧ yOK yX8_fair 1 := ⟨rfl, by decide, by decide, by decide⟩
abbrev rm8_bestSlow : Room := { frames := 6, cells := 0, slots := 0, locals := 143 }
def s8_bestSlow_23 (n : Nat) (o0 : Nat) (x1 : Int32) (x2 : Int32) (t0 : Int32) (M : Mem) : Option Res := if t0 = 0 then (cb (s0_slowOfGreatestOdds n (link o0 0) x1 x2 M) (fun r4 M3 => some (r4, M3))) else (cb (s8_refuse o0 t0 M) (fun r6 M5 => some (r6, M5)))
set_option maxRecDepth 100000 in
set_option maxHeartbeats 4000000 in
theorem b8_bestSlow_23 {w : WE} {g : GT} (C : CT w g RX8 cX8_bestSlow rm8_bestSlow 4) (RT : RTi w g cX8_bestSlow .int) (n : Nat) (o0 : Nat) (h0 : typ o0 = 8) (x1 : Int32) (x2 : Int32) (t0 : Int32) (M : Mem) : J w g (s8_bestSlow_23 n o0 x1 x2 t0 M) M 23 [(0, .ref (wa w o0)), (1, .int x1), (2, .int x2)] [.int t0] := by
  rw [s8_bestSlow_23]
  refine J_istore_n (lv' := [(3, .int t0), (0, .ref (wa w o0)), (1, .int x1), (2, .int x2)]) C dX8_bestSlow_23 rfl (by decide) rfl ?_
  refine J_iload_n C dX8_bestSlow_24 rfl 0 rfl ?_
  refine J_if_eq (tgt := 36) C dX8_bestSlow_25 (by decide) (fun _ => ?_) (fun _ => ?_)
  · refine J_aload_n C dX8_bestSlow_36 rfl 1 rfl ?_
    refine J_getr C fk8_0 W2_37 h0 dX8_bestSlow_37 ?_
    refine J_iload_n C dX8_bestSlow_40 rfl 2 rfl ?_
    refine J_iload_n C dX8_bestSlow_41 rfl 3 rfl ?_
    refine J_cvi (As := [.int x1, .int x2]) C (c0_slowOfGreatestOdds (gl g) w n (link o0 0) (tl_8_0 h0) x1 x2 M) (gd_v W4_24 W4_25 W4_26 W1_2 W4_27) rfl (by decide) (hdX0_slowOfGreatestOdds) (tl_8_0 h0) (by decide) (cl_0) rfl (Nat.le_of_ble_eq_true rfl) dX8_bestSlow_42 rfl (fun r4 M3 => ?_)
    exact J_iret C RT rfl dX8_bestSlow_45
  · refine J_aload_n C dX8_bestSlow_28 rfl 1 rfl ?_
    refine J_iload_n C dX8_bestSlow_29 rfl 0 rfl ?_
    refine J_cvi (As := [.int t0]) C (c8_refuse (gl g) w o0 h0 t0 M) (gd_v W2_66 W2_68 WP_0 W1_1 W2_69) rfl (by decide) (hdX8_refuse) h0 (by decide) (cl_8) rfl (Nat.le_of_ble_eq_true rfl) dX8_bestSlow_30 rfl (fun r6 M5 => ?_)
    refine J_goto (tgt := 45) C dX8_bestSlow_33 (by decide) ?_
    exact J_iret C RT rfl dX8_bestSlow_45
def s8_bestSlow (n : Nat) (o0 : Nat) (x1 : Int32) (x2 : Int32) (M : Mem) : Option Res := cb (s2_knows (link o0 1) x1 M) (fun r2 M1 => if r2 = 0 then (s8_bestSlow_23 n o0 x1 x2 (1 : Int32) M1) else (cb (s8_whyNotWithin x2 (1 : Int32) (200 : Int32) M1) (fun r8 M7 => s8_bestSlow_23 n o0 x1 x2 r8 M7)))
set_option maxRecDepth 100000 in
set_option maxHeartbeats 4000000 in
theorem b8_bestSlow {w : WE} {g : GT} (C : CT w g RX8 cX8_bestSlow rm8_bestSlow 4) (RT : RTi w g cX8_bestSlow .int) (n : Nat) (o0 : Nat) (h0 : typ o0 = 8) (x1 : Int32) (x2 : Int32) (M : Mem) : J w g (s8_bestSlow n o0 x1 x2 M) M 0 [(0, .ref (wa w o0)), (1, .int x1), (2, .int x2)] [] := by
  rw [s8_bestSlow]
  refine J_aload_n C dX8_bestSlow_0 rfl 0 rfl ?_
  refine J_getr C fk8_1 W2_38 h0 dX8_bestSlow_1 ?_
  refine J_iload_n C dX8_bestSlow_4 rfl 1 rfl ?_
  refine J_cvi (As := [.int x1]) C (c2_knows (gl g) w (link o0 1) (tl_8_1 h0) x1 M) (gd_v W3_43 W3_44 W3_45 W1_3 W3_46) rfl (by decide) (hdX2_knows) (tl_8_1 h0) (by decide) (cl_2) rfl (Nat.le_of_ble_eq_true rfl) dX8_bestSlow_5 rfl (fun r2 M1 => ?_)
  refine J_if_eq (tgt := 22) C dX8_bestSlow_8 (by decide) (fun _ => ?_) (fun _ => ?_)
  · refine J_iconst C dX8_bestSlow_22 kci_1 ?_
    exact b8_bestSlow_23 C RT n o0 h0 x1 x2 (1 : Int32) M1
  · refine J_iload_n C dX8_bestSlow_11 rfl 2 rfl ?_
    refine J_iconst C dX8_bestSlow_12 kci_1 ?_
    refine J_sipush C dX8_bestSlow_13 kcs_200 ?_
    refine J_csi (As := [.int x2, .int (1 : Int32), .int (200 : Int32)]) (dm := 0) C (c8_whyNotWithin (gl g) w x2 (1 : Int32) (200 : Int32) M1) (gd_s W3_66 W2_203 W1_1 W2_204) rfl (by decide) (hdX8_whyNotWithin.2) rfl (Nat.le_of_ble_eq_true rfl) dX8_bestSlow_16 rfl (fun r8 M7 => ?_)
    refine J_goto (tgt := 23) C dX8_bestSlow_19 (by decide) ?_
    exact b8_bestSlow_23 C RT n o0 h0 x1 x2 r8 M7
theorem c8_bestSlow (l : Launch) (w : WE) (n : Nat) (o0 : Nat) (h0 : typ o0 = 8) (x1 : Int32) (x2 : Int32) (M : Mem) : MC l w yX8_bestSlow (wz yX8_bestSlow cX8_bestSlow 4 (some .int)) rm8_bestSlow [.ref (wa w o0), .int x1, .int x2] (s8_bestSlow n o0 x1 x2 M) M :=
  mc_of_J (own := RX8) rfl (by decide) rfl rfl (Nat.le_of_ble_eq_true rfl) (fun _ _ C RT => b8_bestSlow C RT n o0 h0 x1 x2 M)
theorem hdX8_bestSlow : yX8_bestSlow.cls = RX8 ∧ yOK yX8_bestSlow 2 := ⟨rfl, by decide, by decide, by decide⟩
abbrev rm8_cheat : Room := { frames := 6, cells := 0, slots := 0, locals := 142 }
def s8_cheat_23 (n : Nat) (o0 : Nat) (x1 : Int32) (x2 : Int32) (t0 : Int32) (M : Mem) : Option Res := if t0 = 0 then (cb (s0_gainOfCheating n (link o0 0) x1 x2 M) (fun r4 M3 => some (r4, M3))) else (cb (s8_refuse o0 t0 M) (fun r6 M5 => some (r6, M5)))
set_option maxRecDepth 100000 in
set_option maxHeartbeats 4000000 in
theorem b8_cheat_23 {w : WE} {g : GT} (C : CT w g RX8 cX8_cheat rm8_cheat 4) (RT : RTi w g cX8_cheat .int) (n : Nat) (o0 : Nat) (h0 : typ o0 = 8) (x1 : Int32) (x2 : Int32) (t0 : Int32) (M : Mem) : J w g (s8_cheat_23 n o0 x1 x2 t0 M) M 23 [(0, .ref (wa w o0)), (1, .int x1), (2, .int x2)] [.int t0] := by
  rw [s8_cheat_23]
  refine J_istore_n (lv' := [(3, .int t0), (0, .ref (wa w o0)), (1, .int x1), (2, .int x2)]) C dX8_cheat_23 rfl (by decide) rfl ?_
  refine J_iload_n C dX8_cheat_24 rfl 0 rfl ?_
  refine J_if_eq (tgt := 36) C dX8_cheat_25 (by decide) (fun _ => ?_) (fun _ => ?_)
  · refine J_aload_n C dX8_cheat_36 rfl 1 rfl ?_
    refine J_getr C fk8_0 W2_37 h0 dX8_cheat_37 ?_
    refine J_iload_n C dX8_cheat_40 rfl 2 rfl ?_
    refine J_iload_n C dX8_cheat_41 rfl 3 rfl ?_
    refine J_cvi (As := [.int x1, .int x2]) C (c0_gainOfCheating (gl g) w n (link o0 0) (tl_8_0 h0) x1 x2 M) (gd_v W4_33 W4_34 W4_35 W1_2 W4_36) rfl (by decide) (hdX0_gainOfCheating) (tl_8_0 h0) (by decide) (cl_0) rfl (Nat.le_of_ble_eq_true rfl) dX8_cheat_42 rfl (fun r4 M3 => ?_)
    exact J_iret C RT rfl dX8_cheat_45
  · refine J_aload_n C dX8_cheat_28 rfl 1 rfl ?_
    refine J_iload_n C dX8_cheat_29 rfl 0 rfl ?_
    refine J_cvi (As := [.int t0]) C (c8_refuse (gl g) w o0 h0 t0 M) (gd_v W2_66 W2_68 WP_0 W1_1 W2_69) rfl (by decide) (hdX8_refuse) h0 (by decide) (cl_8) rfl (Nat.le_of_ble_eq_true rfl) dX8_cheat_30 rfl (fun r6 M5 => ?_)
    refine J_goto (tgt := 45) C dX8_cheat_33 (by decide) ?_
    exact J_iret C RT rfl dX8_cheat_45
def s8_cheat (n : Nat) (o0 : Nat) (x1 : Int32) (x2 : Int32) (M : Mem) : Option Res := cb (s2_knows (link o0 1) x1 M) (fun r2 M1 => if r2 = 0 then (s8_cheat_23 n o0 x1 x2 (1 : Int32) M1) else (cb (s8_whyNotWithin x2 (1 : Int32) (200 : Int32) M1) (fun r8 M7 => s8_cheat_23 n o0 x1 x2 r8 M7)))
set_option maxRecDepth 100000 in
set_option maxHeartbeats 4000000 in
theorem b8_cheat {w : WE} {g : GT} (C : CT w g RX8 cX8_cheat rm8_cheat 4) (RT : RTi w g cX8_cheat .int) (n : Nat) (o0 : Nat) (h0 : typ o0 = 8) (x1 : Int32) (x2 : Int32) (M : Mem) : J w g (s8_cheat n o0 x1 x2 M) M 0 [(0, .ref (wa w o0)), (1, .int x1), (2, .int x2)] [] := by
  rw [s8_cheat]
  refine J_aload_n C dX8_cheat_0 rfl 0 rfl ?_
  refine J_getr C fk8_1 W2_38 h0 dX8_cheat_1 ?_
  refine J_iload_n C dX8_cheat_4 rfl 1 rfl ?_
  refine J_cvi (As := [.int x1]) C (c2_knows (gl g) w (link o0 1) (tl_8_1 h0) x1 M) (gd_v W3_43 W3_44 W3_45 W1_3 W3_46) rfl (by decide) (hdX2_knows) (tl_8_1 h0) (by decide) (cl_2) rfl (Nat.le_of_ble_eq_true rfl) dX8_cheat_5 rfl (fun r2 M1 => ?_)
  refine J_if_eq (tgt := 22) C dX8_cheat_8 (by decide) (fun _ => ?_) (fun _ => ?_)
  · refine J_iconst C dX8_cheat_22 kci_1 ?_
    exact b8_cheat_23 C RT n o0 h0 x1 x2 (1 : Int32) M1
  · refine J_iload_n C dX8_cheat_11 rfl 2 rfl ?_
    refine J_iconst C dX8_cheat_12 kci_1 ?_
    refine J_sipush C dX8_cheat_13 kcs_200 ?_
    refine J_csi (As := [.int x2, .int (1 : Int32), .int (200 : Int32)]) (dm := 0) C (c8_whyNotWithin (gl g) w x2 (1 : Int32) (200 : Int32) M1) (gd_s W3_66 W2_203 W1_1 W2_204) rfl (by decide) (hdX8_whyNotWithin.2) rfl (Nat.le_of_ble_eq_true rfl) dX8_cheat_16 rfl (fun r8 M7 => ?_)
    refine J_goto (tgt := 23) C dX8_cheat_19 (by decide) ?_
    exact b8_cheat_23 C RT n o0 h0 x1 x2 r8 M7
theorem c8_cheat (l : Launch) (w : WE) (n : Nat) (o0 : Nat) (h0 : typ o0 = 8) (x1 : Int32) (x2 : Int32) (M : Mem) : MC l w yX8_cheat (wz yX8_cheat cX8_cheat 4 (some .int)) rm8_cheat [.ref (wa w o0), .int x1, .int x2] (s8_cheat n o0 x1 x2 M) M :=
  mc_of_J (own := RX8) rfl (by decide) rfl rfl (Nat.le_of_ble_eq_true rfl) (fun _ _ C RT => b8_cheat C RT n o0 h0 x1 x2 M)
theorem hdX8_cheat : yX8_cheat.cls = RX8 ∧ yOK yX8_cheat 2 := ⟨rfl, by decide, by decide, by decide⟩
