abbrev rm1_at : Room := { frames := 0, cells := 0, slots := 0, locals := 0 }
def s1_at (o0 : Nat) (x1 : Int32) (M : Mem) : Option Res := if x1 < 0 then (some ((-9 : Int32), M)) else (if (M o0 1) ≤ x1 then (some ((-9 : Int32), M)) else (if inB x1 (alen (link o0 0)) then some (M (link o0 0) x1.toNatClampNeg, M) else none))
set_option maxRecDepth 100000 in
set_option maxHeartbeats 4000000 in
theorem b1_at {w : WE} {g : GT} (C : CT w g RX1 cX1_at rm1_at 2) (RT : RTi w g cX1_at .int) (o0 : Nat) (h0 : typ o0 = 1) (x1 : Int32) (M : Mem) : J w g (s1_at o0 x1 M) M 0 [(0, .ref (wa w o0)), (1, .int x1)] [] := by
  rw [s1_at]
  refine J_iload_n C dX1_at_0 rfl 1 rfl ?_
  refine J_if_lt (tgt := 21) C dX1_at_1 (by decide) (fun _ => ?_) (fun _ => ?_)
  · refine J_bipush C dX1_at_21 kcb_m9 ?_
    exact J_iret C RT rfl dX1_at_23
  · refine J_iload_n C dX1_at_4 rfl 1 rfl ?_
    refine J_aload_n C dX1_at_5 rfl 0 rfl ?_
    refine J_geti C fk1_1 W2_1 h0 dX1_at_6 ?_
    refine J_icmp_ge (tgt := 21) C dX1_at_9 (by decide) (fun _ => ?_) (fun _ => ?_)
    · refine J_bipush C dX1_at_21 kcb_m9 ?_
      exact J_iret C RT rfl dX1_at_23
    · refine J_aload_n C dX1_at_12 rfl 0 rfl ?_
      refine J_getr C fk1_0 W2_0 h0 dX1_at_13 ?_
      refine J_iload_n C dX1_at_16 rfl 1 rfl ?_
      refine J_aload_ C (tl_1_0 h0) dX1_at_17 ?_
      refine J_goto (tgt := 23) C dX1_at_18 (by decide) ?_
      exact J_iret C RT rfl dX1_at_23
theorem c1_at (l : Launch) (w : WE) (o0 : Nat) (h0 : typ o0 = 1) (x1 : Int32) (M : Mem) : MC l w yX1_at (wz yX1_at cX1_at 2 (some .int)) rm1_at [.ref (wa w o0), .int x1] (s1_at o0 x1 M) M :=
  mc_of_J (own := RX1) rfl (by decide) rfl rfl (Nat.le_of_ble_eq_true rfl) (fun _ _ C RT => b1_at C RT o0 h0 x1 M)
theorem hdX1_at : yX1_at.cls = RX1 ∧ yOK yX1_at 1 := ⟨rfl, by decide, by decide, by decide⟩
abbrev rm0_firstWrong : Room := { frames := 3, cells := 0, slots := 0, locals := 83 }
def s0_firstWrong_27 (n : Nat) (o0 : Nat) (x1 : Int32) (o2 : Nat) : Nat → Int32 → Mem → Option Res
  | 0, _, _ => none
  | f + 1, x3, M => if (M o2 1) ≤ x3 then (some ((-9 : Int32), M)) else (cb (s2_walkAll n (link o0 1) M) (fun _ M5 => if inB x1 (alen (link (link o0 1) 3)) then cb (s1_at o2 x3 M5) (fun r9 M8 => if (M5 (link (link (link o0 1) 3) x1.toNatClampNeg) 0) = r9 then (ilet (x3 + 1) (fun v10 => s0_firstWrong_27 n o0 x1 o2 f v10 M8)) else (some (x3, M8))) else none))
set_option maxRecDepth 100000 in
set_option maxHeartbeats 4000000 in
theorem b0_firstWrong_27 {w : WE} {g : GT} (C : CT w g RX0 cX0_firstWrong rm0_firstWrong 4) (RT : RTi w g cX0_firstWrong .int) (n : Nat) (o0 : Nat) (h0 : typ o0 = 0) (x1 : Int32) (o2 : Nat) (h2 : typ o2 = 1) : ∀ (f : Nat) (x3 : Int32) (M : Mem), J w g (s0_firstWrong_27 n o0 x1 o2 f x3 M) M 27 [(0, .ref (wa w o0)), (1, .int x1), (2, .ref (wa w o2)), (3, .int x3)] [] := by
  intro f
  induction f with
  | zero =>
    intro x3 M
    rw [s0_firstWrong_27]
    exact J_none
  | succ f ih =>
    intro x3 M
    rw [s0_firstWrong_27]
    refine J_iload_n C dX0_firstWrong_27 rfl 3 rfl ?_
    refine J_aload_n C dX0_firstWrong_28 rfl 2 rfl ?_
    refine J_geti C fk1_1 W2_2 h2 dX0_firstWrong_29 ?_
    refine J_icmp_ge (tgt := 70) C dX0_firstWrong_32 (by decide) (fun _ => ?_) (fun _ => ?_)
    · refine J_bipush C dX0_firstWrong_70 kcb_m9 ?_
      exact J_iret C RT rfl dX0_firstWrong_72
    · refine J_aload_n C dX0_firstWrong_35 rfl 0 rfl ?_
      refine J_getr C fk0_1 W1_217 h0 dX0_firstWrong_36 ?_
      refine J_cvv (As := []) C (c2_walkAll (gl g) w n (link o0 1) (tl_0_1 h0) M) (gd_v W3_239 W3_118 W3_119 W1_3 W3_120) rfl (by decide) (hdX2_walkAll) (tl_0_1 h0) (by decide) (cl_2) rfl (Nat.le_of_ble_eq_true rfl) dX0_firstWrong_39 rfl (fun r6 M5 => ?_)
      refine J_aload_n C dX0_firstWrong_42 rfl 0 rfl ?_
      refine J_getr C fk0_1 W1_217 h0 dX0_firstWrong_43 ?_
      refine J_getr C fk2_3 W1_176 (tl_0_1 h0) dX0_firstWrong_46 ?_
      refine J_iload_n C dX0_firstWrong_49 rfl 1 rfl ?_
      refine J_aaload C (tl_2_3 (tl_0_1 h0)) dX0_firstWrong_50 (fun hb7 => ?_)
      refine J_geti C fk7_0 W1_123 (t_wk (tl_2_3 (tl_0_1 h0)) hb7) dX0_firstWrong_51 ?_
      refine J_aload_n C dX0_firstWrong_54 rfl 2 rfl ?_
      refine J_iload_n C dX0_firstWrong_55 rfl 3 rfl ?_
      refine J_cvi (As := [.int x3]) C (c1_at (gl g) w o2 h2 x3 M5) (gd_v W4_156 W4_115 W4_116 W1_8 W4_117) rfl (by decide) (hdX1_at) h2 (by decide) (cl_1) rfl (Nat.le_of_ble_eq_true rfl) dX0_firstWrong_56 rfl (fun r9 M8 => ?_)
      refine J_icmp_eq (tgt := 64) C dX0_firstWrong_59 (by decide) (fun _ => ?_) (fun _ => ?_)
      · refine J_iinc (lw := fun v10 => [(3, .int v10), (0, .ref (wa w o0)), (1, .int x1), (2, .ref (wa w o2))]) (X := x3 + 1) C dX0_firstWrong_64 (q := 3) rfl (by rw [kci_1]) (by decide) (fun _ => rfl) (fun v10 => ?_)
        refine J_goto (tgt := 27) C dX0_firstWrong_67 (by decide) ?_
        refine J_lv [1, 2, 3, 0] rfl ?_
        exact ih v10 M8
      · refine J_iload_n C dX0_firstWrong_62 rfl 3 rfl ?_
        exact J_iret C RT rfl dX0_firstWrong_63
def s0_firstWrong (n : Nat) (o0 : Nat) (x1 : Int32) (o2 : Nat) (M : Mem) : Option Res := cb (s2_become n (link o0 1) (link o0 0) M) (fun _ M1 => cb (s2_knowsIn (link o0 1) x1 M1) (fun r4 M3 => if r4 = 0 then (some ((-9 : Int32), M3)) else (s0_firstWrong_27 n o0 x1 o2 n (0 : Int32) M3)))
set_option maxRecDepth 100000 in
set_option maxHeartbeats 4000000 in
theorem b0_firstWrong {w : WE} {g : GT} (C : CT w g RX0 cX0_firstWrong rm0_firstWrong 4) (RT : RTi w g cX0_firstWrong .int) (n : Nat) (o0 : Nat) (h0 : typ o0 = 0) (x1 : Int32) (o2 : Nat) (h2 : typ o2 = 1) (M : Mem) : J w g (s0_firstWrong n o0 x1 o2 M) M 0 [(0, .ref (wa w o0)), (1, .int x1), (2, .ref (wa w o2))] [] := by
  rw [s0_firstWrong]
  refine J_aload_n C dX0_firstWrong_0 rfl 0 rfl ?_
  refine J_getr C fk0_1 W1_217 h0 dX0_firstWrong_1 ?_
  refine J_aload_n C dX0_firstWrong_4 rfl 0 rfl ?_
  refine J_getr C fk0_0 W1_215 h0 dX0_firstWrong_5 ?_
  refine J_cvv (As := [.ref (wa w (link o0 0))]) C (c2_become (gl g) w n (link o0 1) (tl_0_1 h0) (link o0 0) (tl_0_0 h0) M) (gd_v W2_170 W2_171 W2_172 W1_3 W2_173) rfl (by decide) (hdX2_become) (tl_0_1 h0) (by decide) (cl_2) rfl (Nat.le_of_ble_eq_true rfl) dX0_firstWrong_8 rfl (fun r2 M1 => ?_)
  refine J_aload_n C dX0_firstWrong_11 rfl 0 rfl ?_
  refine J_getr C fk0_1 W1_217 h0 dX0_firstWrong_12 ?_
  refine J_iload_n C dX0_firstWrong_15 rfl 1 rfl ?_
  refine J_cvi (As := [.int x1]) C (c2_knowsIn (gl g) w (link o0 1) (tl_0_1 h0) x1 M1) (gd_v W3_234 W3_110 W3_111 W1_3 W3_112) rfl (by decide) (hdX2_knowsIn) (tl_0_1 h0) (by decide) (cl_2) rfl (Nat.le_of_ble_eq_true rfl) dX0_firstWrong_16 rfl (fun r4 M3 => ?_)
  refine J_if_ne (tgt := 25) C dX0_firstWrong_19 (by decide) (fun _ => ?_) (fun _ => ?_)
  · refine J_iconst C dX0_firstWrong_25 kci_0 ?_
    refine J_istore_n (lv' := [(3, .int (0 : Int32)), (0, .ref (wa w o0)), (1, .int x1), (2, .ref (wa w o2))]) C dX0_firstWrong_26 rfl (by decide) rfl ?_
    refine J_lv [1, 2, 3, 0] rfl ?_
    exact b0_firstWrong_27 C RT n o0 h0 x1 o2 h2 n (0 : Int32) M3
  · refine J_bipush C dX0_firstWrong_22 kcb_m9 ?_
    exact J_iret C RT rfl dX0_firstWrong_24
theorem c0_firstWrong (l : Launch) (w : WE) (n : Nat) (o0 : Nat) (h0 : typ o0 = 0) (x1 : Int32) (o2 : Nat) (h2 : typ o2 = 1) (M : Mem) : MC l w yX0_firstWrong (wz yX0_firstWrong cX0_firstWrong 4 (some .int)) rm0_firstWrong [.ref (wa w o0), .int x1, .ref (wa w o2)] (s0_firstWrong n o0 x1 o2 M) M :=
  mc_of_J (own := RX0) rfl (by decide) rfl rfl (Nat.le_of_ble_eq_true rfl) (fun _ _ C RT => b0_firstWrong C RT n o0 h0 x1 o2 h2 M)
theorem hdX0_firstWrong : yX0_firstWrong.cls = RX0 ∧ yOK yX0_firstWrong 2 := ⟨rfl, by decide, by decide, by decide⟩
abbrev rm1_isFull : Room := { frames := 0, cells := 0, slots := 0, locals := 0 }
def s1_isFull (o0 : Nat) (M : Mem) : Option Res := if (M o0 1) < (Int32.ofNat (alen (link o0 0))) then (some ((0 : Int32), M)) else (some ((1 : Int32), M))
set_option maxRecDepth 100000 in
set_option maxHeartbeats 4000000 in
theorem b1_isFull {w : WE} {g : GT} (C : CT w g RX1 cX1_isFull rm1_isFull 1) (RT : RTi w g cX1_isFull .boolean) (o0 : Nat) (h0 : typ o0 = 1) (M : Mem) : J w g (s1_isFull o0 M) M 0 [(0, .ref (wa w o0))] [] := by
  rw [s1_isFull]
  refine J_aload_n C dX1_isFull_0 rfl 0 rfl ?_
  refine J_geti C fk1_1 W2_1 h0 dX1_isFull_1 ?_
  refine J_aload_n C dX1_isFull_4 rfl 0 rfl ?_
  refine J_getr C fk1_0 W2_0 h0 dX1_isFull_5 ?_
  refine J_alen C (tl_1_0 h0) dX1_isFull_8 ?_
  refine J_icmp_lt (tgt := 16) C dX1_isFull_9 (by decide) (fun _ => ?_) (fun _ => ?_)
  · refine J_iconst C dX1_isFull_16 kci_0 ?_
    exact J_iret C RT (by decide) dX1_isFull_17
  · refine J_iconst C dX1_isFull_12 kci_1 ?_
    refine J_goto (tgt := 17) C dX1_isFull_13 (by decide) ?_
    exact J_iret C RT (by decide) dX1_isFull_17
theorem c1_isFull (l : Launch) (w : WE) (o0 : Nat) (h0 : typ o0 = 1) (M : Mem) : MC l w yX1_isFull (wz yX1_isFull cX1_isFull 1 (some .boolean)) rm1_isFull [.ref (wa w o0)] (s1_isFull o0 M) M :=
  mc_of_J (own := RX1) rfl (by decide) rfl rfl (Nat.le_of_ble_eq_true rfl) (fun _ _ C RT => b1_isFull C RT o0 h0 M)
theorem hdX1_isFull : yX1_isFull.cls = RX1 ∧ yOK yX1_isFull 0 := ⟨rfl, by decide, by decide, by decide⟩
abbrev rm1_append : Room := { frames := 1, cells := 0, slots := 0, locals := 20 }
def s1_append (o0 : Nat) (x1 : Int32) (M : Mem) : Option Res := cb (s1_isFull o0 M) (fun r2 M1 => if r2 = 0 then (if inB (M1 o0 1) (alen (link o0 0)) then mlet (mset M1 (link o0 0) (M1 o0 1).toNatClampNeg x1) (fun M3 => mlet (mset M3 o0 1 ((M3 o0 1) + (1 : Int32))) (fun M4 => some (M4 o0 1, M4))) else none) else (some (M1 o0 1, M1)))
set_option maxRecDepth 100000 in
set_option maxHeartbeats 4000000 in
theorem b1_append {w : WE} {g : GT} (C : CT w g RX1 cX1_append rm1_append 2) (RT : RTi w g cX1_append .int) (o0 : Nat) (h0 : typ o0 = 1) (x1 : Int32) (M : Mem) : J w g (s1_append o0 x1 M) M 0 [(0, .ref (wa w o0)), (1, .int x1)] [] := by
  rw [s1_append]
  refine J_aload_n C dX1_append_0 rfl 0 rfl ?_
  refine J_cvi (As := []) C (c1_isFull (gl g) w o0 h0 M) (gd_v W4_105 W4_98 W4_99 W1_8 W4_100) rfl (by decide) (hdX1_isFull) h0 (by decide) (cl_1) rfl (Nat.le_of_ble_eq_true rfl) dX1_append_1 rfl (fun r2 M1 => ?_)
  refine J_if_ne (tgt := 27) C dX1_append_4 (by decide) (fun _ => ?_) (fun _ => ?_)
  · refine J_aload_n C dX1_append_27 rfl 0 rfl ?_
    refine J_geti C fk1_1 W2_1 h0 dX1_append_28 ?_
    exact J_iret C RT rfl dX1_append_31
  · refine J_aload_n C dX1_append_7 rfl 0 rfl ?_
    refine J_getr C fk1_0 W2_0 h0 dX1_append_8 ?_
    refine J_aload_n C dX1_append_11 rfl 0 rfl ?_
    refine J_geti C fk1_1 W2_1 h0 dX1_append_12 ?_
    refine J_iload_n C dX1_append_15 rfl 1 rfl ?_
    refine J_iastore C (tl_1_0 h0) dX1_append_16 ?_
    refine J_mlet (fun M3 => ?_)
    refine J_aload_n C dX1_append_17 rfl 0 rfl ?_
    refine J_dup C rfl dX1_append_18 ?_
    refine J_geti C fk1_1 W2_1 h0 dX1_append_19 ?_
    refine J_iconst C dX1_append_22 kci_1 ?_
    refine J_iadd C dX1_append_23 ?_
    refine J_puti C fk1_1 W2_1 fp1_1 h0 dX1_append_24 ?_
    refine J_mlet (fun M4 => ?_)
    refine J_aload_n C dX1_append_27 rfl 0 rfl ?_
    refine J_geti C fk1_1 W2_1 h0 dX1_append_28 ?_
    exact J_iret C RT rfl dX1_append_31
theorem c1_append (l : Launch) (w : WE) (o0 : Nat) (h0 : typ o0 = 1) (x1 : Int32) (M : Mem) : MC l w yX1_append (wz yX1_append cX1_append 2 (some .int)) rm1_append [.ref (wa w o0), .int x1] (s1_append o0 x1 M) M :=
  mc_of_J (own := RX1) rfl (by decide) rfl rfl (Nat.le_of_ble_eq_true rfl) (fun _ _ C RT => b1_append C RT o0 h0 x1 M)
theorem hdX1_append : yX1_append.cls = RX1 ∧ yOK yX1_append 1 := ⟨rfl, by decide, by decide, by decide⟩
abbrev rm1_hundredthsUpTo : Room := { frames := 0, cells := 0, slots := 0, locals := 0 }
def s1_hundredthsUpTo_4 (n : Nat) (o0 : Nat) (x1 : Int32) : Nat → Int32 → Int32 → Mem → Option Res
  | 0, _, _, _ => none
  | f + 1, x2, x3, M => if (M o0 1) ≤ x3 then (if (M o0 1) ≤ 0 then (some ((0 : Int32), M)) else (if (M o0 1) = 0 then none else some ((x2 * (100 : Int32)) / (M o0 1), M))) else (if inB x3 (alen (link o0 0)) then if x1 < (M (link o0 0) x3.toNatClampNeg) then (ilet (x3 + 1) (fun v1 => s1_hundredthsUpTo_4 n o0 x1 f x2 v1 M)) else (ilet (x2 + 1) (fun v2 => ilet (x3 + 1) (fun v3 => s1_hundredthsUpTo_4 n o0 x1 f v2 v3 M))) else none)
set_option maxRecDepth 100000 in
set_option maxHeartbeats 4000000 in
theorem b1_hundredthsUpTo_4 {w : WE} {g : GT} (C : CT w g RX1 cX1_hundredthsUpTo rm1_hundredthsUpTo 4) (RT : RTi w g cX1_hundredthsUpTo .int) (n : Nat) (o0 : Nat) (h0 : typ o0 = 1) (x1 : Int32) : ∀ (f : Nat) (x2 : Int32) (x3 : Int32) (M : Mem), J w g (s1_hundredthsUpTo_4 n o0 x1 f x2 x3 M) M 4 [(0, .ref (wa w o0)), (1, .int x1), (2, .int x2), (3, .int x3)] [] := by
  intro f
  induction f with
  | zero =>
    intro x2 x3 M
    rw [s1_hundredthsUpTo_4]
    exact J_none
  | succ f ih =>
    intro x2 x3 M
    rw [s1_hundredthsUpTo_4]
    refine J_iload_n C dX1_hundredthsUpTo_4 rfl 3 rfl ?_
    refine J_aload_n C dX1_hundredthsUpTo_5 rfl 0 rfl ?_
    refine J_geti C fk1_1 W2_1 h0 dX1_hundredthsUpTo_6 ?_
    refine J_icmp_ge (tgt := 31) C dX1_hundredthsUpTo_9 (by decide) (fun _ => ?_) (fun _ => ?_)
    · refine J_aload_n C dX1_hundredthsUpTo_31 rfl 0 rfl ?_
      refine J_geti C fk1_1 W2_1 h0 dX1_hundredthsUpTo_32 ?_
      refine J_if_le (tgt := 50) C dX1_hundredthsUpTo_35 (by decide) (fun _ => ?_) (fun _ => ?_)
      · refine J_iconst C dX1_hundredthsUpTo_50 kci_0 ?_
        exact J_iret C RT rfl dX1_hundredthsUpTo_51
      · refine J_iload_n C dX1_hundredthsUpTo_38 rfl 2 rfl ?_
        refine J_bipush C dX1_hundredthsUpTo_39 kcb_100 ?_
        refine J_imul C dX1_hundredthsUpTo_41 ?_
        refine J_aload_n C dX1_hundredthsUpTo_42 rfl 0 rfl ?_
        refine J_geti C fk1_1 W2_1 h0 dX1_hundredthsUpTo_43 ?_
        refine J_idiv C dX1_hundredthsUpTo_46 ?_
        refine J_goto (tgt := 51) C dX1_hundredthsUpTo_47 (by decide) ?_
        exact J_iret C RT rfl dX1_hundredthsUpTo_51
    · refine J_aload_n C dX1_hundredthsUpTo_12 rfl 0 rfl ?_
      refine J_getr C fk1_0 W2_0 h0 dX1_hundredthsUpTo_13 ?_
      refine J_iload_n C dX1_hundredthsUpTo_16 rfl 3 rfl ?_
      refine J_aload_ C (tl_1_0 h0) dX1_hundredthsUpTo_17 ?_
      refine J_iload_n C dX1_hundredthsUpTo_18 rfl 1 rfl ?_
      refine J_icmp_gt (tgt := 25) C dX1_hundredthsUpTo_19 (by decide) (fun _ => ?_) (fun _ => ?_)
      · refine J_iinc (lw := fun v1 => [(3, .int v1), (0, .ref (wa w o0)), (1, .int x1), (2, .int x2)]) (X := x3 + 1) C dX1_hundredthsUpTo_25 (q := 3) rfl (by rw [kci_1]) (by decide) (fun _ => rfl) (fun v1 => ?_)
        refine J_goto (tgt := 4) C dX1_hundredthsUpTo_28 (by decide) ?_
        refine J_lv [1, 2, 3, 0] rfl ?_
        exact ih x2 v1 M
      · refine J_iinc (lw := fun v2 => [(2, .int v2), (0, .ref (wa w o0)), (1, .int x1), (3, .int x3)]) (X := x2 + 1) C dX1_hundredthsUpTo_22 (q := 2) rfl (by rw [kci_1]) (by decide) (fun _ => rfl) (fun v2 => ?_)
        refine J_iinc (lw := fun v3 => [(3, .int v3), (2, .int v2), (0, .ref (wa w o0)), (1, .int x1)]) (X := x3 + 1) C dX1_hundredthsUpTo_25 (q := 3) rfl (by rw [kci_1]) (by decide) (fun _ => rfl) (fun v3 => ?_)
        refine J_goto (tgt := 4) C dX1_hundredthsUpTo_28 (by decide) ?_
        refine J_lv [2, 3, 1, 0] rfl ?_
        exact ih v2 v3 M
def s1_hundredthsUpTo (n : Nat) (o0 : Nat) (x1 : Int32) (M : Mem) : Option Res := s1_hundredthsUpTo_4 n o0 x1 n (0 : Int32) (0 : Int32) M
set_option maxRecDepth 100000 in
set_option maxHeartbeats 4000000 in
theorem b1_hundredthsUpTo {w : WE} {g : GT} (C : CT w g RX1 cX1_hundredthsUpTo rm1_hundredthsUpTo 4) (RT : RTi w g cX1_hundredthsUpTo .int) (n : Nat) (o0 : Nat) (h0 : typ o0 = 1) (x1 : Int32) (M : Mem) : J w g (s1_hundredthsUpTo n o0 x1 M) M 0 [(0, .ref (wa w o0)), (1, .int x1)] [] := by
  rw [s1_hundredthsUpTo]
  refine J_iconst C dX1_hundredthsUpTo_0 kci_0 ?_
  refine J_istore_n (lv' := [(2, .int (0 : Int32)), (0, .ref (wa w o0)), (1, .int x1)]) C dX1_hundredthsUpTo_1 rfl (by decide) rfl ?_
  refine J_iconst C dX1_hundredthsUpTo_2 kci_0 ?_
  refine J_istore_n (lv' := [(3, .int (0 : Int32)), (2, .int (0 : Int32)), (0, .ref (wa w o0)), (1, .int x1)]) C dX1_hundredthsUpTo_3 rfl (by decide) rfl ?_
  refine J_lv [2, 3, 1, 0] rfl ?_
  exact b1_hundredthsUpTo_4 C RT n o0 h0 x1 n (0 : Int32) (0 : Int32) M
theorem c1_hundredthsUpTo (l : Launch) (w : WE) (n : Nat) (o0 : Nat) (h0 : typ o0 = 1) (x1 : Int32) (M : Mem) : MC l w yX1_hundredthsUpTo (wz yX1_hundredthsUpTo cX1_hundredthsUpTo 4 (some .int)) rm1_hundredthsUpTo [.ref (wa w o0), .int x1] (s1_hundredthsUpTo n o0 x1 M) M :=
  mc_of_J (own := RX1) rfl (by decide) rfl rfl (Nat.le_of_ble_eq_true rfl) (fun _ _ C RT => b1_hundredthsUpTo C RT n o0 h0 x1 M)
theorem hdX1_hundredthsUpTo : yX1_hundredthsUpTo.cls = RX1 ∧ yOK yX1_hundredthsUpTo 1 := ⟨rfl, by decide, by decide, by decide⟩
abbrev rm2_canGoOn : Room := { frames := 2, cells := 0, slots := 0, locals := 43 }
def s2_canGoOn (n : Nat) (o0 : Nat) (M : Mem) : Option Res := if (M o0 9) = 0 then (cb (s2_countIn n o0 M) (fun r2 M1 => if r2 < (2 : Int32) then (some ((0 : Int32), M1)) else (if (M1 (link o0 0) 1) ≤ 0 then (some ((0 : Int32), M1)) else (some ((1 : Int32), M1))))) else (some ((0 : Int32), M))
set_option maxRecDepth 100000 in
set_option maxHeartbeats 4000000 in
theorem b2_canGoOn {w : WE} {g : GT} (C : CT w g RX2 cX2_canGoOn rm2_canGoOn 1) (RT : RTi w g cX2_canGoOn .boolean) (n : Nat) (o0 : Nat) (h0 : typ o0 = 2) (M : Mem) : J w g (s2_canGoOn n o0 M) M 0 [(0, .ref (wa w o0))] [] := by
  rw [s2_canGoOn]
  refine J_aload_n C dX2_canGoOn_0 rfl 0 rfl ?_
  refine J_geti C fk2_9 W1_191 h0 dX2_canGoOn_1 ?_
  refine J_if_ne (tgt := 29) C dX2_canGoOn_4 (by decide) (fun _ => ?_) (fun _ => ?_)
  · refine J_iconst C dX2_canGoOn_29 kci_0 ?_
    exact J_iret C RT (by decide) dX2_canGoOn_30
  · refine J_aload_n C dX2_canGoOn_7 rfl 0 rfl ?_
    refine J_cvi (As := []) C (c2_countIn (gl g) w n o0 h0 M) (gd_v W3_105 W3_106 W3_107 W1_3 W3_108) rfl (by decide) (hdX2_countIn) h0 (by decide) (cl_2) rfl (Nat.le_of_ble_eq_true rfl) dX2_canGoOn_8 rfl (fun r2 M1 => ?_)
    refine J_iconst C dX2_canGoOn_11 kci_2 ?_
    refine J_icmp_lt (tgt := 29) C dX2_canGoOn_12 (by decide) (fun _ => ?_) (fun _ => ?_)
    · refine J_iconst C dX2_canGoOn_29 kci_0 ?_
      exact J_iret C RT (by decide) dX2_canGoOn_30
    · refine J_aload_n C dX2_canGoOn_15 rfl 0 rfl ?_
      refine J_getr C fk2_0 W1_162 h0 dX2_canGoOn_16 ?_
      refine J_geti C fk4_1 W1_50 (tl_2_0 h0) dX2_canGoOn_19 ?_
      refine J_if_le (tgt := 29) C dX2_canGoOn_22 (by decide) (fun _ => ?_) (fun _ => ?_)
      · refine J_iconst C dX2_canGoOn_29 kci_0 ?_
        exact J_iret C RT (by decide) dX2_canGoOn_30
      · refine J_iconst C dX2_canGoOn_25 kci_1 ?_
        refine J_goto (tgt := 30) C dX2_canGoOn_26 (by decide) ?_
        exact J_iret C RT (by decide) dX2_canGoOn_30
theorem c2_canGoOn (l : Launch) (w : WE) (n : Nat) (o0 : Nat) (h0 : typ o0 = 2) (M : Mem) : MC l w yX2_canGoOn (wz yX2_canGoOn cX2_canGoOn 1 (some .boolean)) rm2_canGoOn [.ref (wa w o0)] (s2_canGoOn n o0 M) M :=
  mc_of_J (own := RX2) rfl (by decide) rfl rfl (Nat.le_of_ble_eq_true rfl) (fun _ _ C RT => b2_canGoOn C RT n o0 h0 M)
theorem hdX2_canGoOn : yX2_canGoOn.cls = RX2 ∧ yOK yX2_canGoOn 0 := ⟨rfl, by decide, by decide, by decide⟩
abbrev rm3_couldStop : Room := { frames := 0, cells := 0, slots := 0, locals := 0 }
def s3_couldStop (o0 : Nat) (x1 : Int32) (x2 : Int32) (M : Mem) : Option Res := if x1 = 0 then (some ((1 : Int32), M)) else (if x1 = 1 then (if (x2 - x2 / (8 : Int32) * (8 : Int32)) = 0 then (some ((1 : Int32), M)) else (if x2 = (300 : Int32) then (some ((1 : Int32), M)) else (some ((0 : Int32), M)))) else (if x1 = 2 then (if (M o0 1) ≤ x2 then (some ((1 : Int32), M)) else (if x2 = (300 : Int32) then (some ((1 : Int32), M)) else (some ((0 : Int32), M)))) else (if x1 = 3 then (some ((1 : Int32), M)) else (if x2 = (M o0 1) then (some ((1 : Int32), M)) else (some ((0 : Int32), M))))))
set_option maxRecDepth 100000 in
set_option maxHeartbeats 4000000 in
theorem b3_couldStop {w : WE} {g : GT} (C : CT w g RX3 cX3_couldStop rm3_couldStop 3) (RT : RTi w g cX3_couldStop .boolean) (o0 : Nat) (h0 : typ o0 = 3) (x1 : Int32) (x2 : Int32) (M : Mem) : J w g (s3_couldStop o0 x1 x2 M) M 0 [(0, .ref (wa w o0)), (1, .int x1), (2, .int x2)] [] := by
  rw [s3_couldStop]
  refine J_iload_n C dX3_couldStop_0 rfl 1 rfl ?_
  refine J_ite (fun hc0 => ?_) (fun hc0 => ?_)
  · refine J_tsin (tgt := 32) C dX3_couldStop_1 (by rw [hc0]; decide) (by rw [hc0]; decide) (off := 31) (by rw [hc0]; rfl) (by decide) ?_
    refine J_iconst C dX3_couldStop_32 kci_1 ?_
    exact J_iret C RT (by decide) dX3_couldStop_33
  · refine J_ite (fun hc1 => ?_) (fun hc1 => ?_)
    · refine J_tsin (tgt := 34) C dX3_couldStop_1 (by rw [hc1]; decide) (by rw [hc1]; decide) (off := 33) (by rw [hc1]; rfl) (by decide) ?_
      refine J_iload_n C dX3_couldStop_34 rfl 2 rfl ?_
      refine J_bipush C dX3_couldStop_35 kcb_8 ?_
      refine J_irem_c C (by decide) dX3_couldStop_37 ?_
      refine J_if_eq (tgt := 48) C dX3_couldStop_38 (by decide) (fun _ => ?_) (fun _ => ?_)
      · refine J_iconst C dX3_couldStop_48 kci_1 ?_
        refine J_goto (tgt := 53) C dX3_couldStop_49 (by decide) ?_
        exact J_iret C RT (by decide) dX3_couldStop_53
      · refine J_iload_n C dX3_couldStop_41 rfl 2 rfl ?_
        refine J_sipush C dX3_couldStop_42 kcs_300 ?_
        refine J_icmp_ne (tgt := 52) C dX3_couldStop_45 (by decide) (fun _ => ?_) (fun _ => ?_)
        · refine J_iconst C dX3_couldStop_52 kci_0 ?_
          exact J_iret C RT (by decide) dX3_couldStop_53
        · refine J_iconst C dX3_couldStop_48 kci_1 ?_
          refine J_goto (tgt := 53) C dX3_couldStop_49 (by decide) ?_
          exact J_iret C RT (by decide) dX3_couldStop_53
    · refine J_ite (fun hc2 => ?_) (fun hc2 => ?_)
      · refine J_tsin (tgt := 54) C dX3_couldStop_1 (by rw [hc2]; decide) (by rw [hc2]; decide) (off := 53) (by rw [hc2]; rfl) (by decide) ?_
        refine J_iload_n C dX3_couldStop_54 rfl 2 rfl ?_
        refine J_aload_n C dX3_couldStop_55 rfl 0 rfl ?_
        refine J_geti C fk3_1 W1_77 h0 dX3_couldStop_56 ?_
        refine J_icmp_ge (tgt := 69) C dX3_couldStop_59 (by decide) (fun _ => ?_) (fun _ => ?_)
        · refine J_iconst C dX3_couldStop_69 kci_1 ?_
          refine J_goto (tgt := 74) C dX3_couldStop_70 (by decide) ?_
          exact J_iret C RT (by decide) dX3_couldStop_74
        · refine J_iload_n C dX3_couldStop_62 rfl 2 rfl ?_
          refine J_sipush C dX3_couldStop_63 kcs_300 ?_
          refine J_icmp_ne (tgt := 73) C dX3_couldStop_66 (by decide) (fun _ => ?_) (fun _ => ?_)
          · refine J_iconst C dX3_couldStop_73 kci_0 ?_
            exact J_iret C RT (by decide) dX3_couldStop_74
          · refine J_iconst C dX3_couldStop_69 kci_1 ?_
            refine J_goto (tgt := 74) C dX3_couldStop_70 (by decide) ?_
            exact J_iret C RT (by decide) dX3_couldStop_74
      · refine J_ite (fun hc3 => ?_) (fun hc3 => ?_)
        · refine J_tsin (tgt := 75) C dX3_couldStop_1 (by rw [hc3]; decide) (by rw [hc3]; decide) (off := 74) (by rw [hc3]; rfl) (by decide) ?_
          refine J_iconst C dX3_couldStop_75 kci_1 ?_
          exact J_iret C RT (by decide) dX3_couldStop_76
        · refine J_tsout (tgt := 77) C dX3_couldStop_1 (by have q0 := lv_neT hc0 (a := 0) rfl; have q1 := lv_neT hc1 (a := 1) rfl; have q2 := lv_neT hc2 (a := 2) rfl; have q3 := lv_neT hc3 (a := 3) rfl; omega) (by decide) ?_
          refine J_iload_n C dX3_couldStop_77 rfl 2 rfl ?_
          refine J_aload_n C dX3_couldStop_78 rfl 0 rfl ?_
          refine J_geti C fk3_1 W1_77 h0 dX3_couldStop_79 ?_
          refine J_icmp_ne (tgt := 89) C dX3_couldStop_82 (by decide) (fun _ => ?_) (fun _ => ?_)
          · refine J_iconst C dX3_couldStop_89 kci_0 ?_
            exact J_iret C RT (by decide) dX3_couldStop_90
          · refine J_iconst C dX3_couldStop_85 kci_1 ?_
            refine J_goto (tgt := 90) C dX3_couldStop_86 (by decide) ?_
            exact J_iret C RT (by decide) dX3_couldStop_90
theorem c3_couldStop (l : Launch) (w : WE) (o0 : Nat) (h0 : typ o0 = 3) (x1 : Int32) (x2 : Int32) (M : Mem) : MC l w yX3_couldStop (wz yX3_couldStop cX3_couldStop 3 (some .boolean)) rm3_couldStop [.ref (wa w o0), .int x1, .int x2] (s3_couldStop o0 x1 x2 M) M :=
  mc_of_J (own := RX3) rfl (by decide) rfl rfl (Nat.le_of_ble_eq_true rfl) (fun _ _ C RT => b3_couldStop C RT o0 h0 x1 x2 M)
theorem hdX3_couldStop : yX3_couldStop.cls = RX3 ∧ yOK yX3_couldStop 2 := ⟨rfl, by decide, by decide, by decide⟩
abbrev rm6_append : Room := { frames := 0, cells := 0, slots := 0, locals := 0 }
def s6_append_3 (n : Nat) (o0 : Nat) (x1 : Int32) (y2 : Int64) : Nat → Int32 → Mem → Option Res
  | 0, _, _ => none
  | f + 1, x4, M => if x1 ≤ x4 then (some (0, M)) else (if (64 : Int32) ≤ (M o0 4) then (some (0, M)) else (if inB (M o0 4) (alen (link o0 0)) then mlet (mset M (link o0 0) (M o0 4).toNatClampNeg (vp_nar .byte ((((y2.toUInt64 >>> (((8 : Int32) * x4).toInt64.toUInt64 &&& Int64.toUInt64 63)).toInt64).toInt32).toInt8.toInt32))) (fun M1 => mlet (mset M1 o0 4 ((M1 o0 4) + (1 : Int32))) (fun M2 => ilet (x4 + 1) (fun v3 => s6_append_3 n o0 x1 y2 f v3 M2))) else none))
set_option maxRecDepth 100000 in
set_option maxHeartbeats 4000000 in
theorem b6_append_3 {w : WE} {g : GT} (C : CT w g RX6 cX6_append rm6_append 5) (RT : RTv w g cX6_append) (n : Nat) (o0 : Nat) (h0 : typ o0 = 6) (x1 : Int32) (y2 : Int64) : ∀ (f : Nat) (x4 : Int32) (M : Mem), J w g (s6_append_3 n o0 x1 y2 f x4 M) M 3 [(0, .ref (wa w o0)), (1, .int x1), (2, .long y2), (4, .int x4)] [] := by
  intro f
  induction f with
  | zero =>
    intro x4 M
    rw [s6_append_3]
    exact J_none
  | succ f ih =>
    intro x4 M
    rw [s6_append_3]
    refine J_iload C dX6_append_3 3 rfl ?_
    refine J_iload_n C dX6_append_5 rfl 1 rfl ?_
    refine J_icmp_ge (tgt := 52) C dX6_append_6 (by decide) (fun _ => ?_) (fun _ => ?_)
    · exact J_vret C RT dX6_append_52
    · refine J_aload_n C dX6_append_9 rfl 0 rfl ?_
      refine J_geti C fk6_4 W2_19 h0 dX6_append_10 ?_
      refine J_bipush C dX6_append_13 kcb_64 ?_
      refine J_icmp_ge (tgt := 52) C dX6_append_15 (by decide) (fun _ => ?_) (fun _ => ?_)
      · exact J_vret C RT dX6_append_52
      · refine J_aload_n C dX6_append_18 rfl 0 rfl ?_
        refine J_getr C fk6_0 W2_15 h0 dX6_append_19 ?_
        refine J_aload_n C dX6_append_22 rfl 0 rfl ?_
        refine J_geti C fk6_4 W2_19 h0 dX6_append_23 ?_
        refine J_lload_n C dX6_append_26 rfl 2 rfl ?_
        refine J_bipush C dX6_append_27 kcb_8 ?_
        refine J_iload C dX6_append_29 3 rfl ?_
        refine J_imul C dX6_append_31 ?_
        refine J_lushr C dX6_append_32 ?_
        refine J_l2i C dX6_append_33 ?_
        refine J_i2b C dX6_append_34 ?_
        refine J_bastore C (tl_6_0 h0) dX6_append_35 ?_
        refine J_mlet (fun M1 => ?_)
        refine J_aload_n C dX6_append_36 rfl 0 rfl ?_
        refine J_dup C rfl dX6_append_37 ?_
        refine J_geti C fk6_4 W2_19 h0 dX6_append_38 ?_
        refine J_iconst C dX6_append_41 kci_1 ?_
        refine J_iadd C dX6_append_42 ?_
        refine J_puti C fk6_4 W2_19 fp6_4 h0 dX6_append_43 ?_
        refine J_mlet (fun M2 => ?_)
        refine J_iinc (lw := fun v3 => [(4, .int v3), (0, .ref (wa w o0)), (1, .int x1), (2, .long y2)]) (X := x4 + 1) C dX6_append_46 (q := 3) rfl (by rw [kci_1]) (by decide) (fun _ => rfl) (fun v3 => ?_)
        refine J_goto (tgt := 3) C dX6_append_49 (by decide) ?_
        refine J_lv [1, 2, 3, 0] rfl ?_
        exact ih v3 M2
def s6_append (n : Nat) (o0 : Nat) (x1 : Int32) (y2 : Int64) (M : Mem) : Option Res := s6_append_3 n o0 x1 y2 n (0 : Int32) M
set_option maxRecDepth 100000 in
set_option maxHeartbeats 4000000 in
theorem b6_append {w : WE} {g : GT} (C : CT w g RX6 cX6_append rm6_append 5) (RT : RTv w g cX6_append) (n : Nat) (o0 : Nat) (h0 : typ o0 = 6) (x1 : Int32) (y2 : Int64) (M : Mem) : J w g (s6_append n o0 x1 y2 M) M 0 [(0, .ref (wa w o0)), (1, .int x1), (2, .long y2)] [] := by
  rw [s6_append]
  refine J_iconst C dX6_append_0 kci_0 ?_
  refine J_istore (lv' := [(4, .int (0 : Int32)), (0, .ref (wa w o0)), (1, .int x1), (2, .long y2)]) C dX6_append_1 (by decide) rfl ?_
  refine J_lv [1, 2, 3, 0] rfl ?_
  exact b6_append_3 C RT n o0 h0 x1 y2 n (0 : Int32) M
theorem c6_append (l : Launch) (w : WE) (n : Nat) (o0 : Nat) (h0 : typ o0 = 6) (x1 : Int32) (y2 : Int64) (M : Mem) : MV l w yX6_append (wz yX6_append cX6_append 5 none) rm6_append [.ref (wa w o0), .int x1, .long y2] (s6_append n o0 x1 y2 M) M :=
  mv_of_J (own := RX6) rfl (by decide) rfl rfl (Nat.le_of_ble_eq_true rfl) (fun _ _ C RT => b6_append C RT n o0 h0 x1 y2 M)
theorem hdX6_append : yX6_append.cls = RX6 ∧ yOK yX6_append 2 := ⟨rfl, by decide, by decide, by decide⟩
abbrev rm6_isDigit : Room := { frames := 0, cells := 0, slots := 0, locals := 0 }
def s6_isDigit (x0 : Int32) (M : Mem) : Option Res := if x0 < (48 : Int32) then (some ((0 : Int32), M)) else (if (57 : Int32) < x0 then (some ((0 : Int32), M)) else (some ((1 : Int32), M)))
set_option maxRecDepth 100000 in
set_option maxHeartbeats 4000000 in
theorem b6_isDigit {w : WE} {g : GT} (C : CT w g RX6 cX6_isDigit rm6_isDigit 1) (RT : RTi w g cX6_isDigit .boolean) (x0 : Int32) (M : Mem) : J w g (s6_isDigit x0 M) M 0 [(0, .int x0)] [] := by
  rw [s6_isDigit]
  refine J_iload_n C dX6_isDigit_0 rfl 0 rfl ?_
  refine J_bipush C dX6_isDigit_1 kcb_48 ?_
  refine J_icmp_lt (tgt := 16) C dX6_isDigit_3 (by decide) (fun _ => ?_) (fun _ => ?_)
  · refine J_iconst C dX6_isDigit_16 kci_0 ?_
    exact J_iret C RT (by decide) dX6_isDigit_17
  · refine J_iload_n C dX6_isDigit_6 rfl 0 rfl ?_
    refine J_bipush C dX6_isDigit_7 kcb_57 ?_
    refine J_icmp_gt (tgt := 16) C dX6_isDigit_9 (by decide) (fun _ => ?_) (fun _ => ?_)
    · refine J_iconst C dX6_isDigit_16 kci_0 ?_
      exact J_iret C RT (by decide) dX6_isDigit_17
    · refine J_iconst C dX6_isDigit_12 kci_1 ?_
      refine J_goto (tgt := 17) C dX6_isDigit_13 (by decide) ?_
      exact J_iret C RT (by decide) dX6_isDigit_17
theorem c6_isDigit (l : Launch) (w : WE) (x0 : Int32) (M : Mem) : MC l w yX6_isDigit (wz yX6_isDigit cX6_isDigit 1 (some .boolean)) rm6_isDigit [.int x0] (s6_isDigit x0 M) M :=
  mc_of_J (own := RX6) rfl (by decide) rfl rfl (Nat.le_of_ble_eq_true rfl) (fun _ _ C RT => b6_isDigit C RT x0 M)
theorem hdX6_isDigit : yX6_isDigit.cls = RX6 ∧ yOK yX6_isDigit 1 := ⟨rfl, by decide, by decide, by decide⟩
abbrev rm6_readDigits : Room := { frames := 1, cells := 0, slots := 0, locals := 20 }
def s6_readDigits_88 (n : Nat) (x3 : Int32) (M : Mem) : Option Res := if x3 ≤ 0 then (some ((0 : Int32), M)) else (some ((1 : Int32), M))
set_option maxRecDepth 100000 in
set_option maxHeartbeats 4000000 in
theorem b6_readDigits_88 {w : WE} {g : GT} (C : CT w g RX6 cX6_readDigits rm6_readDigits 4) (RT : RTi w g cX6_readDigits .boolean) (n : Nat) (x3 : Int32) (M : Mem) : J w g (s6_readDigits_88 n x3 M) M 88 [(3, .int x3)] [] := by
  rw [s6_readDigits_88]
  refine J_iload_n C dX6_readDigits_88 rfl 0 rfl ?_
  refine J_if_le (tgt := 96) C dX6_readDigits_89 (by decide) (fun _ => ?_) (fun _ => ?_)
  · refine J_iconst C dX6_readDigits_96 kci_0 ?_
    exact J_iret C RT (by decide) dX6_readDigits_97
  · refine J_iconst C dX6_readDigits_92 kci_1 ?_
    refine J_goto (tgt := 97) C dX6_readDigits_93 (by decide) ?_
    exact J_iret C RT (by decide) dX6_readDigits_97
def s6_readDigits_56 (n : Nat) (o0 : Nat) (x2 : Int32) (x3 : Int32) (M : Mem) : Option Res := if (Int32.ofNat (alen (link o0 1))) ≤ (M o0 3) then (s6_readDigits_88 n x3 M) else (if inB (M o0 3) (alen (link o0 1)) then mlet (mset M (link o0 1) (M o0 3).toNatClampNeg x2) (fun M1 => mlet (mset M1 o0 3 ((M1 o0 3) + (1 : Int32))) (fun M2 => s6_readDigits_88 n x3 M2)) else none)
set_option maxRecDepth 100000 in
set_option maxHeartbeats 4000000 in
theorem b6_readDigits_56 {w : WE} {g : GT} (C : CT w g RX6 cX6_readDigits rm6_readDigits 4) (RT : RTi w g cX6_readDigits .boolean) (n : Nat) (o0 : Nat) (h0 : typ o0 = 6) (x2 : Int32) (x3 : Int32) (M : Mem) : J w g (s6_readDigits_56 n o0 x2 x3 M) M 56 [(0, .ref (wa w o0)), (2, .int x2), (3, .int x3)] [] := by
  rw [s6_readDigits_56]
  refine J_aload_n C dX6_readDigits_56 rfl 0 rfl ?_
  refine J_geti C fk6_3 W2_18 h0 dX6_readDigits_57 ?_
  refine J_aload_n C dX6_readDigits_60 rfl 0 rfl ?_
  refine J_getr C fk6_1 W2_16 h0 dX6_readDigits_61 ?_
  refine J_alen C (tl_6_1 h0) dX6_readDigits_64 ?_
  refine J_icmp_ge (tgt := 88) C dX6_readDigits_65 (by decide) (fun _ => ?_) (fun _ => ?_)
  · refine J_lv [2] rfl ?_
    exact b6_readDigits_88 C RT n x3 M
  · refine J_aload_n C dX6_readDigits_68 rfl 0 rfl ?_
    refine J_getr C fk6_1 W2_16 h0 dX6_readDigits_69 ?_
    refine J_aload_n C dX6_readDigits_72 rfl 0 rfl ?_
    refine J_geti C fk6_3 W2_18 h0 dX6_readDigits_73 ?_
    refine J_iload_n C dX6_readDigits_76 rfl 1 rfl ?_
    refine J_iastore C (tl_6_1 h0) dX6_readDigits_77 ?_
    refine J_mlet (fun M1 => ?_)
    refine J_aload_n C dX6_readDigits_78 rfl 0 rfl ?_
    refine J_dup C rfl dX6_readDigits_79 ?_
    refine J_geti C fk6_3 W2_18 h0 dX6_readDigits_80 ?_
    refine J_iconst C dX6_readDigits_83 kci_1 ?_
    refine J_iadd C dX6_readDigits_84 ?_
    refine J_puti C fk6_3 W2_18 fp6_3 h0 dX6_readDigits_85 ?_
    refine J_mlet (fun M2 => ?_)
    refine J_lv [2] rfl ?_
    exact b6_readDigits_88 C RT n x3 M2
def s6_readDigits_27 (n : Nat) (k4 : Int32 → Int32 → Mem → Option Res) (o0 : Nat) (x1 : Int32) (x2 : Int32) (x3 : Int32) (M : Mem) : Option Res := cb (s6_signAhead o0 M) (fun r8 M7 => ilet (((x2 * (10 : Int32)) + r8) - (48 : Int32)) (fun v9 => ilet (x3 + 1) (fun v10 => mlet (mset M7 o0 2 ((M7 o0 2) + (1 : Int32))) (fun M11 => k4 v9 v10 M11))))
set_option maxRecDepth 100000 in
set_option maxHeartbeats 4000000 in
theorem b6_readDigits_27 {w : WE} {g : GT} (C : CT w g RX6 cX6_readDigits rm6_readDigits 4) (RT : RTi w g cX6_readDigits .boolean) (n : Nat) (k4 : Int32 → Int32 → Mem → Option Res) (o0 : Nat) (h0 : typ o0 = 6) (x1 : Int32) (x2 : Int32) (x3 : Int32) (hk4 : ∀ (z2 : Int32) (z3 : Int32) (M : Mem), J w g (k4 z2 z3 M) M 4 [(0, .ref (wa w o0)), (1, .int x1), (2, .int z2), (3, .int z3)] []) (M : Mem) : J w g (s6_readDigits_27 n k4 o0 x1 x2 x3 M) M 27 [(0, .ref (wa w o0)), (1, .int x1), (2, .int x2), (3, .int x3)] [] := by
  rw [s6_readDigits_27]
  refine J_iload_n C dX6_readDigits_27 rfl 2 rfl ?_
  refine J_bipush C dX6_readDigits_28 kcb_10 ?_
  refine J_imul C dX6_readDigits_30 ?_
  refine J_aload_n C dX6_readDigits_31 rfl 0 rfl ?_
  refine J_cvi (As := []) C (c6_signAhead (gl g) w o0 h0 M) (gd_v W2_94 W2_96 WP_3 W1_9 W2_97) rfl (by decide) (hdX6_signAhead) h0 (by decide) (cl_6) rfl (Nat.le_of_ble_eq_true rfl) dX6_readDigits_32 rfl (fun r8 M7 => ?_)
  refine J_iadd C dX6_readDigits_35 ?_
  refine J_bipush C dX6_readDigits_36 kcb_48 ?_
  refine J_isub C dX6_readDigits_38 ?_
  refine J_ilet (fun v9 => ?_)
  refine J_istore_n (lv' := [(2, .int v9), (0, .ref (wa w o0)), (1, .int x1), (3, .int x3)]) C dX6_readDigits_39 rfl (by decide) rfl ?_
  refine J_iinc (lw := fun v10 => [(3, .int v10), (2, .int v9), (0, .ref (wa w o0)), (1, .int x1)]) (X := x3 + 1) C dX6_readDigits_40 (q := 3) rfl (by rw [kci_1]) (by decide) (fun _ => rfl) (fun v10 => ?_)
  refine J_aload_n C dX6_readDigits_43 rfl 2 rfl ?_
  refine J_dup C rfl dX6_readDigits_44 ?_
  refine J_geti C fk6_2 W2_17 h0 dX6_readDigits_45 ?_
  refine J_iconst C dX6_readDigits_48 kci_1 ?_
  refine J_iadd C dX6_readDigits_49 ?_
  refine J_puti C fk6_2 W2_17 fp6_2 h0 dX6_readDigits_50 ?_
  refine J_mlet (fun M11 => ?_)
  refine J_goto (tgt := 4) C dX6_readDigits_53 (by decide) ?_
  refine J_lv [2, 3, 1, 0] rfl ?_
  exact hk4 v9 v10 M11
def s6_readDigits_4 (n : Nat) (o0 : Nat) (x1 : Int32) : Nat → Int32 → Int32 → Mem → Option Res
  | 0, _, _, _ => none
  | f + 1, x2, x3, M => if x1 ≤ x3 then (s6_readDigits_56 n o0 x2 x3 M) else (cb (s6_signAhead o0 M) (fun r4 M3 => cb (s6_isDigit r4 M3) (fun r6 M5 => if r6 = 0 then (s6_readDigits_56 n o0 x2 x3 M5) else (if x3 = 0 then (s6_readDigits_27 n (s6_readDigits_4 n o0 x1 f) o0 x1 x2 x3 M5) else (if x2 ≤ 0 then (s6_readDigits_56 n o0 x2 x3 M5) else (s6_readDigits_27 n (s6_readDigits_4 n o0 x1 f) o0 x1 x2 x3 M5))))))
set_option maxRecDepth 100000 in
set_option maxHeartbeats 4000000 in
theorem b6_readDigits_4 {w : WE} {g : GT} (C : CT w g RX6 cX6_readDigits rm6_readDigits 4) (RT : RTi w g cX6_readDigits .boolean) (n : Nat) (o0 : Nat) (h0 : typ o0 = 6) (x1 : Int32) : ∀ (f : Nat) (x2 : Int32) (x3 : Int32) (M : Mem), J w g (s6_readDigits_4 n o0 x1 f x2 x3 M) M 4 [(0, .ref (wa w o0)), (1, .int x1), (2, .int x2), (3, .int x3)] [] := by
  intro f
  induction f with
  | zero =>
    intro x2 x3 M
    rw [s6_readDigits_4]
    exact J_none
  | succ f ih =>
    intro x2 x3 M
    rw [s6_readDigits_4]
    refine J_iload_n C dX6_readDigits_4 rfl 3 rfl ?_
    refine J_iload_n C dX6_readDigits_5 rfl 1 rfl ?_
    refine J_icmp_ge (tgt := 56) C dX6_readDigits_6 (by decide) (fun _ => ?_) (fun _ => ?_)
    · refine J_lv [0, 2, 3] rfl ?_
      exact b6_readDigits_56 C RT n o0 h0 x2 x3 M
    · refine J_aload_n C dX6_readDigits_9 rfl 0 rfl ?_
      refine J_cvi (As := []) C (c6_signAhead (gl g) w o0 h0 M) (gd_v W2_94 W2_96 WP_3 W1_9 W2_97) rfl (by decide) (hdX6_signAhead) h0 (by decide) (cl_6) rfl (Nat.le_of_ble_eq_true rfl) dX6_readDigits_10 rfl (fun r4 M3 => ?_)
      refine J_csi (As := [.int r4]) (dm := 0) C (c6_isDigit (gl g) w r4 M3) (gd_s W2_163 W2_164 W1_9 W2_165) rfl (by decide) (hdX6_isDigit.2) rfl (Nat.le_of_ble_eq_true rfl) dX6_readDigits_13 rfl (fun r6 M5 => ?_)
      refine J_if_eq (tgt := 56) C dX6_readDigits_16 (by decide) (fun _ => ?_) (fun _ => ?_)
      · refine J_lv [0, 2, 3] rfl ?_
        exact b6_readDigits_56 C RT n o0 h0 x2 x3 M5
      · refine J_iload_n C dX6_readDigits_19 rfl 3 rfl ?_
        refine J_if_eq (tgt := 27) C dX6_readDigits_20 (by decide) (fun _ => ?_) (fun _ => ?_)
        · exact b6_readDigits_27 C RT n (s6_readDigits_4 n o0 x1 f) o0 h0 x1 x2 x3 ih M5
        · refine J_iload_n C dX6_readDigits_23 rfl 2 rfl ?_
          refine J_if_le (tgt := 56) C dX6_readDigits_24 (by decide) (fun _ => ?_) (fun _ => ?_)
          · refine J_lv [0, 2, 3] rfl ?_
            exact b6_readDigits_56 C RT n o0 h0 x2 x3 M5
          · exact b6_readDigits_27 C RT n (s6_readDigits_4 n o0 x1 f) o0 h0 x1 x2 x3 ih M5
def s6_readDigits (n : Nat) (o0 : Nat) (x1 : Int32) (M : Mem) : Option Res := s6_readDigits_4 n o0 x1 n (0 : Int32) (0 : Int32) M
set_option maxRecDepth 100000 in
set_option maxHeartbeats 4000000 in
theorem b6_readDigits {w : WE} {g : GT} (C : CT w g RX6 cX6_readDigits rm6_readDigits 4) (RT : RTi w g cX6_readDigits .boolean) (n : Nat) (o0 : Nat) (h0 : typ o0 = 6) (x1 : Int32) (M : Mem) : J w g (s6_readDigits n o0 x1 M) M 0 [(0, .ref (wa w o0)), (1, .int x1)] [] := by
  rw [s6_readDigits]
  refine J_iconst C dX6_readDigits_0 kci_0 ?_
  refine J_istore_n (lv' := [(2, .int (0 : Int32)), (0, .ref (wa w o0)), (1, .int x1)]) C dX6_readDigits_1 rfl (by decide) rfl ?_
  refine J_iconst C dX6_readDigits_2 kci_0 ?_
  refine J_istore_n (lv' := [(3, .int (0 : Int32)), (2, .int (0 : Int32)), (0, .ref (wa w o0)), (1, .int x1)]) C dX6_readDigits_3 rfl (by decide) rfl ?_
  refine J_lv [2, 3, 1, 0] rfl ?_
  exact b6_readDigits_4 C RT n o0 h0 x1 n (0 : Int32) (0 : Int32) M
theorem c6_readDigits (l : Launch) (w : WE) (n : Nat) (o0 : Nat) (h0 : typ o0 = 6) (x1 : Int32) (M : Mem) : MC l w yX6_readDigits (wz yX6_readDigits cX6_readDigits 4 (some .boolean)) rm6_readDigits [.ref (wa w o0), .int x1] (s6_readDigits n o0 x1 M) M :=
  mc_of_J (own := RX6) rfl (by decide) rfl rfl (Nat.le_of_ble_eq_true rfl) (fun _ _ C RT => b6_readDigits C RT n o0 h0 x1 M)
theorem hdX6_readDigits : yX6_readDigits.cls = RX6 ∧ yOK yX6_readDigits 1 := ⟨rfl, by decide, by decide, by decide⟩
abbrev rm6_readPart : Room := { frames := 2, cells := 0, slots := 0, locals := 43 }
def s6_readPart (n : Nat) (o0 : Nat) (x1 : Int32) (M : Mem) : Option Res := if x1 = (35 : Int32) then (cb (s6_readDigits n o0 (3 : Int32) M) (fun r7 M6 => if bz r7 then some (r7, M6) else none)) else (if x1 = (100 : Int32) then (cb (s6_readDigits n o0 (1 : Int32) M) (fun r5 M4 => if bz r5 then some (r5, M4) else none)) else (cb (s6_signAhead o0 M) (fun r2 M1 => if r2 = x1 then (mlet (mset M1 o0 2 ((M1 o0 2) + (1 : Int32))) (fun M3 => some ((1 : Int32), M3))) else (some ((0 : Int32), M1)))))
set_option maxRecDepth 100000 in
set_option maxHeartbeats 4000000 in
theorem b6_readPart {w : WE} {g : GT} (C : CT w g RX6 cX6_readPart rm6_readPart 2) (RT : RTi w g cX6_readPart .boolean) (n : Nat) (o0 : Nat) (h0 : typ o0 = 6) (x1 : Int32) (M : Mem) : J w g (s6_readPart n o0 x1 M) M 0 [(0, .ref (wa w o0)), (1, .int x1)] [] := by
  rw [s6_readPart]
  refine J_iload_n C dX6_readPart_0 rfl 1 rfl ?_
  refine J_bipush C dX6_readPart_1 kcb_35 ?_
  refine J_icmp_ne (tgt := 12) C dX6_readPart_3 (by decide) (fun _ => ?_) (fun _ => ?_)
  · refine J_iload_n C dX6_readPart_12 rfl 1 rfl ?_
    refine J_bipush C dX6_readPart_13 kcb_100 ?_
    refine J_icmp_ne (tgt := 24) C dX6_readPart_15 (by decide) (fun _ => ?_) (fun _ => ?_)
    · refine J_aload_n C dX6_readPart_24 rfl 0 rfl ?_
      refine J_cvi (As := []) C (c6_signAhead (gl g) w o0 h0 M) (gd_v W2_94 W2_96 WP_3 W1_9 W2_97) rfl (by decide) (hdX6_signAhead) h0 (by decide) (cl_6) rfl (Nat.le_of_ble_eq_true rfl) dX6_readPart_25 rfl (fun r2 M1 => ?_)
      refine J_iload_n C dX6_readPart_28 rfl 1 rfl ?_
      refine J_icmp_eq (tgt := 34) C dX6_readPart_29 (by decide) (fun _ => ?_) (fun _ => ?_)
      · refine J_aload_n C dX6_readPart_34 rfl 0 rfl ?_
        refine J_dup C rfl dX6_readPart_35 ?_
        refine J_geti C fk6_2 W2_17 h0 dX6_readPart_36 ?_
        refine J_iconst C dX6_readPart_39 kci_1 ?_
        refine J_iadd C dX6_readPart_40 ?_
        refine J_puti C fk6_2 W2_17 fp6_2 h0 dX6_readPart_41 ?_
        refine J_mlet (fun M3 => ?_)
        refine J_iconst C dX6_readPart_44 kci_1 ?_
        exact J_iret C RT (by decide) dX6_readPart_45
      · refine J_iconst C dX6_readPart_32 kci_0 ?_
        exact J_iret C RT (by decide) dX6_readPart_33
    · refine J_aload_n C dX6_readPart_18 rfl 0 rfl ?_
      refine J_iconst C dX6_readPart_19 kci_1 ?_
      refine J_cvi (As := [.int (1 : Int32)]) C (c6_readDigits (gl g) w n o0 h0 (1 : Int32) M) (gd_v W2_159 W2_161 WP_5 W1_9 W2_162) rfl (by decide) (hdX6_readDigits) h0 (by decide) (cl_6) rfl (Nat.le_of_ble_eq_true rfl) dX6_readPart_20 rfl (fun r5 M4 => ?_)
      exact J_zret C RT dX6_readPart_23
  · refine J_aload_n C dX6_readPart_6 rfl 0 rfl ?_
    refine J_iconst C dX6_readPart_7 kci_3 ?_
    refine J_cvi (As := [.int (3 : Int32)]) C (c6_readDigits (gl g) w n o0 h0 (3 : Int32) M) (gd_v W2_159 W2_161 WP_5 W1_9 W2_162) rfl (by decide) (hdX6_readDigits) h0 (by decide) (cl_6) rfl (Nat.le_of_ble_eq_true rfl) dX6_readPart_8 rfl (fun r7 M6 => ?_)
    exact J_zret C RT dX6_readPart_11
theorem c6_readPart (l : Launch) (w : WE) (n : Nat) (o0 : Nat) (h0 : typ o0 = 6) (x1 : Int32) (M : Mem) : MC l w yX6_readPart (wz yX6_readPart cX6_readPart 2 (some .boolean)) rm6_readPart [.ref (wa w o0), .int x1] (s6_readPart n o0 x1 M) M :=
  mc_of_J (own := RX6) rfl (by decide) rfl rfl (Nat.le_of_ble_eq_true rfl) (fun _ _ C RT => b6_readPart C RT n o0 h0 x1 M)
theorem hdX6_readPart : yX6_readPart.cls = RX6 ∧ yOK yX6_readPart 1 := ⟨rfl, by decide, by decide, by decide⟩
abbrev rm7_change : Room := { frames := 0, cells := 0, slots := 0, locals := 0 }
def s7_change (o0 : Nat) (x1 : Int32) (x2 : Int32) (M : Mem) : Option Res := if x1 = 0 then (ilet (M o0 4) (fun v1 => mlet (mset M o0 4 x2) (fun M2 => some (v1, M2)))) else (if x1 = 1 then (ilet (M o0 5) (fun v3 => mlet (mset M o0 5 x2) (fun M4 => some (v3, M4)))) else (if x1 = 2 then (ilet (M o0 6) (fun v5 => mlet (mset M o0 6 x2) (fun M6 => some (v5, M6)))) else (if x1 = 3 then (ilet (M o0 7) (fun v7 => mlet (mset M o0 7 x2) (fun M8 => some (v7, M8)))) else (if x1 = 4 then (ilet (M o0 8) (fun v9 => mlet (mset M o0 8 x2) (fun M10 => some (v9, M10)))) else (ilet (M o0 3) (fun v11 => mlet (mset M o0 3 x2) (fun M12 => some (v11, M12))))))))
set_option maxRecDepth 100000 in
set_option maxHeartbeats 4000000 in
theorem b7_change {w : WE} {g : GT} (C : CT w g RX7 cX7_change rm7_change 4) (RT : RTi w g cX7_change .int) (o0 : Nat) (h0 : typ o0 = 7) (x1 : Int32) (x2 : Int32) (M : Mem) : J w g (s7_change o0 x1 x2 M) M 0 [(0, .ref (wa w o0)), (1, .int x1), (2, .int x2)] [] := by
  rw [s7_change]
  refine J_iload_n C dX7_change_0 rfl 1 rfl ?_
  refine J_ite (fun hc0 => ?_) (fun hc0 => ?_)
  · refine J_tsin (tgt := 36) C dX7_change_1 (by rw [hc0]; decide) (by rw [hc0]; decide) (off := 35) (by rw [hc0]; rfl) (by decide) ?_
    refine J_aload_n C dX7_change_36 rfl 0 rfl ?_
    refine J_geti C fk7_4 W1_132 h0 dX7_change_37 ?_
    refine J_ilet (fun v1 => ?_)
    refine J_istore_n (lv' := [(3, .int v1), (0, .ref (wa w o0)), (1, .int x1), (2, .int x2)]) C dX7_change_40 rfl (by decide) rfl ?_
    refine J_aload_n C dX7_change_41 rfl 1 rfl ?_
    refine J_iload_n C dX7_change_42 rfl 3 rfl ?_
    refine J_puti C fk7_4 W1_132 fp7_4 h0 dX7_change_43 ?_
    refine J_mlet (fun M2 => ?_)
    refine J_goto (tgt := 111) C dX7_change_46 (by decide) ?_
    refine J_iload_n C dX7_change_111 rfl 0 rfl ?_
    exact J_iret C RT rfl dX7_change_112
  · refine J_ite (fun hc1 => ?_) (fun hc1 => ?_)
    · refine J_tsin (tgt := 49) C dX7_change_1 (by rw [hc1]; decide) (by rw [hc1]; decide) (off := 48) (by rw [hc1]; rfl) (by decide) ?_
      refine J_aload_n C dX7_change_49 rfl 0 rfl ?_
      refine J_geti C fk7_5 W1_134 h0 dX7_change_50 ?_
      refine J_ilet (fun v3 => ?_)
      refine J_istore_n (lv' := [(3, .int v3), (0, .ref (wa w o0)), (1, .int x1), (2, .int x2)]) C dX7_change_53 rfl (by decide) rfl ?_
      refine J_aload_n C dX7_change_54 rfl 1 rfl ?_
      refine J_iload_n C dX7_change_55 rfl 3 rfl ?_
      refine J_puti C fk7_5 W1_134 fp7_5 h0 dX7_change_56 ?_
      refine J_mlet (fun M4 => ?_)
      refine J_goto (tgt := 111) C dX7_change_59 (by decide) ?_
      refine J_iload_n C dX7_change_111 rfl 0 rfl ?_
      exact J_iret C RT rfl dX7_change_112
    · refine J_ite (fun hc2 => ?_) (fun hc2 => ?_)
      · refine J_tsin (tgt := 62) C dX7_change_1 (by rw [hc2]; decide) (by rw [hc2]; decide) (off := 61) (by rw [hc2]; rfl) (by decide) ?_
        refine J_aload_n C dX7_change_62 rfl 0 rfl ?_
        refine J_geti C fk7_6 W1_138 h0 dX7_change_63 ?_
        refine J_ilet (fun v5 => ?_)
        refine J_istore_n (lv' := [(3, .int v5), (0, .ref (wa w o0)), (1, .int x1), (2, .int x2)]) C dX7_change_66 rfl (by decide) rfl ?_
        refine J_aload_n C dX7_change_67 rfl 1 rfl ?_
        refine J_iload_n C dX7_change_68 rfl 3 rfl ?_
        refine J_puti C fk7_6 W1_138 fp7_6 h0 dX7_change_69 ?_
        refine J_mlet (fun M6 => ?_)
        refine J_goto (tgt := 111) C dX7_change_72 (by decide) ?_
        refine J_iload_n C dX7_change_111 rfl 0 rfl ?_
        exact J_iret C RT rfl dX7_change_112
      · refine J_ite (fun hc3 => ?_) (fun hc3 => ?_)
        · refine J_tsin (tgt := 75) C dX7_change_1 (by rw [hc3]; decide) (by rw [hc3]; decide) (off := 74) (by rw [hc3]; rfl) (by decide) ?_
          refine J_aload_n C dX7_change_75 rfl 0 rfl ?_
          refine J_geti C fk7_7 W1_141 h0 dX7_change_76 ?_
          refine J_ilet (fun v7 => ?_)
          refine J_istore_n (lv' := [(3, .int v7), (0, .ref (wa w o0)), (1, .int x1), (2, .int x2)]) C dX7_change_79 rfl (by decide) rfl ?_
          refine J_aload_n C dX7_change_80 rfl 1 rfl ?_
          refine J_iload_n C dX7_change_81 rfl 3 rfl ?_
          refine J_puti C fk7_7 W1_141 fp7_7 h0 dX7_change_82 ?_
          refine J_mlet (fun M8 => ?_)
          refine J_goto (tgt := 111) C dX7_change_85 (by decide) ?_
          refine J_iload_n C dX7_change_111 rfl 0 rfl ?_
          exact J_iret C RT rfl dX7_change_112
        · refine J_ite (fun hc4 => ?_) (fun hc4 => ?_)
          · refine J_tsin (tgt := 88) C dX7_change_1 (by rw [hc4]; decide) (by rw [hc4]; decide) (off := 87) (by rw [hc4]; rfl) (by decide) ?_
            refine J_aload_n C dX7_change_88 rfl 0 rfl ?_
            refine J_geti C fk7_8 W1_142 h0 dX7_change_89 ?_
            refine J_ilet (fun v9 => ?_)
            refine J_istore_n (lv' := [(3, .int v9), (0, .ref (wa w o0)), (1, .int x1), (2, .int x2)]) C dX7_change_92 rfl (by decide) rfl ?_
            refine J_aload_n C dX7_change_93 rfl 1 rfl ?_
            refine J_iload_n C dX7_change_94 rfl 3 rfl ?_
            refine J_puti C fk7_8 W1_142 fp7_8 h0 dX7_change_95 ?_
            refine J_mlet (fun M10 => ?_)
            refine J_goto (tgt := 111) C dX7_change_98 (by decide) ?_
            refine J_iload_n C dX7_change_111 rfl 0 rfl ?_
            exact J_iret C RT rfl dX7_change_112
          · refine J_tsout (tgt := 101) C dX7_change_1 (by have q0 := lv_neT hc0 (a := 0) rfl; have q1 := lv_neT hc1 (a := 1) rfl; have q2 := lv_neT hc2 (a := 2) rfl; have q3 := lv_neT hc3 (a := 3) rfl; have q4 := lv_neT hc4 (a := 4) rfl; omega) (by decide) ?_
            refine J_aload_n C dX7_change_101 rfl 0 rfl ?_
            refine J_geti C fk7_3 W1_130 h0 dX7_change_102 ?_
            refine J_ilet (fun v11 => ?_)
            refine J_istore_n (lv' := [(3, .int v11), (0, .ref (wa w o0)), (1, .int x1), (2, .int x2)]) C dX7_change_105 rfl (by decide) rfl ?_
            refine J_aload_n C dX7_change_106 rfl 1 rfl ?_
            refine J_iload_n C dX7_change_107 rfl 3 rfl ?_
            refine J_puti C fk7_3 W1_130 fp7_3 h0 dX7_change_108 ?_
            refine J_mlet (fun M12 => ?_)
            refine J_iload_n C dX7_change_111 rfl 0 rfl ?_
            exact J_iret C RT rfl dX7_change_112
theorem c7_change (l : Launch) (w : WE) (o0 : Nat) (h0 : typ o0 = 7) (x1 : Int32) (x2 : Int32) (M : Mem) : MC l w yX7_change (wz yX7_change cX7_change 4 (some .int)) rm7_change [.ref (wa w o0), .int x1, .int x2] (s7_change o0 x1 x2 M) M :=
  mc_of_J (own := RX7) rfl (by decide) rfl rfl (Nat.le_of_ble_eq_true rfl) (fun _ _ C RT => b7_change C RT o0 h0 x1 x2 M)
theorem hdX7_change : yX7_change.cls = RX7 ∧ yOK yX7_change 2 := ⟨rfl, by decide, by decide, by decide⟩
abbrev rm7_tell : Room := { frames := 0, cells := 0, slots := 0, locals := 0 }
def s7_tell (o0 : Nat) (x1 : Int32) (M : Mem) : Option Res := if x1 = 0 then (some (M o0 0, M)) else (if x1 = 1 then (some (M o0 1, M)) else (if x1 = 2 then (if (M o0 2) = 0 then (some ((0 : Int32), M)) else (some ((1 : Int32), M))) else (if x1 = 3 then (some (M o0 3, M)) else (if x1 = 4 then (some (M o0 4, M)) else (some (M o0 5, M))))))
set_option maxRecDepth 100000 in
set_option maxHeartbeats 4000000 in
theorem b7_tell {w : WE} {g : GT} (C : CT w g RX7 cX7_tell rm7_tell 2) (RT : RTi w g cX7_tell .int) (o0 : Nat) (h0 : typ o0 = 7) (x1 : Int32) (M : Mem) : J w g (s7_tell o0 x1 M) M 0 [(0, .ref (wa w o0)), (1, .int x1)] [] := by
  rw [s7_tell]
  refine J_iload_n C dX7_tell_0 rfl 1 rfl ?_
  refine J_ite (fun hc0 => ?_) (fun hc0 => ?_)
  · refine J_tsin (tgt := 36) C dX7_tell_1 (by rw [hc0]; decide) (by rw [hc0]; decide) (off := 35) (by rw [hc0]; rfl) (by decide) ?_
    refine J_aload_n C dX7_tell_36 rfl 0 rfl ?_
    refine J_geti C fk7_0 W1_120 h0 dX7_tell_37 ?_
    exact J_iret C RT rfl dX7_tell_40
  · refine J_ite (fun hc1 => ?_) (fun hc1 => ?_)
    · refine J_tsin (tgt := 41) C dX7_tell_1 (by rw [hc1]; decide) (by rw [hc1]; decide) (off := 40) (by rw [hc1]; rfl) (by decide) ?_
      refine J_aload_n C dX7_tell_41 rfl 0 rfl ?_
      refine J_geti C fk7_1 W1_125 h0 dX7_tell_42 ?_
      exact J_iret C RT rfl dX7_tell_45
    · refine J_ite (fun hc2 => ?_) (fun hc2 => ?_)
      · refine J_tsin (tgt := 46) C dX7_tell_1 (by rw [hc2]; decide) (by rw [hc2]; decide) (off := 45) (by rw [hc2]; rfl) (by decide) ?_
        refine J_aload_n C dX7_tell_46 rfl 0 rfl ?_
        refine J_geti C fk7_2 W1_127 h0 dX7_tell_47 ?_
        refine J_if_eq (tgt := 57) C dX7_tell_50 (by decide) (fun _ => ?_) (fun _ => ?_)
        · refine J_iconst C dX7_tell_57 kci_0 ?_
          exact J_iret C RT rfl dX7_tell_58
        · refine J_iconst C dX7_tell_53 kci_1 ?_
          refine J_goto (tgt := 58) C dX7_tell_54 (by decide) ?_
          exact J_iret C RT rfl dX7_tell_58
      · refine J_ite (fun hc3 => ?_) (fun hc3 => ?_)
        · refine J_tsin (tgt := 59) C dX7_tell_1 (by rw [hc3]; decide) (by rw [hc3]; decide) (off := 58) (by rw [hc3]; rfl) (by decide) ?_
          refine J_aload_n C dX7_tell_59 rfl 0 rfl ?_
          refine J_geti C fk7_3 W1_130 h0 dX7_tell_60 ?_
          exact J_iret C RT rfl dX7_tell_63
        · refine J_ite (fun hc4 => ?_) (fun hc4 => ?_)
          · refine J_tsin (tgt := 64) C dX7_tell_1 (by rw [hc4]; decide) (by rw [hc4]; decide) (off := 63) (by rw [hc4]; rfl) (by decide) ?_
            refine J_aload_n C dX7_tell_64 rfl 0 rfl ?_
            refine J_geti C fk7_4 W1_132 h0 dX7_tell_65 ?_
            exact J_iret C RT rfl dX7_tell_68
          · refine J_tsout (tgt := 69) C dX7_tell_1 (by have q0 := lv_neT hc0 (a := 0) rfl; have q1 := lv_neT hc1 (a := 1) rfl; have q2 := lv_neT hc2 (a := 2) rfl; have q3 := lv_neT hc3 (a := 3) rfl; have q4 := lv_neT hc4 (a := 4) rfl; omega) (by decide) ?_
            refine J_aload_n C dX7_tell_69 rfl 0 rfl ?_
            refine J_geti C fk7_5 W1_134 h0 dX7_tell_70 ?_
            exact J_iret C RT rfl dX7_tell_73
theorem c7_tell (l : Launch) (w : WE) (o0 : Nat) (h0 : typ o0 = 7) (x1 : Int32) (M : Mem) : MC l w yX7_tell (wz yX7_tell cX7_tell 2 (some .int)) rm7_tell [.ref (wa w o0), .int x1] (s7_tell o0 x1 M) M :=
  mc_of_J (own := RX7) rfl (by decide) rfl rfl (Nat.le_of_ble_eq_true rfl) (fun _ _ C RT => b7_tell C RT o0 h0 x1 M)
theorem hdX7_tell : yX7_tell.cls = RX7 ∧ yOK yX7_tell 1 := ⟨rfl, by decide, by decide, by decide⟩
abbrev rm8_refuse : Room := { frames := 0, cells := 0, slots := 0, locals := 0 }
def s8_refuse (o0 : Nat) (x1 : Int32) (M : Mem) : Option Res := if x1 < (1 : Int32) then (some (-x1, M)) else (if (6 : Int32) < x1 then (some (-x1, M)) else (if inB x1 (alen (link o0 6)) then if inB x1 (alen (link o0 6)) then mlet (mset M (link o0 6) x1.toNatClampNeg ((M (link o0 6) x1.toNatClampNeg) + (1 : Int32))) (fun M1 => some (-x1, M1)) else none else none))
set_option maxRecDepth 100000 in
set_option maxHeartbeats 4000000 in
theorem b8_refuse {w : WE} {g : GT} (C : CT w g RX8 cX8_refuse rm8_refuse 2) (RT : RTi w g cX8_refuse .int) (o0 : Nat) (h0 : typ o0 = 8) (x1 : Int32) (M : Mem) : J w g (s8_refuse o0 x1 M) M 0 [(0, .ref (wa w o0)), (1, .int x1)] [] := by
  rw [s8_refuse]
  refine J_iload_n C dX8_refuse_0 rfl 1 rfl ?_
  refine J_iconst C dX8_refuse_1 kci_1 ?_
  refine J_icmp_lt (tgt := 21) C dX8_refuse_2 (by decide) (fun _ => ?_) (fun _ => ?_)
  · refine J_iload_n C dX8_refuse_21 rfl 1 rfl ?_
    refine J_ineg C dX8_refuse_22 ?_
    exact J_iret C RT rfl dX8_refuse_23
  · refine J_iload_n C dX8_refuse_5 rfl 1 rfl ?_
    refine J_bipush C dX8_refuse_6 kcb_6 ?_
    refine J_icmp_gt (tgt := 21) C dX8_refuse_8 (by decide) (fun _ => ?_) (fun _ => ?_)
    · refine J_iload_n C dX8_refuse_21 rfl 1 rfl ?_
      refine J_ineg C dX8_refuse_22 ?_
      exact J_iret C RT rfl dX8_refuse_23
    · refine J_aload_n C dX8_refuse_11 rfl 0 rfl ?_
      refine J_getr C fk8_6 W2_43 h0 dX8_refuse_12 ?_
      refine J_iload_n C dX8_refuse_15 rfl 1 rfl ?_
      refine J_dup2 C rfl rfl dX8_refuse_16 ?_
      refine J_aload_ C (tl_8_6 h0) dX8_refuse_17 ?_
      refine J_iconst C dX8_refuse_18 kci_1 ?_
      refine J_iadd C dX8_refuse_19 ?_
      refine J_iastore C (tl_8_6 h0) dX8_refuse_20 ?_
      refine J_mlet (fun M1 => ?_)
      refine J_iload_n C dX8_refuse_21 rfl 1 rfl ?_
      refine J_ineg C dX8_refuse_22 ?_
      exact J_iret C RT rfl dX8_refuse_23
theorem c8_refuse (l : Launch) (w : WE) (o0 : Nat) (h0 : typ o0 = 8) (x1 : Int32) (M : Mem) : MC l w yX8_refuse (wz yX8_refuse cX8_refuse 2 (some .int)) rm8_refuse [.ref (wa w o0), .int x1] (s8_refuse o0 x1 M) M :=
  mc_of_J (own := RX8) rfl (by decide) rfl rfl (Nat.le_of_ble_eq_true rfl) (fun _ _ C RT => b8_refuse C RT o0 h0 x1 M)
theorem hdX8_refuse : yX8_refuse.cls = RX8 ∧ yOK yX8_refuse 1 := ⟨rfl, by decide, by decide, by decide⟩
abbrev rm8_feed : Room := { frames := 1, cells := 0, slots := 0, locals := 24 }
def s8_feed (n : Nat) (o0 : Nat) (x1 : Int32) (y2 : Int64) (M : Mem) : Option Res := if (1 : Int32) ≤ x1 then (if (8 : Int32) < x1 then (cb (s8_refuse o0 (6 : Int32) M) (fun r2 M1 => some (r2, M1))) else (if ((M (link o0 5) 4) + x1) ≤ (64 : Int32) then (cb (s6_append n (link o0 5) x1 y2 M) (fun _ M3 => some (M3 (link o0 5) 4, M3))) else (cb (s8_refuse o0 (6 : Int32) M) (fun r6 M5 => some (r6, M5))))) else (cb (s8_refuse o0 (4 : Int32) M) (fun r8 M7 => some (r8, M7)))
set_option maxRecDepth 100000 in
set_option maxHeartbeats 4000000 in
theorem b8_feed {w : WE} {g : GT} (C : CT w g RX8 cX8_feed rm8_feed 4) (RT : RTi w g cX8_feed .int) (n : Nat) (o0 : Nat) (h0 : typ o0 = 8) (x1 : Int32) (y2 : Int64) (M : Mem) : J w g (s8_feed n o0 x1 y2 M) M 0 [(0, .ref (wa w o0)), (1, .int x1), (2, .long y2)] [] := by
  rw [s8_feed]
  refine J_iload_n C dX8_feed_0 rfl 1 rfl ?_
  refine J_iconst C dX8_feed_1 kci_1 ?_
  refine J_icmp_ge (tgt := 11) C dX8_feed_2 (by decide) (fun _ => ?_) (fun _ => ?_)
  · refine J_iload_n C dX8_feed_11 rfl 1 rfl ?_
    refine J_bipush C dX8_feed_12 kcb_8 ?_
    refine J_icmp_gt (tgt := 31) C dX8_feed_14 (by decide) (fun _ => ?_) (fun _ => ?_)
    · refine J_aload_n C dX8_feed_31 rfl 0 rfl ?_
      refine J_bipush C dX8_feed_32 kcb_6 ?_
      refine J_cvi (As := [.int (6 : Int32)]) C (c8_refuse (gl g) w o0 h0 (6 : Int32) M) (gd_v W2_66 W2_68 WP_0 W1_1 W2_69) rfl (by decide) (hdX8_refuse) h0 (by decide) (cl_8) rfl (Nat.le_of_ble_eq_true rfl) dX8_feed_34 rfl (fun r2 M1 => ?_)
      exact J_iret C RT rfl dX8_feed_37
    · refine J_aload_n C dX8_feed_17 rfl 0 rfl ?_
      refine J_getr C fk8_5 W2_42 h0 dX8_feed_18 ?_
      refine J_geti C fk6_4 W2_20 (tl_8_5 h0) dX8_feed_21 ?_
      refine J_iload_n C dX8_feed_24 rfl 1 rfl ?_
      refine J_iadd C dX8_feed_25 ?_
      refine J_bipush C dX8_feed_26 kcb_64 ?_
      refine J_icmp_le (tgt := 38) C dX8_feed_28 (by decide) (fun _ => ?_) (fun _ => ?_)
      · refine J_aload_n C dX8_feed_38 rfl 0 rfl ?_
        refine J_getr C fk8_5 W2_42 h0 dX8_feed_39 ?_
        refine J_iload_n C dX8_feed_42 rfl 1 rfl ?_
        refine J_lload_n C dX8_feed_43 rfl 2 rfl ?_
        refine J_cvv (As := [.int x1, .long y2]) C (c6_append (gl g) w n (link o0 5) (tl_8_5 h0) x1 y2 M) (gd_v W2_70 W2_71 W2_72 W1_9 W2_73) rfl (by decide) (hdX6_append) (tl_8_5 h0) (by decide) (cl_6) rfl (Nat.le_of_ble_eq_true rfl) dX8_feed_44 rfl (fun r4 M3 => ?_)
        refine J_aload_n C dX8_feed_47 rfl 0 rfl ?_
        refine J_getr C fk8_5 W2_42 h0 dX8_feed_48 ?_
        refine J_geti C fk6_4 W2_20 (tl_8_5 h0) dX8_feed_51 ?_
        exact J_iret C RT rfl dX8_feed_54
      · refine J_aload_n C dX8_feed_31 rfl 0 rfl ?_
        refine J_bipush C dX8_feed_32 kcb_6 ?_
        refine J_cvi (As := [.int (6 : Int32)]) C (c8_refuse (gl g) w o0 h0 (6 : Int32) M) (gd_v W2_66 W2_68 WP_0 W1_1 W2_69) rfl (by decide) (hdX8_refuse) h0 (by decide) (cl_8) rfl (Nat.le_of_ble_eq_true rfl) dX8_feed_34 rfl (fun r6 M5 => ?_)
        exact J_iret C RT rfl dX8_feed_37
  · refine J_aload_n C dX8_feed_5 rfl 0 rfl ?_
    refine J_iconst C dX8_feed_6 kci_4 ?_
    refine J_cvi (As := [.int (4 : Int32)]) C (c8_refuse (gl g) w o0 h0 (4 : Int32) M) (gd_v W2_66 W2_68 WP_0 W1_1 W2_69) rfl (by decide) (hdX8_refuse) h0 (by decide) (cl_8) rfl (Nat.le_of_ble_eq_true rfl) dX8_feed_7 rfl (fun r8 M7 => ?_)
    exact J_iret C RT rfl dX8_feed_10
theorem c8_feed (l : Launch) (w : WE) (n : Nat) (o0 : Nat) (h0 : typ o0 = 8) (x1 : Int32) (y2 : Int64) (M : Mem) : MC l w yX8_feed (wz yX8_feed cX8_feed 4 (some .int)) rm8_feed [.ref (wa w o0), .int x1, .long y2] (s8_feed n o0 x1 y2 M) M :=
  mc_of_J (own := RX8) rfl (by decide) rfl rfl (Nat.le_of_ble_eq_true rfl) (fun _ _ C RT => b8_feed C RT n o0 h0 x1 y2 M)
theorem hdX8_feed : yX8_feed.cls = RX8 ∧ yOK yX8_feed 2 := ⟨rfl, by decide, by decide, by decide⟩
