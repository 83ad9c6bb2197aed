abbrev rm9_mayReach : Room := { frames := 1, cells := 0, slots := 0, locals := 23 }
def s9_mayReach (n : Nat) (o0 : Nat) (x1 : Int32) (x2 : Int32) (M : Mem) : Option Res := if inB x1 (alen (link o0 2)) then cb (s9_far n o0 (M (link o0 2) x1.toNatClampNeg) x2 M) (fun r2 M1 => if inB x1 (alen (link o0 8)) then if (M1 (link o0 8) x1.toNatClampNeg) < r2 then (some ((0 : Int32), M1)) else (some ((1 : Int32), M1)) else none) else none
set_option maxRecDepth 100000 in
set_option maxHeartbeats 4000000 in
theorem b9_mayReach {w : WE} {g : GT} (C : CT w g RX9 cX9_mayReach rm9_mayReach 3) (RT : RTi w g cX9_mayReach .boolean) (n : Nat) (o0 : Nat) (h0 : typ o0 = 9) (x1 : Int32) (x2 : Int32) (M : Mem) : J w g (s9_mayReach n o0 x1 x2 M) M 0 [(0, .ref (wa w o0)), (1, .int x1), (2, .int x2)] [] := by
  rw [s9_mayReach]
  refine J_aload_n C dX9_mayReach_0 rfl 0 rfl ?_
  refine J_aload_n C dX9_mayReach_1 rfl 0 rfl ?_
  refine J_getr C fk9_2 W4_179 h0 dX9_mayReach_2 ?_
  refine J_iload_n C dX9_mayReach_5 rfl 1 rfl ?_
  refine J_aload_ C (tl_9_2 h0) dX9_mayReach_6 ?_
  refine J_iload_n C dX9_mayReach_7 rfl 2 rfl ?_
  refine J_cvi (As := [.int (M (link o0 2) x1.toNatClampNeg), .int x2]) C (c9_far (gl g) w n o0 h0 (M (link o0 2) x1.toNatClampNeg) x2 M) (gd_v W5_144 W5_146 WP_33 W1_10 W5_147) rfl (by decide) (hdX9_far) h0 (by decide) (cl_9) rfl (Nat.le_of_ble_eq_true rfl) dX9_mayReach_8 rfl (fun r2 M1 => ?_)
  refine J_aload_n C dX9_mayReach_11 rfl 0 rfl ?_
  refine J_getr C fk9_8 W4_185 h0 dX9_mayReach_12 ?_
  refine J_iload_n C dX9_mayReach_15 rfl 1 rfl ?_
  refine J_aload_ C (tl_9_8 h0) dX9_mayReach_16 ?_
  refine J_icmp_gt (tgt := 24) C dX9_mayReach_17 (by decide) (fun _ => ?_) (fun _ => ?_)
  · refine J_iconst C dX9_mayReach_24 kci_0 ?_
    exact J_iret C RT (by decide) dX9_mayReach_25
  · refine J_iconst C dX9_mayReach_20 kci_1 ?_
    refine J_goto (tgt := 25) C dX9_mayReach_21 (by decide) ?_
    exact J_iret C RT (by decide) dX9_mayReach_25
theorem c9_mayReach (l : Launch) (w : WE) (n : Nat) (o0 : Nat) (h0 : typ o0 = 9) (x1 : Int32) (x2 : Int32) (M : Mem) : MC l w yX9_mayReach (wz yX9_mayReach cX9_mayReach 3 (some .boolean)) rm9_mayReach [.ref (wa w o0), .int x1, .int x2] (s9_mayReach n o0 x1 x2 M) M :=
  mc_of_J (own := RX9) rfl (by decide) rfl rfl (Nat.le_of_ble_eq_true rfl) (fun _ _ C RT => b9_mayReach C RT n o0 h0 x1 x2 M)
theorem hdX9_mayReach : yX9_mayReach.cls = RX9 ∧ yOK yX9_mayReach 2 := ⟨rfl, by decide, by decide, by decide⟩
abbrev rm9_seatsOne : Room := { frames := 2, cells := 0, slots := 0, locals := 47 }
def s9_seatsOne_102 (n : Nat) (k6 : Int32 → Int32 → Int32 → Mem → Option Res) (k38 : Int32 → Int32 → Int32 → Mem → Option Res) (o0 : Nat) (x3 : Int32) (x4 : Int32) (M : Mem) : Option Res := ilet (x4 + 1) (fun v10 => k38 x3 x4 v10 M)
set_option maxRecDepth 100000 in
set_option maxHeartbeats 4000000 in
theorem b9_seatsOne_102 {w : WE} {g : GT} (C : CT w g RX9 cX9_seatsOne rm9_seatsOne 5) (RT : RTi w g cX9_seatsOne .boolean) (n : Nat) (k6 : Int32 → Int32 → Int32 → Mem → Option Res) (k38 : Int32 → Int32 → Int32 → Mem → Option Res) (o0 : Nat) (h0 : typ o0 = 9) (x3 : Int32) (x4 : Int32) (hk6 : ∀ (z1 : Int32) (z2 : Int32) (z3 : Int32) (M : Mem), J w g (k6 z1 z2 z3 M) M 6 [(0, .ref (wa w o0)), (1, .int z1), (2, .int z2), (3, .int z3)] []) (hk38 : ∀ (z1 : Int32) (z2 : Int32) (z4 : Int32) (M : Mem), J w g (k38 z1 z2 z4 M) M 38 [(0, .ref (wa w o0)), (1, .int z1), (2, .int z2), (3, .int x3), (4, .int z4)] []) (M : Mem) : J w g (s9_seatsOne_102 n k6 k38 o0 x3 x4 M) M 102 [(0, .ref (wa w o0)), (3, .int x3), (4, .int x4)] [] := by
  rw [s9_seatsOne_102]
  refine J_iload_n C dX9_seatsOne_102 rfl 1 rfl ?_
  refine J_istore_n (lv' := [(1, .int x3), (0, .ref (wa w o0)), (3, .int x3), (4, .int x4)]) C dX9_seatsOne_103 rfl (by decide) rfl ?_
  refine J_iload C dX9_seatsOne_104 3 rfl ?_
  refine J_istore_n (lv' := [(2, .int x4), (1, .int x3), (0, .ref (wa w o0)), (3, .int x3), (4, .int x4)]) C dX9_seatsOne_106 rfl (by decide) rfl ?_
  refine J_iinc (lw := fun v10 => [(4, .int v10), (2, .int x4), (1, .int x3), (0, .ref (wa w o0)), (3, .int x3)]) (X := x4 + 1) C dX9_seatsOne_107 (q := 4) rfl (by rw [kci_1]) (by decide) (fun _ => rfl) (fun v10 => ?_)
  refine J_goto (tgt := 38) C dX9_seatsOne_110 (by decide) ?_
  refine J_lv [3, 2, 1, 4, 0] rfl ?_
  exact hk38 x3 x4 v10 M
def s9_seatsOne_38 (n : Nat) (k6 : Int32 → Int32 → Int32 → Mem → Option Res) (o0 : Nat) (x3 : Int32) : Nat → Int32 → Int32 → Int32 → Mem → Option Res
  | 0, _, _, _, _ => none
  | f + 1, x1, x2, x4, M => if (M o0 11) ≤ x4 then (ilet (x3 + 1) (fun v3 => k6 x1 x2 v3 M)) else (if inB x4 (alen (link o0 1)) then if (M (link o0 1) x4.toNatClampNeg) = 0 then (ilet (x4 + 1) (fun v4 => s9_seatsOne_38 n k6 o0 x3 f x1 x2 v4 M)) else (cb (s9_isSeat n o0 x4 M) (fun r6 M5 => if r6 = 0 then (cb (s9_mayReach n o0 x3 x4 M5) (fun r9 M8 => if r9 = 0 then (ilet (x4 + 1) (fun v16 => s9_seatsOne_38 n k6 o0 x3 f x1 x2 v16 M8)) else (if x1 < 0 then (s9_seatsOne_102 n k6 (s9_seatsOne_38 n k6 o0 x3 f) o0 x3 x4 M8) else (cb (s9_hasteOf n o0 x3 x4 M8) (fun r12 M11 => cb (s9_hasteOf n o0 x1 x2 M11) (fun r14 M13 => if r12 < r14 then (s9_seatsOne_102 n k6 (s9_seatsOne_38 n k6 o0 x3 f) o0 x3 x4 M13) else (ilet (x4 + 1) (fun v15 => s9_seatsOne_38 n k6 o0 x3 f x1 x2 v15 M13)))))))) else (ilet (x4 + 1) (fun v7 => s9_seatsOne_38 n k6 o0 x3 f x1 x2 v7 M5)))) else none)
set_option maxRecDepth 100000 in
set_option maxHeartbeats 4000000 in
theorem b9_seatsOne_38 {w : WE} {g : GT} (C : CT w g RX9 cX9_seatsOne rm9_seatsOne 5) (RT : RTi w g cX9_seatsOne .boolean) (n : Nat) (k6 : Int32 → Int32 → Int32 → Mem → Option Res) (o0 : Nat) (h0 : typ o0 = 9) (x3 : Int32) (hk6 : ∀ (z1 : Int32) (z2 : Int32) (z3 : Int32) (M : Mem), J w g (k6 z1 z2 z3 M) M 6 [(0, .ref (wa w o0)), (1, .int z1), (2, .int z2), (3, .int z3)] []) : ∀ (f : Nat) (x1 : Int32) (x2 : Int32) (x4 : Int32) (M : Mem), J w g (s9_seatsOne_38 n k6 o0 x3 f x1 x2 x4 M) M 38 [(0, .ref (wa w o0)), (1, .int x1), (2, .int x2), (3, .int x3), (4, .int x4)] [] := by
  intro f
  induction f with
  | zero =>
    intro x1 x2 x4 M
    rw [s9_seatsOne_38]
    exact J_none
  | succ f ih =>
    intro x1 x2 x4 M
    rw [s9_seatsOne_38]
    refine J_iload C dX9_seatsOne_38 4 rfl ?_
    refine J_aload_n C dX9_seatsOne_40 rfl 0 rfl ?_
    refine J_geti C fk9_11 W4_188 h0 dX9_seatsOne_41 ?_
    refine J_icmp_ge (tgt := 113) C dX9_seatsOne_44 (by decide) (fun _ => ?_) (fun _ => ?_)
    · refine J_iinc (lw := fun v3 => [(3, .int v3), (0, .ref (wa w o0)), (1, .int x1), (2, .int x2), (4, .int x4)]) (X := x3 + 1) C dX9_seatsOne_113 (q := 3) rfl (by rw [kci_1]) (by decide) (fun _ => rfl) (fun v3 => ?_)
      refine J_goto (tgt := 6) C dX9_seatsOne_116 (by decide) ?_
      refine J_lv [1, 2, 3, 0] rfl ?_
      exact hk6 x1 x2 v3 M
    · refine J_aload_n C dX9_seatsOne_47 rfl 0 rfl ?_
      refine J_getr C fk9_1 W4_178 h0 dX9_seatsOne_48 ?_
      refine J_iload C dX9_seatsOne_51 4 rfl ?_
      refine J_aload_ C (tl_9_1 h0) dX9_seatsOne_53 ?_
      refine J_if_eq (tgt := 107) C dX9_seatsOne_54 (by decide) (fun _ => ?_) (fun _ => ?_)
      · refine J_iinc (lw := fun v4 => [(4, .int v4), (0, .ref (wa w o0)), (1, .int x1), (2, .int x2), (3, .int x3)]) (X := x4 + 1) C dX9_seatsOne_107 (q := 4) rfl (by rw [kci_1]) (by decide) (fun _ => rfl) (fun v4 => ?_)
        refine J_goto (tgt := 38) C dX9_seatsOne_110 (by decide) ?_
        refine J_lv [1, 2, 3, 4, 0] rfl ?_
        exact ih x1 x2 v4 M
      · refine J_aload_n C dX9_seatsOne_57 rfl 0 rfl ?_
        refine J_iload C dX9_seatsOne_58 4 rfl ?_
        refine J_cvi (As := [.int x4]) C (c9_isSeat (gl g) w n o0 h0 x4 M) (gd_v W5_228 W5_230 WP_50 W1_10 W5_231) rfl (by decide) (hdX9_isSeat) h0 (by decide) (cl_9) rfl (Nat.le_of_ble_eq_true rfl) dX9_seatsOne_60 rfl (fun r6 M5 => ?_)
        refine J_if_ne (tgt := 107) C dX9_seatsOne_63 (by decide) (fun _ => ?_) (fun _ => ?_)
        · refine J_iinc (lw := fun v7 => [(4, .int v7), (0, .ref (wa w o0)), (1, .int x1), (2, .int x2), (3, .int x3)]) (X := x4 + 1) C dX9_seatsOne_107 (q := 4) rfl (by rw [kci_1]) (by decide) (fun _ => rfl) (fun v7 => ?_)
          refine J_goto (tgt := 38) C dX9_seatsOne_110 (by decide) ?_
          refine J_lv [1, 2, 3, 4, 0] rfl ?_
          exact ih x1 x2 v7 M5
        · refine J_aload_n C dX9_seatsOne_66 rfl 0 rfl ?_
          refine J_iload_n C dX9_seatsOne_67 rfl 3 rfl ?_
          refine J_iload C dX9_seatsOne_68 4 rfl ?_
          refine J_cvi (As := [.int x3, .int x4]) C (c9_mayReach (gl g) w n o0 h0 x3 x4 M5) (gd_v W5_232 W5_234 WP_51 W1_10 W5_235) rfl (by decide) (hdX9_mayReach) h0 (by decide) (cl_9) rfl (Nat.le_of_ble_eq_true rfl) dX9_seatsOne_70 rfl (fun r9 M8 => ?_)
          refine J_if_ne (tgt := 79) C dX9_seatsOne_73 (by decide) (fun _ => ?_) (fun _ => ?_)
          · refine J_iload_n C dX9_seatsOne_79 rfl 1 rfl ?_
            refine J_if_lt (tgt := 102) C dX9_seatsOne_80 (by decide) (fun _ => ?_) (fun _ => ?_)
            · refine J_lv [0, 3, 4] rfl ?_
              exact b9_seatsOne_102 C RT n k6 (s9_seatsOne_38 n k6 o0 x3 f) o0 h0 x3 x4 hk6 ih M8
            · refine J_aload_n C dX9_seatsOne_83 rfl 0 rfl ?_
              refine J_iload_n C dX9_seatsOne_84 rfl 3 rfl ?_
              refine J_iload C dX9_seatsOne_85 4 rfl ?_
              refine J_cvi (As := [.int x3, .int x4]) C (c9_hasteOf (gl g) w n o0 h0 x3 x4 M8) (gd_v W5_140 W5_142 WP_32 W1_10 W5_143) rfl (by decide) (hdX9_hasteOf) h0 (by decide) (cl_9) rfl (Nat.le_of_ble_eq_true rfl) dX9_seatsOne_87 rfl (fun r12 M11 => ?_)
              refine J_aload_n C dX9_seatsOne_90 rfl 0 rfl ?_
              refine J_iload_n C dX9_seatsOne_91 rfl 1 rfl ?_
              refine J_iload_n C dX9_seatsOne_92 rfl 2 rfl ?_
              refine J_cvi (As := [.int x1, .int x2]) C (c9_hasteOf (gl g) w n o0 h0 x1 x2 M11) (gd_v W5_140 W5_142 WP_32 W1_10 W5_143) rfl (by decide) (hdX9_hasteOf) h0 (by decide) (cl_9) rfl (Nat.le_of_ble_eq_true rfl) dX9_seatsOne_93 rfl (fun r14 M13 => ?_)
              refine J_icmp_lt (tgt := 102) C dX9_seatsOne_96 (by decide) (fun _ => ?_) (fun _ => ?_)
              · refine J_lv [0, 3, 4] rfl ?_
                exact b9_seatsOne_102 C RT n k6 (s9_seatsOne_38 n k6 o0 x3 f) o0 h0 x3 x4 hk6 ih M13
              · refine J_goto (tgt := 107) C dX9_seatsOne_99 (by decide) ?_
                refine J_iinc (lw := fun v15 => [(4, .int v15), (0, .ref (wa w o0)), (1, .int x1), (2, .int x2), (3, .int x3)]) (X := x4 + 1) C dX9_seatsOne_107 (q := 4) rfl (by rw [kci_1]) (by decide) (fun _ => rfl) (fun v15 => ?_)
                refine J_goto (tgt := 38) C dX9_seatsOne_110 (by decide) ?_
                refine J_lv [1, 2, 3, 4, 0] rfl ?_
                exact ih x1 x2 v15 M13
          · refine J_goto (tgt := 107) C dX9_seatsOne_76 (by decide) ?_
            refine J_iinc (lw := fun v16 => [(4, .int v16), (0, .ref (wa w o0)), (1, .int x1), (2, .int x2), (3, .int x3)]) (X := x4 + 1) C dX9_seatsOne_107 (q := 4) rfl (by rw [kci_1]) (by decide) (fun _ => rfl) (fun v16 => ?_)
            refine J_goto (tgt := 38) C dX9_seatsOne_110 (by decide) ?_
            refine J_lv [1, 2, 3, 4, 0] rfl ?_
            exact ih x1 x2 v16 M8
def s9_seatsOne_6 (n : Nat) (o0 : Nat) : Nat → Int32 → Int32 → Int32 → Mem → Option Res
  | 0, _, _, _, _ => none
  | f + 1, x1, x2, x3, M => if (M o0 12) ≤ x3 then (if 0 ≤ x1 then (if inB x1 (alen (link o0 33)) then mlet (mset M (link o0 33) x1.toNatClampNeg x2) (fun M1 => some ((1 : Int32), M1)) else none) else (some ((0 : Int32), M))) else (if inB x3 (alen (link o0 4)) then if (M (link o0 4) x3.toNatClampNeg) = 0 then (ilet (x3 + 1) (fun v2 => s9_seatsOne_6 n o0 f x1 x2 v2 M)) else (if inB x3 (alen (link o0 33)) then if (M (link o0 33) x3.toNatClampNeg) < 0 then (s9_seatsOne_38 n (s9_seatsOne_6 n o0 f) o0 x3 n x1 x2 (0 : Int32) M) else (ilet (x3 + 1) (fun v17 => s9_seatsOne_6 n o0 f x1 x2 v17 M)) else none) else none)
set_option maxRecDepth 100000 in
set_option maxHeartbeats 4000000 in
theorem b9_seatsOne_6 {w : WE} {g : GT} (C : CT w g RX9 cX9_seatsOne rm9_seatsOne 5) (RT : RTi w g cX9_seatsOne .boolean) (n : Nat) (o0 : Nat) (h0 : typ o0 = 9) : ∀ (f : Nat) (x1 : Int32) (x2 : Int32) (x3 : Int32) (M : Mem), J w g (s9_seatsOne_6 n o0 f x1 x2 x3 M) M 6 [(0, .ref (wa w o0)), (1, .int x1), (2, .int x2), (3, .int x3)] [] := by
  intro f
  induction f with
  | zero =>
    intro x1 x2 x3 M
    rw [s9_seatsOne_6]
    exact J_none
  | succ f ih =>
    intro x1 x2 x3 M
    rw [s9_seatsOne_6]
    refine J_iload_n C dX9_seatsOne_6 rfl 3 rfl ?_
    refine J_aload_n C dX9_seatsOne_7 rfl 0 rfl ?_
    refine J_geti C fk9_12 W4_189 h0 dX9_seatsOne_8 ?_
    refine J_icmp_ge (tgt := 119) C dX9_seatsOne_11 (by decide) (fun _ => ?_) (fun _ => ?_)
    · refine J_iload_n C dX9_seatsOne_119 rfl 1 rfl ?_
      refine J_if_ge (tgt := 125) C dX9_seatsOne_120 (by decide) (fun _ => ?_) (fun _ => ?_)
      · refine J_aload_n C dX9_seatsOne_125 rfl 0 rfl ?_
        refine J_getr C fk9_33 W4_210 h0 dX9_seatsOne_126 ?_
        refine J_iload_n C dX9_seatsOne_129 rfl 1 rfl ?_
        refine J_iload_n C dX9_seatsOne_130 rfl 2 rfl ?_
        refine J_iastore C (tl_9_33 h0) dX9_seatsOne_131 ?_
        refine J_mlet (fun M1 => ?_)
        refine J_iconst C dX9_seatsOne_132 kci_1 ?_
        exact J_iret C RT (by decide) dX9_seatsOne_133
      · refine J_iconst C dX9_seatsOne_123 kci_0 ?_
        exact J_iret C RT (by decide) dX9_seatsOne_124
    · refine J_aload_n C dX9_seatsOne_14 rfl 0 rfl ?_
      refine J_getr C fk9_4 W4_181 h0 dX9_seatsOne_15 ?_
      refine J_iload_n C dX9_seatsOne_18 rfl 3 rfl ?_
      refine J_aload_ C (tl_9_4 h0) dX9_seatsOne_19 ?_
      refine J_if_eq (tgt := 113) C dX9_seatsOne_20 (by decide) (fun _ => ?_) (fun _ => ?_)
      · refine J_iinc (lw := fun v2 => [(3, .int v2), (0, .ref (wa w o0)), (1, .int x1), (2, .int x2)]) (X := x3 + 1) C dX9_seatsOne_113 (q := 3) rfl (by rw [kci_1]) (by decide) (fun _ => rfl) (fun v2 => ?_)
        refine J_goto (tgt := 6) C dX9_seatsOne_116 (by decide) ?_
        refine J_lv [1, 2, 3, 0] rfl ?_
        exact ih x1 x2 v2 M
      · refine J_aload_n C dX9_seatsOne_23 rfl 0 rfl ?_
        refine J_getr C fk9_33 W4_210 h0 dX9_seatsOne_24 ?_
        refine J_iload_n C dX9_seatsOne_27 rfl 3 rfl ?_
        refine J_aload_ C (tl_9_33 h0) dX9_seatsOne_28 ?_
        refine J_if_lt (tgt := 35) C dX9_seatsOne_29 (by decide) (fun _ => ?_) (fun _ => ?_)
        · refine J_iconst C dX9_seatsOne_35 kci_0 ?_
          refine J_istore (lv' := [(4, .int (0 : Int32)), (0, .ref (wa w o0)), (1, .int x1), (2, .int x2), (3, .int x3)]) C dX9_seatsOne_36 (by decide) rfl ?_
          refine J_lv [1, 2, 3, 4, 0] rfl ?_
          exact b9_seatsOne_38 C RT n (s9_seatsOne_6 n o0 f) o0 h0 x3 ih n x1 x2 (0 : Int32) M
        · refine J_goto (tgt := 113) C dX9_seatsOne_32 (by decide) ?_
          refine J_iinc (lw := fun v17 => [(3, .int v17), (0, .ref (wa w o0)), (1, .int x1), (2, .int x2)]) (X := x3 + 1) C dX9_seatsOne_113 (q := 3) rfl (by rw [kci_1]) (by decide) (fun _ => rfl) (fun v17 => ?_)
          refine J_goto (tgt := 6) C dX9_seatsOne_116 (by decide) ?_
          refine J_lv [1, 2, 3, 0] rfl ?_
          exact ih x1 x2 v17 M
def s9_seatsOne (n : Nat) (o0 : Nat) (M : Mem) : Option Res := s9_seatsOne_6 n o0 n (-1 : Int32) (-1 : Int32) (0 : Int32) M
set_option maxRecDepth 100000 in
set_option maxHeartbeats 4000000 in
theorem b9_seatsOne {w : WE} {g : GT} (C : CT w g RX9 cX9_seatsOne rm9_seatsOne 5) (RT : RTi w g cX9_seatsOne .boolean) (n : Nat) (o0 : Nat) (h0 : typ o0 = 9) (M : Mem) : J w g (s9_seatsOne n o0 M) M 0 [(0, .ref (wa w o0))] [] := by
  rw [s9_seatsOne]
  refine J_iconst C dX9_seatsOne_0 kci_m1 ?_
  refine J_istore_n (lv' := [(1, .int (-1 : Int32)), (0, .ref (wa w o0))]) C dX9_seatsOne_1 rfl (by decide) rfl ?_
  refine J_iconst C dX9_seatsOne_2 kci_m1 ?_
  refine J_istore_n (lv' := [(2, .int (-1 : Int32)), (1, .int (-1 : Int32)), (0, .ref (wa w o0))]) C dX9_seatsOne_3 rfl (by decide) rfl ?_
  refine J_iconst C dX9_seatsOne_4 kci_0 ?_
  refine J_istore_n (lv' := [(3, .int (0 : Int32)), (2, .int (-1 : Int32)), (1, .int (-1 : Int32)), (0, .ref (wa w o0))]) C dX9_seatsOne_5 rfl (by decide) rfl ?_
  refine J_lv [3, 2, 1, 0] rfl ?_
  exact b9_seatsOne_6 C RT n o0 h0 n (-1 : Int32) (-1 : Int32) (0 : Int32) M
theorem c9_seatsOne (l : Launch) (w : WE) (n : Nat) (o0 : Nat) (h0 : typ o0 = 9) (M : Mem) : MC l w yX9_seatsOne (wz yX9_seatsOne cX9_seatsOne 5 (some .boolean)) rm9_seatsOne [.ref (wa w o0)] (s9_seatsOne n o0 M) M :=
  mc_of_J (own := RX9) rfl (by decide) rfl rfl (Nat.le_of_ble_eq_true rfl) (fun _ _ C RT => b9_seatsOne C RT n o0 h0 M)
theorem hdX9_seatsOne : yX9_seatsOne.cls = RX9 ∧ yOK yX9_seatsOne 0 := ⟨rfl, by decide, by decide, by decide⟩
abbrev rm9_judges : Room := { frames := 2, cells := 0, slots := 0, locals := 47 }
def s9_judges_2 (n : Nat) (o0 : Nat) (x1 : Int32) : Nat → Int32 → Mem → Option Res
  | 0, _, _ => none
  | f + 1, x2, M => if (M o0 12) ≤ x2 then (some (0, M)) else (if inB x2 (alen (link o0 4)) then if (M (link o0 4) x2.toNatClampNeg) = 0 then (ilet (x2 + 1) (fun v1 => s9_judges_2 n o0 x1 f v1 M)) else (if inB x2 (alen (link o0 33)) then if 0 ≤ (M (link o0 33) x2.toNatClampNeg) then (ilet (x2 + 1) (fun v2 => s9_judges_2 n o0 x1 f v2 M)) else (if inB x1 (alen (link o0 33)) then cb (s9_mayReach n o0 x2 (M (link o0 33) x1.toNatClampNeg) M) (fun r4 M3 => if r4 = 0 then (ilet (x2 + 1) (fun v5 => s9_judges_2 n o0 x1 f v5 M3)) else (if inB x1 (alen (link o0 33)) then cb (s9_hasteOf n o0 x2 (M3 (link o0 33) x1.toNatClampNeg) M3) (fun r7 M6 => if inB x1 (alen (link o0 33)) then cb (s9_hasteOf n o0 x1 (M6 (link o0 33) x1.toNatClampNeg) M6) (fun r9 M8 => if r7 ≤ r9 then (if inB x1 (alen (link o0 33)) then if inB x2 (alen (link o0 33)) then mlet (mset M8 (link o0 33) x2.toNatClampNeg (M8 (link o0 33) x1.toNatClampNeg)) (fun M10 => if inB x1 (alen (link o0 33)) then mlet (mset M10 (link o0 33) x1.toNatClampNeg (-1 : Int32)) (fun M11 => some (0, M11)) else none) else none else none) else (ilet (x2 + 1) (fun v12 => s9_judges_2 n o0 x1 f v12 M8))) else none) else none)) else none) else none) else none)
set_option maxRecDepth 100000 in
set_option maxHeartbeats 4000000 in
theorem b9_judges_2 {w : WE} {g : GT} (C : CT w g RX9 cX9_judges rm9_judges 3) (RT : RTv w g cX9_judges) (n : Nat) (o0 : Nat) (h0 : typ o0 = 9) (x1 : Int32) : ∀ (f : Nat) (x2 : Int32) (M : Mem), J w g (s9_judges_2 n o0 x1 f x2 M) M 2 [(0, .ref (wa w o0)), (1, .int x1), (2, .int x2)] [] := by
  intro f
  induction f with
  | zero =>
    intro x2 M
    rw [s9_judges_2]
    exact J_none
  | succ f ih =>
    intro x2 M
    rw [s9_judges_2]
    refine J_iload_n C dX9_judges_2 rfl 2 rfl ?_
    refine J_aload_n C dX9_judges_3 rfl 0 rfl ?_
    refine J_geti C fk9_12 W4_189 h0 dX9_judges_4 ?_
    refine J_icmp_ge (tgt := 96) C dX9_judges_7 (by decide) (fun _ => ?_) (fun _ => ?_)
    · exact J_vret C RT dX9_judges_96
    · refine J_aload_n C dX9_judges_10 rfl 0 rfl ?_
      refine J_getr C fk9_4 W4_181 h0 dX9_judges_11 ?_
      refine J_iload_n C dX9_judges_14 rfl 2 rfl ?_
      refine J_aload_ C (tl_9_4 h0) dX9_judges_15 ?_
      refine J_if_eq (tgt := 90) C dX9_judges_16 (by decide) (fun _ => ?_) (fun _ => ?_)
      · refine J_iinc (lw := fun v1 => [(2, .int v1), (0, .ref (wa w o0)), (1, .int x1)]) (X := x2 + 1) C dX9_judges_90 (q := 2) rfl (by rw [kci_1]) (by decide) (fun _ => rfl) (fun v1 => ?_)
        refine J_goto (tgt := 2) C dX9_judges_93 (by decide) ?_
        refine J_lv [1, 2, 0] rfl ?_
        exact ih v1 M
      · refine J_aload_n C dX9_judges_19 rfl 0 rfl ?_
        refine J_getr C fk9_33 W4_210 h0 dX9_judges_20 ?_
        refine J_iload_n C dX9_judges_23 rfl 2 rfl ?_
        refine J_aload_ C (tl_9_33 h0) dX9_judges_24 ?_
        refine J_if_ge (tgt := 90) C dX9_judges_25 (by decide) (fun _ => ?_) (fun _ => ?_)
        · refine J_iinc (lw := fun v2 => [(2, .int v2), (0, .ref (wa w o0)), (1, .int x1)]) (X := x2 + 1) C dX9_judges_90 (q := 2) rfl (by rw [kci_1]) (by decide) (fun _ => rfl) (fun v2 => ?_)
          refine J_goto (tgt := 2) C dX9_judges_93 (by decide) ?_
          refine J_lv [1, 2, 0] rfl ?_
          exact ih v2 M
        · refine J_aload_n C dX9_judges_28 rfl 0 rfl ?_
          refine J_iload_n C dX9_judges_29 rfl 2 rfl ?_
          refine J_aload_n C dX9_judges_30 rfl 0 rfl ?_
          refine J_getr C fk9_33 W4_210 h0 dX9_judges_31 ?_
          refine J_iload_n C dX9_judges_34 rfl 1 rfl ?_
          refine J_aload_ C (tl_9_33 h0) dX9_judges_35 ?_
          refine J_cvi (As := [.int x2, .int (M (link o0 33) x1.toNatClampNeg)]) C (c9_mayReach (gl g) w n o0 h0 x2 (M (link o0 33) x1.toNatClampNeg) M) (gd_v W5_232 W5_234 WP_51 W1_10 W5_235) rfl (by decide) (hdX9_mayReach) h0 (by decide) (cl_9) rfl (Nat.le_of_ble_eq_true rfl) dX9_judges_36 rfl (fun r4 M3 => ?_)
          refine J_if_eq (tgt := 90) C dX9_judges_39 (by decide) (fun _ => ?_) (fun _ => ?_)
          · refine J_iinc (lw := fun v5 => [(2, .int v5), (0, .ref (wa w o0)), (1, .int x1)]) (X := x2 + 1) C dX9_judges_90 (q := 2) rfl (by rw [kci_1]) (by decide) (fun _ => rfl) (fun v5 => ?_)
            refine J_goto (tgt := 2) C dX9_judges_93 (by decide) ?_
            refine J_lv [1, 2, 0] rfl ?_
            exact ih v5 M3
          · refine J_aload_n C dX9_judges_42 rfl 0 rfl ?_
            refine J_iload_n C dX9_judges_43 rfl 2 rfl ?_
            refine J_aload_n C dX9_judges_44 rfl 0 rfl ?_
            refine J_getr C fk9_33 W4_210 h0 dX9_judges_45 ?_
            refine J_iload_n C dX9_judges_48 rfl 1 rfl ?_
            refine J_aload_ C (tl_9_33 h0) dX9_judges_49 ?_
            refine J_cvi (As := [.int x2, .int (M3 (link o0 33) x1.toNatClampNeg)]) C (c9_hasteOf (gl g) w n o0 h0 x2 (M3 (link o0 33) x1.toNatClampNeg) M3) (gd_v W5_140 W5_142 WP_32 W1_10 W5_143) rfl (by decide) (hdX9_hasteOf) h0 (by decide) (cl_9) rfl (Nat.le_of_ble_eq_true rfl) dX9_judges_50 rfl (fun r7 M6 => ?_)
            refine J_aload_n C dX9_judges_53 rfl 0 rfl ?_
            refine J_iload_n C dX9_judges_54 rfl 1 rfl ?_
            refine J_aload_n C dX9_judges_55 rfl 0 rfl ?_
            refine J_getr C fk9_33 W4_210 h0 dX9_judges_56 ?_
            refine J_iload_n C dX9_judges_59 rfl 1 rfl ?_
            refine J_aload_ C (tl_9_33 h0) dX9_judges_60 ?_
            refine J_cvi (As := [.int x1, .int (M6 (link o0 33) x1.toNatClampNeg)]) C (c9_hasteOf (gl g) w n o0 h0 x1 (M6 (link o0 33) x1.toNatClampNeg) M6) (gd_v W5_140 W5_142 WP_32 W1_10 W5_143) rfl (by decide) (hdX9_hasteOf) h0 (by decide) (cl_9) rfl (Nat.le_of_ble_eq_true rfl) dX9_judges_61 rfl (fun r9 M8 => ?_)
            refine J_icmp_le (tgt := 70) C dX9_judges_64 (by decide) (fun _ => ?_) (fun _ => ?_)
            · refine J_aload_n C dX9_judges_70 rfl 0 rfl ?_
              refine J_getr C fk9_33 W4_210 h0 dX9_judges_71 ?_
              refine J_iload_n C dX9_judges_74 rfl 2 rfl ?_
              refine J_aload_n C dX9_judges_75 rfl 0 rfl ?_
              refine J_getr C fk9_33 W4_210 h0 dX9_judges_76 ?_
              refine J_iload_n C dX9_judges_79 rfl 1 rfl ?_
              refine J_aload_ C (tl_9_33 h0) dX9_judges_80 ?_
              refine J_iastore C (tl_9_33 h0) dX9_judges_81 ?_
              refine J_mlet (fun M10 => ?_)
              refine J_aload_n C dX9_judges_82 rfl 0 rfl ?_
              refine J_getr C fk9_33 W4_210 h0 dX9_judges_83 ?_
              refine J_iload_n C dX9_judges_86 rfl 1 rfl ?_
              refine J_iconst C dX9_judges_87 kci_m1 ?_
              refine J_iastore C (tl_9_33 h0) dX9_judges_88 ?_
              refine J_mlet (fun M11 => ?_)
              exact J_vret C RT dX9_judges_89
            · refine J_goto (tgt := 90) C dX9_judges_67 (by decide) ?_
              refine J_iinc (lw := fun v12 => [(2, .int v12), (0, .ref (wa w o0)), (1, .int x1)]) (X := x2 + 1) C dX9_judges_90 (q := 2) rfl (by rw [kci_1]) (by decide) (fun _ => rfl) (fun v12 => ?_)
              refine J_goto (tgt := 2) C dX9_judges_93 (by decide) ?_
              refine J_lv [1, 2, 0] rfl ?_
              exact ih v12 M8
def s9_judges (n : Nat) (o0 : Nat) (x1 : Int32) (M : Mem) : Option Res := s9_judges_2 n o0 x1 n (0 : Int32) M
set_option maxRecDepth 100000 in
set_option maxHeartbeats 4000000 in
theorem b9_judges {w : WE} {g : GT} (C : CT w g RX9 cX9_judges rm9_judges 3) (RT : RTv w g cX9_judges) (n : Nat) (o0 : Nat) (h0 : typ o0 = 9) (x1 : Int32) (M : Mem) : J w g (s9_judges n o0 x1 M) M 0 [(0, .ref (wa w o0)), (1, .int x1)] [] := by
  rw [s9_judges]
  refine J_iconst C dX9_judges_0 kci_0 ?_
  refine J_istore_n (lv' := [(2, .int (0 : Int32)), (0, .ref (wa w o0)), (1, .int x1)]) C dX9_judges_1 rfl (by decide) rfl ?_
  refine J_lv [1, 2, 0] rfl ?_
  exact b9_judges_2 C RT n o0 h0 x1 n (0 : Int32) M
theorem c9_judges (l : Launch) (w : WE) (n : Nat) (o0 : Nat) (h0 : typ o0 = 9) (x1 : Int32) (M : Mem) : MV l w yX9_judges (wz yX9_judges cX9_judges 3 none) rm9_judges [.ref (wa w o0), .int x1] (s9_judges n o0 x1 M) M :=
  mv_of_J (own := RX9) rfl (by decide) rfl rfl (Nat.le_of_ble_eq_true rfl) (fun _ _ C RT => b9_judges C RT n o0 h0 x1 M)
theorem hdX9_judges : yX9_judges.cls = RX9 ∧ yOK yX9_judges 1 := ⟨rfl, by decide, by decide, by decide⟩
abbrev rm9_sit : Room := { frames := 3, cells := 0, slots := 0, locals := 71 }
def s9_sit_37 (n : Nat) (o0 : Nat) : Nat → Int32 → Mem → Option Res
  | 0, _, _ => none
  | f + 1, x2, M => if (M o0 12) ≤ x2 then (some (0, M)) else (if inB x2 (alen (link o0 4)) then if (M (link o0 4) x2.toNatClampNeg) = (1 : Int32) then (if inB x2 (alen (link o0 5)) then if (M (link o0 5) x2.toNatClampNeg) = (6 : Int32) then (if inB x2 (alen (link o0 33)) then if (M (link o0 33) x2.toNatClampNeg) < 0 then (ilet (x2 + 1) (fun v3 => s9_sit_37 n o0 f v3 M)) else (cb (s9_judges n o0 x2 M) (fun _ M4 => ilet (x2 + 1) (fun v6 => s9_sit_37 n o0 f v6 M4))) else none) else (ilet (x2 + 1) (fun v2 => s9_sit_37 n o0 f v2 M)) else none) else (ilet (x2 + 1) (fun v1 => s9_sit_37 n o0 f v1 M)) else none)
set_option maxRecDepth 100000 in
set_option maxHeartbeats 4000000 in
theorem b9_sit_37 {w : WE} {g : GT} (C : CT w g RX9 cX9_sit rm9_sit 3) (RT : RTv w g cX9_sit) (n : Nat) (o0 : Nat) (h0 : typ o0 = 9) : ∀ (f : Nat) (x2 : Int32) (M : Mem), J w g (s9_sit_37 n o0 f x2 M) M 37 [(0, .ref (wa w o0)), (2, .int x2)] [] := by
  intro f
  induction f with
  | zero =>
    intro x2 M
    rw [s9_sit_37]
    exact J_none
  | succ f ih =>
    intro x2 M
    rw [s9_sit_37]
    refine J_iload_n C dX9_sit_37 rfl 1 rfl ?_
    refine J_aload_n C dX9_sit_38 rfl 0 rfl ?_
    refine J_geti C fk9_12 W4_189 h0 dX9_sit_39 ?_
    refine J_icmp_ge (tgt := 86) C dX9_sit_42 (by decide) (fun _ => ?_) (fun _ => ?_)
    · exact J_vret C RT dX9_sit_86
    · refine J_aload_n C dX9_sit_45 rfl 0 rfl ?_
      refine J_getr C fk9_4 W4_181 h0 dX9_sit_46 ?_
      refine J_iload_n C dX9_sit_49 rfl 1 rfl ?_
      refine J_aload_ C (tl_9_4 h0) dX9_sit_50 ?_
      refine J_iconst C dX9_sit_51 kci_1 ?_
      refine J_icmp_ne (tgt := 80) C dX9_sit_52 (by decide) (fun _ => ?_) (fun _ => ?_)
      · refine J_iinc (lw := fun v1 => [(2, .int v1), (0, .ref (wa w o0))]) (X := x2 + 1) C dX9_sit_80 (q := 1) rfl (by rw [kci_1]) (by decide) (fun _ => rfl) (fun v1 => ?_)
        refine J_goto (tgt := 37) C dX9_sit_83 (by decide) ?_
        refine J_lv [1, 0] rfl ?_
        exact ih v1 M
      · refine J_aload_n C dX9_sit_55 rfl 0 rfl ?_
        refine J_getr C fk9_5 W4_182 h0 dX9_sit_56 ?_
        refine J_iload_n C dX9_sit_59 rfl 1 rfl ?_
        refine J_aload_ C (tl_9_5 h0) dX9_sit_60 ?_
        refine J_bipush C dX9_sit_61 kcb_6 ?_
        refine J_icmp_ne (tgt := 80) C dX9_sit_63 (by decide) (fun _ => ?_) (fun _ => ?_)
        · refine J_iinc (lw := fun v2 => [(2, .int v2), (0, .ref (wa w o0))]) (X := x2 + 1) C dX9_sit_80 (q := 1) rfl (by rw [kci_1]) (by decide) (fun _ => rfl) (fun v2 => ?_)
          refine J_goto (tgt := 37) C dX9_sit_83 (by decide) ?_
          refine J_lv [1, 0] rfl ?_
          exact ih v2 M
        · refine J_aload_n C dX9_sit_66 rfl 0 rfl ?_
          refine J_getr C fk9_33 W4_210 h0 dX9_sit_67 ?_
          refine J_iload_n C dX9_sit_70 rfl 1 rfl ?_
          refine J_aload_ C (tl_9_33 h0) dX9_sit_71 ?_
          refine J_if_lt (tgt := 80) C dX9_sit_72 (by decide) (fun _ => ?_) (fun _ => ?_)
          · refine J_iinc (lw := fun v3 => [(2, .int v3), (0, .ref (wa w o0))]) (X := x2 + 1) C dX9_sit_80 (q := 1) rfl (by rw [kci_1]) (by decide) (fun _ => rfl) (fun v3 => ?_)
            refine J_goto (tgt := 37) C dX9_sit_83 (by decide) ?_
            refine J_lv [1, 0] rfl ?_
            exact ih v3 M
          · refine J_aload_n C dX9_sit_75 rfl 0 rfl ?_
            refine J_iload_n C dX9_sit_76 rfl 1 rfl ?_
            refine J_cvv (As := [.int x2]) C (c9_judges (gl g) w n o0 h0 x2 M) (gd_v W5_236 W5_238 WP_52 W1_10 W5_239) rfl (by decide) (hdX9_judges) h0 (by decide) (cl_9) rfl (Nat.le_of_ble_eq_true rfl) dX9_sit_77 rfl (fun r5 M4 => ?_)
            refine J_iinc (lw := fun v6 => [(2, .int v6), (0, .ref (wa w o0))]) (X := x2 + 1) C dX9_sit_80 (q := 1) rfl (by rw [kci_1]) (by decide) (fun _ => rfl) (fun v6 => ?_)
            refine J_goto (tgt := 37) C dX9_sit_83 (by decide) ?_
            refine J_lv [1, 0] rfl ?_
            exact ih v6 M4
def s9_sit_23 (n : Nat) (o0 : Nat) : Nat → Int32 → Mem → Option Res
  | 0, _, _ => none
  | f + 1, x1, M => if x1 = 0 then (s9_sit_37 n o0 n (0 : Int32) M) else (cb (s9_seatsOne n o0 M) (fun r8 M7 => s9_sit_23 n o0 f r8 M7))
set_option maxRecDepth 100000 in
set_option maxHeartbeats 4000000 in
theorem b9_sit_23 {w : WE} {g : GT} (C : CT w g RX9 cX9_sit rm9_sit 3) (RT : RTv w g cX9_sit) (n : Nat) (o0 : Nat) (h0 : typ o0 = 9) : ∀ (f : Nat) (x1 : Int32) (M : Mem), J w g (s9_sit_23 n o0 f x1 M) M 23 [(0, .ref (wa w o0)), (1, .int x1)] [] := by
  intro f
  induction f with
  | zero =>
    intro x1 M
    rw [s9_sit_23]
    exact J_none
  | succ f ih =>
    intro x1 M
    rw [s9_sit_23]
    refine J_iload_n C dX9_sit_23 rfl 1 rfl ?_
    refine J_if_eq (tgt := 35) C dX9_sit_24 (by decide) (fun _ => ?_) (fun _ => ?_)
    · refine J_iconst C dX9_sit_35 kci_0 ?_
      refine J_istore_n (lv' := [(2, .int (0 : Int32)), (0, .ref (wa w o0)), (1, .int x1)]) C dX9_sit_36 rfl (by decide) rfl ?_
      refine J_lv [1, 0] rfl ?_
      exact b9_sit_37 C RT n o0 h0 n (0 : Int32) M
    · refine J_aload_n C dX9_sit_27 rfl 0 rfl ?_
      refine J_cvi (As := []) C (c9_seatsOne (gl g) w n o0 h0 M) (gd_v W5_224 W5_226 WP_49 W1_10 W5_227) rfl (by decide) (hdX9_seatsOne) h0 (by decide) (cl_9) rfl (Nat.le_of_ble_eq_true rfl) dX9_sit_28 rfl (fun r8 M7 => ?_)
      refine J_istore_n (lv' := [(1, .int r8), (0, .ref (wa w o0))]) C dX9_sit_31 rfl (by decide) rfl ?_
      refine J_goto (tgt := 23) C dX9_sit_32 (by decide) ?_
      refine J_lv [1, 0] rfl ?_
      exact ih r8 M7
def s9_sit_2 (n : Nat) (o0 : Nat) : Nat → Int32 → Mem → Option Res
  | 0, _, _ => none
  | f + 1, x1, M => if (12 : Int32) ≤ x1 then (s9_sit_23 n o0 n (1 : Int32) M) else (if inB x1 (alen (link o0 33)) then mlet (mset M (link o0 33) x1.toNatClampNeg (-1 : Int32)) (fun M9 => ilet (x1 + 1) (fun v10 => s9_sit_2 n o0 f v10 M9)) else none)
set_option maxRecDepth 100000 in
set_option maxHeartbeats 4000000 in
theorem b9_sit_2 {w : WE} {g : GT} (C : CT w g RX9 cX9_sit rm9_sit 3) (RT : RTv w g cX9_sit) (n : Nat) (o0 : Nat) (h0 : typ o0 = 9) : ∀ (f : Nat) (x1 : Int32) (M : Mem), J w g (s9_sit_2 n o0 f x1 M) M 2 [(0, .ref (wa w o0)), (1, .int x1)] [] := by
  intro f
  induction f with
  | zero =>
    intro x1 M
    rw [s9_sit_2]
    exact J_none
  | succ f ih =>
    intro x1 M
    rw [s9_sit_2]
    refine J_iload_n C dX9_sit_2 rfl 1 rfl ?_
    refine J_bipush C dX9_sit_3 kcb_12 ?_
    refine J_icmp_ge (tgt := 21) C dX9_sit_5 (by decide) (fun _ => ?_) (fun _ => ?_)
    · refine J_iconst C dX9_sit_21 kci_1 ?_
      refine J_istore_n (lv' := [(1, .int (1 : Int32)), (0, .ref (wa w o0))]) C dX9_sit_22 rfl (by decide) rfl ?_
      refine J_lv [1, 0] rfl ?_
      exact b9_sit_23 C RT n o0 h0 n (1 : Int32) M
    · refine J_aload_n C dX9_sit_8 rfl 0 rfl ?_
      refine J_getr C fk9_33 W4_210 h0 dX9_sit_9 ?_
      refine J_iload_n C dX9_sit_12 rfl 1 rfl ?_
      refine J_iconst C dX9_sit_13 kci_m1 ?_
      refine J_iastore C (tl_9_33 h0) dX9_sit_14 ?_
      refine J_mlet (fun M9 => ?_)
      refine J_iinc (lw := fun v10 => [(1, .int v10), (0, .ref (wa w o0))]) (X := x1 + 1) C dX9_sit_15 (q := 1) rfl (by rw [kci_1]) (by decide) (fun _ => rfl) (fun v10 => ?_)
      refine J_goto (tgt := 2) C dX9_sit_18 (by decide) ?_
      refine J_lv [1, 0] rfl ?_
      exact ih v10 M9
def s9_sit (n : Nat) (o0 : Nat) (M : Mem) : Option Res := s9_sit_2 n o0 n (0 : Int32) M
set_option maxRecDepth 100000 in
set_option maxHeartbeats 4000000 in
theorem b9_sit {w : WE} {g : GT} (C : CT w g RX9 cX9_sit rm9_sit 3) (RT : RTv w g cX9_sit) (n : Nat) (o0 : Nat) (h0 : typ o0 = 9) (M : Mem) : J w g (s9_sit n o0 M) M 0 [(0, .ref (wa w o0))] [] := by
  rw [s9_sit]
  refine J_iconst C dX9_sit_0 kci_0 ?_
  refine J_istore_n (lv' := [(1, .int (0 : Int32)), (0, .ref (wa w o0))]) C dX9_sit_1 rfl (by decide) rfl ?_
  refine J_lv [1, 0] rfl ?_
  exact b9_sit_2 C RT n o0 h0 n (0 : Int32) M
theorem c9_sit (l : Launch) (w : WE) (n : Nat) (o0 : Nat) (h0 : typ o0 = 9) (M : Mem) : MV l w yX9_sit (wz yX9_sit cX9_sit 3 none) rm9_sit [.ref (wa w o0)] (s9_sit n o0 M) M :=
  mv_of_J (own := RX9) rfl (by decide) rfl rfl (Nat.le_of_ble_eq_true rfl) (fun _ _ C RT => b9_sit C RT n o0 h0 M)
theorem hdX9_sit : yX9_sit.cls = RX9 ∧ yOK yX9_sit 0 := ⟨rfl, by decide, by decide, by decide⟩
abbrev rm9_nearest : Room := { frames := 1, cells := 0, slots := 0, locals := 23 }
def s9_nearest_5 (n : Nat) (o0 : Nat) (x1 : Int32) : Nat → Int32 → Int32 → Mem → Option Res
  | 0, _, _, _ => none
  | f + 1, x2, x3, M => if (M o0 11) ≤ x3 then (some (x2, M)) else (if inB x3 (alen (link o0 1)) then if (M (link o0 1) x3.toNatClampNeg) = (1 : Int32) then (if inB x1 (alen (link o0 2)) then cb (s9_far n o0 (M (link o0 2) x1.toNatClampNeg) x3 M) (fun r3 M2 => if x2 ≤ r3 then (ilet (x3 + 1) (fun v4 => s9_nearest_5 n o0 x1 f x2 v4 M2)) else (if inB x1 (alen (link o0 2)) then cb (s9_far n o0 (M2 (link o0 2) x1.toNatClampNeg) x3 M2) (fun r6 M5 => ilet (x3 + 1) (fun v7 => s9_nearest_5 n o0 x1 f r6 v7 M5)) else none)) else none) else (ilet (x3 + 1) (fun v1 => s9_nearest_5 n o0 x1 f x2 v1 M)) else none)
set_option maxRecDepth 100000 in
set_option maxHeartbeats 4000000 in
theorem b9_nearest_5 {w : WE} {g : GT} (C : CT w g RX9 cX9_nearest rm9_nearest 4) (RT : RTi w g cX9_nearest .int) (n : Nat) (o0 : Nat) (h0 : typ o0 = 9) (x1 : Int32) : ∀ (f : Nat) (x2 : Int32) (x3 : Int32) (M : Mem), J w g (s9_nearest_5 n o0 x1 f x2 x3 M) M 5 [(0, .ref (wa w o0)), (1, .int x1), (2, .int x2), (3, .int x3)] [] := by
  intro f
  induction f with
  | zero =>
    intro x2 x3 M
    rw [s9_nearest_5]
    exact J_none
  | succ f ih =>
    intro x2 x3 M
    rw [s9_nearest_5]
    refine J_iload_n C dX9_nearest_5 rfl 3 rfl ?_
    refine J_aload_n C dX9_nearest_6 rfl 0 rfl ?_
    refine J_geti C fk9_11 W4_188 h0 dX9_nearest_7 ?_
    refine J_icmp_ge (tgt := 60) C dX9_nearest_10 (by decide) (fun _ => ?_) (fun _ => ?_)
    · refine J_iload_n C dX9_nearest_60 rfl 2 rfl ?_
      exact J_iret C RT rfl dX9_nearest_61
    · refine J_aload_n C dX9_nearest_13 rfl 0 rfl ?_
      refine J_getr C fk9_1 W4_178 h0 dX9_nearest_14 ?_
      refine J_iload_n C dX9_nearest_17 rfl 3 rfl ?_
      refine J_aload_ C (tl_9_1 h0) dX9_nearest_18 ?_
      refine J_iconst C dX9_nearest_19 kci_1 ?_
      refine J_icmp_ne (tgt := 52) C dX9_nearest_20 (by decide) (fun _ => ?_) (fun _ => ?_)
      · refine J_iload_n C dX9_nearest_52 rfl 2 rfl ?_
        refine J_istore_n (lv' := [(2, .int x2), (0, .ref (wa w o0)), (1, .int x1), (3, .int x3)]) C dX9_nearest_53 rfl (by decide) rfl ?_
        refine J_iinc (lw := fun v1 => [(3, .int v1), (2, .int x2), (0, .ref (wa w o0)), (1, .int x1)]) (X := x3 + 1) C dX9_nearest_54 (q := 3) rfl (by rw [kci_1]) (by decide) (fun _ => rfl) (fun v1 => ?_)
        refine J_goto (tgt := 5) C dX9_nearest_57 (by decide) ?_
        refine J_lv [2, 3, 1, 0] rfl ?_
        exact ih x2 v1 M
      · refine J_aload_n C dX9_nearest_23 rfl 0 rfl ?_
        refine J_aload_n C dX9_nearest_24 rfl 0 rfl ?_
        refine J_getr C fk9_2 W4_179 h0 dX9_nearest_25 ?_
        refine J_iload_n C dX9_nearest_28 rfl 1 rfl ?_
        refine J_aload_ C (tl_9_2 h0) dX9_nearest_29 ?_
        refine J_iload_n C dX9_nearest_30 rfl 3 rfl ?_
        refine J_cvi (As := [.int (M (link o0 2) x1.toNatClampNeg), .int x3]) C (c9_far (gl g) w n o0 h0 (M (link o0 2) x1.toNatClampNeg) x3 M) (gd_v W5_144 W5_146 WP_33 W1_10 W5_147) rfl (by decide) (hdX9_far) h0 (by decide) (cl_9) rfl (Nat.le_of_ble_eq_true rfl) dX9_nearest_31 rfl (fun r3 M2 => ?_)
        refine J_iload_n C dX9_nearest_34 rfl 2 rfl ?_
        refine J_icmp_ge (tgt := 52) C dX9_nearest_35 (by decide) (fun _ => ?_) (fun _ => ?_)
        · refine J_iload_n C dX9_nearest_52 rfl 2 rfl ?_
          refine J_istore_n (lv' := [(2, .int x2), (0, .ref (wa w o0)), (1, .int x1), (3, .int x3)]) C dX9_nearest_53 rfl (by decide) rfl ?_
          refine J_iinc (lw := fun v4 => [(3, .int v4), (2, .int x2), (0, .ref (wa w o0)), (1, .int x1)]) (X := x3 + 1) C dX9_nearest_54 (q := 3) rfl (by rw [kci_1]) (by decide) (fun _ => rfl) (fun v4 => ?_)
          refine J_goto (tgt := 5) C dX9_nearest_57 (by decide) ?_
          refine J_lv [2, 3, 1, 0] rfl ?_
          exact ih x2 v4 M2
        · refine J_aload_n C dX9_nearest_38 rfl 0 rfl ?_
          refine J_aload_n C dX9_nearest_39 rfl 0 rfl ?_
          refine J_getr C fk9_2 W4_179 h0 dX9_nearest_40 ?_
          refine J_iload_n C dX9_nearest_43 rfl 1 rfl ?_
          refine J_aload_ C (tl_9_2 h0) dX9_nearest_44 ?_
          refine J_iload_n C dX9_nearest_45 rfl 3 rfl ?_
          refine J_cvi (As := [.int (M2 (link o0 2) x1.toNatClampNeg), .int x3]) C (c9_far (gl g) w n o0 h0 (M2 (link o0 2) x1.toNatClampNeg) x3 M2) (gd_v W5_144 W5_146 WP_33 W1_10 W5_147) rfl (by decide) (hdX9_far) h0 (by decide) (cl_9) rfl (Nat.le_of_ble_eq_true rfl) dX9_nearest_46 rfl (fun r6 M5 => ?_)
          refine J_goto (tgt := 53) C dX9_nearest_49 (by decide) ?_
          refine J_istore_n (lv' := [(2, .int r6), (0, .ref (wa w o0)), (1, .int x1), (3, .int x3)]) C dX9_nearest_53 rfl (by decide) rfl ?_
          refine J_iinc (lw := fun v7 => [(3, .int v7), (2, .int r6), (0, .ref (wa w o0)), (1, .int x1)]) (X := x3 + 1) C dX9_nearest_54 (q := 3) rfl (by rw [kci_1]) (by decide) (fun _ => rfl) (fun v7 => ?_)
          refine J_goto (tgt := 5) C dX9_nearest_57 (by decide) ?_
          refine J_lv [2, 3, 1, 0] rfl ?_
          exact ih r6 v7 M5
def s9_nearest (n : Nat) (o0 : Nat) (x1 : Int32) (M : Mem) : Option Res := s9_nearest_5 n o0 x1 n (60 : Int32) (0 : Int32) M
set_option maxRecDepth 100000 in
set_option maxHeartbeats 4000000 in
theorem b9_nearest {w : WE} {g : GT} (C : CT w g RX9 cX9_nearest rm9_nearest 4) (RT : RTi w g cX9_nearest .int) (n : Nat) (o0 : Nat) (h0 : typ o0 = 9) (x1 : Int32) (M : Mem) : J w g (s9_nearest n o0 x1 M) M 0 [(0, .ref (wa w o0)), (1, .int x1)] [] := by
  rw [s9_nearest]
  refine J_bipush C dX9_nearest_0 kcb_60 ?_
  refine J_istore_n (lv' := [(2, .int (60 : Int32)), (0, .ref (wa w o0)), (1, .int x1)]) C dX9_nearest_2 rfl (by decide) rfl ?_
  refine J_iconst C dX9_nearest_3 kci_0 ?_
  refine J_istore_n (lv' := [(3, .int (0 : Int32)), (2, .int (60 : Int32)), (0, .ref (wa w o0)), (1, .int x1)]) C dX9_nearest_4 rfl (by decide) rfl ?_
  refine J_lv [2, 3, 1, 0] rfl ?_
  exact b9_nearest_5 C RT n o0 h0 x1 n (60 : Int32) (0 : Int32) M
theorem c9_nearest (l : Launch) (w : WE) (n : Nat) (o0 : Nat) (h0 : typ o0 = 9) (x1 : Int32) (M : Mem) : MC l w yX9_nearest (wz yX9_nearest cX9_nearest 4 (some .int)) rm9_nearest [.ref (wa w o0), .int x1] (s9_nearest n o0 x1 M) M :=
  mc_of_J (own := RX9) rfl (by decide) rfl rfl (Nat.le_of_ble_eq_true rfl) (fun _ _ C RT => b9_nearest C RT n o0 h0 x1 M)
theorem hdX9_nearest : yX9_nearest.cls = RX9 ∧ yOK yX9_nearest 1 := ⟨rfl, by decide, by decide, by decide⟩
abbrev rm9_goer : Room := { frames := 2, cells := 0, slots := 0, locals := 46 }
def s9_goer_5 (n : Nat) (o0 : Nat) : Nat → Int32 → Int32 → Mem → Option Res
  | 0, _, _, _ => none
  | f + 1, x1, x2, M => if (M o0 12) ≤ x2 then (some (x1, M)) else (if inB x2 (alen (link o0 4)) then if (M (link o0 4) x2.toNatClampNeg) = (1 : Int32) then (if inB x2 (alen (link o0 33)) then if 0 ≤ (M (link o0 33) x2.toNatClampNeg) then (ilet (x2 + 1) (fun v2 => s9_goer_5 n o0 f x1 v2 M)) else (if x1 < 0 then (ilet (x2 + 1) (fun v3 => s9_goer_5 n o0 f x2 v3 M)) else (cb (s9_nearest n o0 x2 M) (fun r5 M4 => cb (s9_nearest n o0 x1 M4) (fun r7 M6 => if r5 < r7 then (ilet (x2 + 1) (fun v8 => s9_goer_5 n o0 f x1 v8 M6)) else (ilet (x2 + 1) (fun v9 => s9_goer_5 n o0 f x2 v9 M6)))))) else none) else (ilet (x2 + 1) (fun v1 => s9_goer_5 n o0 f x1 v1 M)) else none)
set_option maxRecDepth 100000 in
set_option maxHeartbeats 4000000 in
theorem b9_goer_5 {w : WE} {g : GT} (C : CT w g RX9 cX9_goer rm9_goer 3) (RT : RTi w g cX9_goer .int) (n : Nat) (o0 : Nat) (h0 : typ o0 = 9) : ∀ (f : Nat) (x1 : Int32) (x2 : Int32) (M : Mem), J w g (s9_goer_5 n o0 f x1 x2 M) M 5 [(0, .ref (wa w o0)), (1, .int x1), (2, .int x2)] [] := by
  intro f
  induction f with
  | zero =>
    intro x1 x2 M
    rw [s9_goer_5]
    exact J_none
  | succ f ih =>
    intro x1 x2 M
    rw [s9_goer_5]
    refine J_iload_n C dX9_goer_5 rfl 2 rfl ?_
    refine J_aload_n C dX9_goer_6 rfl 0 rfl ?_
    refine J_geti C fk9_12 W4_189 h0 dX9_goer_7 ?_
    refine J_icmp_ge (tgt := 57) C dX9_goer_10 (by decide) (fun _ => ?_) (fun _ => ?_)
    · refine J_iload_n C dX9_goer_57 rfl 1 rfl ?_
      exact J_iret C RT rfl dX9_goer_58
    · refine J_aload_n C dX9_goer_13 rfl 0 rfl ?_
      refine J_getr C fk9_4 W4_181 h0 dX9_goer_14 ?_
      refine J_iload_n C dX9_goer_17 rfl 2 rfl ?_
      refine J_aload_ C (tl_9_4 h0) dX9_goer_18 ?_
      refine J_iconst C dX9_goer_19 kci_1 ?_
      refine J_icmp_ne (tgt := 51) C dX9_goer_20 (by decide) (fun _ => ?_) (fun _ => ?_)
      · refine J_iinc (lw := fun v1 => [(2, .int v1), (0, .ref (wa w o0)), (1, .int x1)]) (X := x2 + 1) C dX9_goer_51 (q := 2) rfl (by rw [kci_1]) (by decide) (fun _ => rfl) (fun v1 => ?_)
        refine J_goto (tgt := 5) C dX9_goer_54 (by decide) ?_
        refine J_lv [1, 2, 0] rfl ?_
        exact ih x1 v1 M
      · refine J_aload_n C dX9_goer_23 rfl 0 rfl ?_
        refine J_getr C fk9_33 W4_210 h0 dX9_goer_24 ?_
        refine J_iload_n C dX9_goer_27 rfl 2 rfl ?_
        refine J_aload_ C (tl_9_33 h0) dX9_goer_28 ?_
        refine J_if_ge (tgt := 51) C dX9_goer_29 (by decide) (fun _ => ?_) (fun _ => ?_)
        · refine J_iinc (lw := fun v2 => [(2, .int v2), (0, .ref (wa w o0)), (1, .int x1)]) (X := x2 + 1) C dX9_goer_51 (q := 2) rfl (by rw [kci_1]) (by decide) (fun _ => rfl) (fun v2 => ?_)
          refine J_goto (tgt := 5) C dX9_goer_54 (by decide) ?_
          refine J_lv [1, 2, 0] rfl ?_
          exact ih x1 v2 M
        · refine J_iload_n C dX9_goer_32 rfl 1 rfl ?_
          refine J_if_lt (tgt := 49) C dX9_goer_33 (by decide) (fun _ => ?_) (fun _ => ?_)
          · refine J_iload_n C dX9_goer_49 rfl 2 rfl ?_
            refine J_istore_n (lv' := [(1, .int x2), (0, .ref (wa w o0)), (2, .int x2)]) C dX9_goer_50 rfl (by decide) rfl ?_
            refine J_iinc (lw := fun v3 => [(2, .int v3), (1, .int x2), (0, .ref (wa w o0))]) (X := x2 + 1) C dX9_goer_51 (q := 2) rfl (by rw [kci_1]) (by decide) (fun _ => rfl) (fun v3 => ?_)
            refine J_goto (tgt := 5) C dX9_goer_54 (by decide) ?_
            refine J_lv [2, 1, 0] rfl ?_
            exact ih x2 v3 M
          · refine J_aload_n C dX9_goer_36 rfl 0 rfl ?_
            refine J_iload_n C dX9_goer_37 rfl 2 rfl ?_
            refine J_cvi (As := [.int x2]) C (c9_nearest (gl g) w n o0 h0 x2 M) (gd_v W6_4 W6_6 WP_54 W1_10 W6_7) rfl (by decide) (hdX9_nearest) h0 (by decide) (cl_9) rfl (Nat.le_of_ble_eq_true rfl) dX9_goer_38 rfl (fun r5 M4 => ?_)
            refine J_aload_n C dX9_goer_41 rfl 0 rfl ?_
            refine J_iload_n C dX9_goer_42 rfl 1 rfl ?_
            refine J_cvi (As := [.int x1]) C (c9_nearest (gl g) w n o0 h0 x1 M4) (gd_v W6_4 W6_6 WP_54 W1_10 W6_7) rfl (by decide) (hdX9_nearest) h0 (by decide) (cl_9) rfl (Nat.le_of_ble_eq_true rfl) dX9_goer_43 rfl (fun r7 M6 => ?_)
            refine J_icmp_lt (tgt := 51) C dX9_goer_46 (by decide) (fun _ => ?_) (fun _ => ?_)
            · refine J_iinc (lw := fun v8 => [(2, .int v8), (0, .ref (wa w o0)), (1, .int x1)]) (X := x2 + 1) C dX9_goer_51 (q := 2) rfl (by rw [kci_1]) (by decide) (fun _ => rfl) (fun v8 => ?_)
              refine J_goto (tgt := 5) C dX9_goer_54 (by decide) ?_
              refine J_lv [1, 2, 0] rfl ?_
              exact ih x1 v8 M6
            · refine J_iload_n C dX9_goer_49 rfl 2 rfl ?_
              refine J_istore_n (lv' := [(1, .int x2), (0, .ref (wa w o0)), (2, .int x2)]) C dX9_goer_50 rfl (by decide) rfl ?_
              refine J_iinc (lw := fun v9 => [(2, .int v9), (1, .int x2), (0, .ref (wa w o0))]) (X := x2 + 1) C dX9_goer_51 (q := 2) rfl (by rw [kci_1]) (by decide) (fun _ => rfl) (fun v9 => ?_)
              refine J_goto (tgt := 5) C dX9_goer_54 (by decide) ?_
              refine J_lv [2, 1, 0] rfl ?_
              exact ih x2 v9 M6
def s9_goer (n : Nat) (o0 : Nat) (M : Mem) : Option Res := s9_goer_5 n o0 n (-9 : Int32) (0 : Int32) M
set_option maxRecDepth 100000 in
set_option maxHeartbeats 4000000 in
theorem b9_goer {w : WE} {g : GT} (C : CT w g RX9 cX9_goer rm9_goer 3) (RT : RTi w g cX9_goer .int) (n : Nat) (o0 : Nat) (h0 : typ o0 = 9) (M : Mem) : J w g (s9_goer n o0 M) M 0 [(0, .ref (wa w o0))] [] := by
  rw [s9_goer]
  refine J_bipush C dX9_goer_0 kcb_m9 ?_
  refine J_istore_n (lv' := [(1, .int (-9 : Int32)), (0, .ref (wa w o0))]) C dX9_goer_2 rfl (by decide) rfl ?_
  refine J_iconst C dX9_goer_3 kci_0 ?_
  refine J_istore_n (lv' := [(2, .int (0 : Int32)), (1, .int (-9 : Int32)), (0, .ref (wa w o0))]) C dX9_goer_4 rfl (by decide) rfl ?_
  refine J_lv [2, 1, 0] rfl ?_
  exact b9_goer_5 C RT n o0 h0 n (-9 : Int32) (0 : Int32) M
theorem c9_goer (l : Launch) (w : WE) (n : Nat) (o0 : Nat) (h0 : typ o0 = 9) (M : Mem) : MC l w yX9_goer (wz yX9_goer cX9_goer 3 (some .int)) rm9_goer [.ref (wa w o0)] (s9_goer n o0 M) M :=
  mc_of_J (own := RX9) rfl (by decide) rfl rfl (Nat.le_of_ble_eq_true rfl) (fun _ _ C RT => b9_goer C RT n o0 h0 M)
theorem hdX9_goer : yX9_goer.cls = RX9 ∧ yOK yX9_goer 0 := ⟨rfl, by decide, by decide, by decide⟩
abbrev rm9_ways : Room := { frames := 0, cells := 0, slots := 0, locals := 0 }
def s9_ways_26 (n : Nat) (o0 : Nat) (x1 : Int32) (x2 : Int32) : Nat → Int32 → Mem → Option Res
  | 0, _, _ => none
  | f + 1, x3, M => if (M o0 11) = 0 then none else if inB (((x1 - x3) + (M o0 11)) - ((x1 - x3) + (M o0 11)) / (M o0 11) * (M o0 11)) (alen (link o0 1)) then if (M (link o0 1) (((x1 - x3) + (M o0 11)) - ((x1 - x3) + (M o0 11)) / (M o0 11) * (M o0 11)).toNatClampNeg) = 0 then (ilet (x3 + 1) (fun v1 => s9_ways_26 n o0 x1 x2 f v1 M)) else (some (x2 + x3, M)) else none
set_option maxRecDepth 100000 in
set_option maxHeartbeats 4000000 in
theorem b9_ways_26 {w : WE} {g : GT} (C : CT w g RX9 cX9_ways rm9_ways 4) (RT : RTi w g cX9_ways .int) (n : Nat) (o0 : Nat) (h0 : typ o0 = 9) (x1 : Int32) (x2 : Int32) : ∀ (f : Nat) (x3 : Int32) (M : Mem), J w g (s9_ways_26 n o0 x1 x2 f x3 M) M 26 [(0, .ref (wa w o0)), (1, .int x1), (2, .int x2), (3, .int x3)] [] := by
  intro f
  induction f with
  | zero =>
    intro x3 M
    rw [s9_ways_26]
    exact J_none
  | succ f ih =>
    intro x3 M
    rw [s9_ways_26]
    refine J_aload_n C dX9_ways_26 rfl 0 rfl ?_
    refine J_getr C fk9_1 W4_178 h0 dX9_ways_27 ?_
    refine J_iload_n C dX9_ways_30 rfl 1 rfl ?_
    refine J_iload_n C dX9_ways_31 rfl 3 rfl ?_
    refine J_isub C dX9_ways_32 ?_
    refine J_aload_n C dX9_ways_33 rfl 0 rfl ?_
    refine J_geti C fk9_11 W4_188 h0 dX9_ways_34 ?_
    refine J_iadd C dX9_ways_37 ?_
    refine J_aload_n C dX9_ways_38 rfl 0 rfl ?_
    refine J_geti C fk9_11 W4_188 h0 dX9_ways_39 ?_
    refine J_irem C dX9_ways_42 ?_
    refine J_aload_ C (tl_9_1 h0) dX9_ways_43 ?_
    refine J_if_ne (tgt := 53) C dX9_ways_44 (by decide) (fun _ => ?_) (fun _ => ?_)
    · refine J_iload_n C dX9_ways_53 rfl 2 rfl ?_
      refine J_iload_n C dX9_ways_54 rfl 3 rfl ?_
      refine J_iadd C dX9_ways_55 ?_
      exact J_iret C RT rfl dX9_ways_56
    · refine J_iinc (lw := fun v1 => [(3, .int v1), (0, .ref (wa w o0)), (1, .int x1), (2, .int x2)]) (X := x3 + 1) C dX9_ways_47 (q := 3) rfl (by rw [kci_1]) (by decide) (fun _ => rfl) (fun v1 => ?_)
      refine J_goto (tgt := 26) C dX9_ways_50 (by decide) ?_
      refine J_lv [1, 2, 3, 0] rfl ?_
      exact ih v1 M
def s9_ways_2 (n : Nat) (o0 : Nat) (x1 : Int32) : Nat → Int32 → Mem → Option Res
  | 0, _, _ => none
  | f + 1, x2, M => if (M o0 11) = 0 then none else if inB ((x1 + x2) - (x1 + x2) / (M o0 11) * (M o0 11)) (alen (link o0 1)) then if (M (link o0 1) ((x1 + x2) - (x1 + x2) / (M o0 11) * (M o0 11)).toNatClampNeg) = 0 then (ilet (x2 + 1) (fun v2 => s9_ways_2 n o0 x1 f v2 M)) else (s9_ways_26 n o0 x1 x2 n (1 : Int32) M) else none
set_option maxRecDepth 100000 in
set_option maxHeartbeats 4000000 in
theorem b9_ways_2 {w : WE} {g : GT} (C : CT w g RX9 cX9_ways rm9_ways 4) (RT : RTi w g cX9_ways .int) (n : Nat) (o0 : Nat) (h0 : typ o0 = 9) (x1 : Int32) : ∀ (f : Nat) (x2 : Int32) (M : Mem), J w g (s9_ways_2 n o0 x1 f x2 M) M 2 [(0, .ref (wa w o0)), (1, .int x1), (2, .int x2)] [] := by
  intro f
  induction f with
  | zero =>
    intro x2 M
    rw [s9_ways_2]
    exact J_none
  | succ f ih =>
    intro x2 M
    rw [s9_ways_2]
    refine J_aload_n C dX9_ways_2 rfl 0 rfl ?_
    refine J_getr C fk9_1 W4_178 h0 dX9_ways_3 ?_
    refine J_iload_n C dX9_ways_6 rfl 1 rfl ?_
    refine J_iload_n C dX9_ways_7 rfl 2 rfl ?_
    refine J_iadd C dX9_ways_8 ?_
    refine J_aload_n C dX9_ways_9 rfl 0 rfl ?_
    refine J_geti C fk9_11 W4_188 h0 dX9_ways_10 ?_
    refine J_irem C dX9_ways_13 ?_
    refine J_aload_ C (tl_9_1 h0) dX9_ways_14 ?_
    refine J_if_ne (tgt := 24) C dX9_ways_15 (by decide) (fun _ => ?_) (fun _ => ?_)
    · refine J_iconst C dX9_ways_24 kci_1 ?_
      refine J_istore_n (lv' := [(3, .int (1 : Int32)), (0, .ref (wa w o0)), (1, .int x1), (2, .int x2)]) C dX9_ways_25 rfl (by decide) rfl ?_
      refine J_lv [1, 2, 3, 0] rfl ?_
      exact b9_ways_26 C RT n o0 h0 x1 x2 n (1 : Int32) M
    · refine J_iinc (lw := fun v2 => [(2, .int v2), (0, .ref (wa w o0)), (1, .int x1)]) (X := x2 + 1) C dX9_ways_18 (q := 2) rfl (by rw [kci_1]) (by decide) (fun _ => rfl) (fun v2 => ?_)
      refine J_goto (tgt := 2) C dX9_ways_21 (by decide) ?_
      refine J_lv [1, 2, 0] rfl ?_
      exact ih v2 M
def s9_ways (n : Nat) (o0 : Nat) (x1 : Int32) (M : Mem) : Option Res := s9_ways_2 n o0 x1 n (1 : Int32) M
set_option maxRecDepth 100000 in
set_option maxHeartbeats 4000000 in
theorem b9_ways {w : WE} {g : GT} (C : CT w g RX9 cX9_ways rm9_ways 4) (RT : RTi w g cX9_ways .int) (n : Nat) (o0 : Nat) (h0 : typ o0 = 9) (x1 : Int32) (M : Mem) : J w g (s9_ways n o0 x1 M) M 0 [(0, .ref (wa w o0)), (1, .int x1)] [] := by
  rw [s9_ways]
  refine J_iconst C dX9_ways_0 kci_1 ?_
  refine J_istore_n (lv' := [(2, .int (1 : Int32)), (0, .ref (wa w o0)), (1, .int x1)]) C dX9_ways_1 rfl (by decide) rfl ?_
  refine J_lv [1, 2, 0] rfl ?_
  exact b9_ways_2 C RT n o0 h0 x1 n (1 : Int32) M
theorem c9_ways (l : Launch) (w : WE) (n : Nat) (o0 : Nat) (h0 : typ o0 = 9) (x1 : Int32) (M : Mem) : MC l w yX9_ways (wz yX9_ways cX9_ways 4 (some .int)) rm9_ways [.ref (wa w o0), .int x1] (s9_ways n o0 x1 M) M :=
  mc_of_J (own := RX9) rfl (by decide) rfl rfl (Nat.le_of_ble_eq_true rfl) (fun _ _ C RT => b9_ways C RT n o0 h0 x1 M)
theorem hdX9_ways : yX9_ways.cls = RX9 ∧ yOK yX9_ways 1 := ⟨rfl, by decide, by decide, by decide⟩
abbrev rm9_leaver : Room := { frames := 1, cells := 0, slots := 0, locals := 23 }
def s9_leaver_5 (n : Nat) (o0 : Nat) : Nat → Int32 → Int32 → Mem → Option Res
  | 0, _, _, _ => none
  | f + 1, x1, x2, M => if (M o0 11) ≤ x2 then (some (x1, M)) else (if inB x2 (alen (link o0 1)) then if (M (link o0 1) x2.toNatClampNeg) = 0 then (ilet (x2 + 1) (fun v10 => s9_leaver_5 n o0 f x1 v10 M)) else (if x1 < 0 then (ilet (x2 + 1) (fun v1 => s9_leaver_5 n o0 f x2 v1 M)) else (if (M o0 15) = (1 : Int32) then (ilet (x2 + 1) (fun v2 => s9_leaver_5 n o0 f x2 v2 M)) else (if (M o0 15) = (2 : Int32) then (cb (s9_ways n o0 x2 M) (fun r5 M4 => cb (s9_ways n o0 x1 M4) (fun r7 M6 => if r7 ≤ r5 then (ilet (x2 + 1) (fun v8 => s9_leaver_5 n o0 f x1 v8 M6)) else (ilet (x2 + 1) (fun v9 => s9_leaver_5 n o0 f x2 v9 M6))))) else (ilet (x2 + 1) (fun v3 => s9_leaver_5 n o0 f x1 v3 M))))) else none)
set_option maxRecDepth 100000 in
set_option maxHeartbeats 4000000 in
theorem b9_leaver_5 {w : WE} {g : GT} (C : CT w g RX9 cX9_leaver rm9_leaver 3) (RT : RTi w g cX9_leaver .int) (n : Nat) (o0 : Nat) (h0 : typ o0 = 9) : ∀ (f : Nat) (x1 : Int32) (x2 : Int32) (M : Mem), J w g (s9_leaver_5 n o0 f x1 x2 M) M 5 [(0, .ref (wa w o0)), (1, .int x1), (2, .int x2)] [] := by
  intro f
  induction f with
  | zero =>
    intro x1 x2 M
    rw [s9_leaver_5]
    exact J_none
  | succ f ih =>
    intro x1 x2 M
    rw [s9_leaver_5]
    refine J_iload_n C dX9_leaver_5 rfl 2 rfl ?_
    refine J_aload_n C dX9_leaver_6 rfl 0 rfl ?_
    refine J_geti C fk9_11 W4_188 h0 dX9_leaver_7 ?_
    refine J_icmp_ge (tgt := 66) C dX9_leaver_10 (by decide) (fun _ => ?_) (fun _ => ?_)
    · refine J_iload_n C dX9_leaver_66 rfl 1 rfl ?_
      exact J_iret C RT rfl dX9_leaver_67
    · refine J_aload_n C dX9_leaver_13 rfl 0 rfl ?_
      refine J_getr C fk9_1 W4_178 h0 dX9_leaver_14 ?_
      refine J_iload_n C dX9_leaver_17 rfl 2 rfl ?_
      refine J_aload_ C (tl_9_1 h0) dX9_leaver_18 ?_
      refine J_if_ne (tgt := 25) C dX9_leaver_19 (by decide) (fun _ => ?_) (fun _ => ?_)
      · refine J_iload_n C dX9_leaver_25 rfl 1 rfl ?_
        refine J_if_lt (tgt := 58) C dX9_leaver_26 (by decide) (fun _ => ?_) (fun _ => ?_)
        · refine J_iload_n C dX9_leaver_58 rfl 2 rfl ?_
          refine J_istore_n (lv' := [(1, .int x2), (0, .ref (wa w o0)), (2, .int x2)]) C dX9_leaver_59 rfl (by decide) rfl ?_
          refine J_iinc (lw := fun v1 => [(2, .int v1), (1, .int x2), (0, .ref (wa w o0))]) (X := x2 + 1) C dX9_leaver_60 (q := 2) rfl (by rw [kci_1]) (by decide) (fun _ => rfl) (fun v1 => ?_)
          refine J_goto (tgt := 5) C dX9_leaver_63 (by decide) ?_
          refine J_lv [2, 1, 0] rfl ?_
          exact ih x2 v1 M
        · refine J_aload_n C dX9_leaver_29 rfl 0 rfl ?_
          refine J_geti C fk9_15 W4_192 h0 dX9_leaver_30 ?_
          refine J_iconst C dX9_leaver_33 kci_1 ?_
          refine J_icmp_eq (tgt := 58) C dX9_leaver_34 (by decide) (fun _ => ?_) (fun _ => ?_)
          · refine J_iload_n C dX9_leaver_58 rfl 2 rfl ?_
            refine J_istore_n (lv' := [(1, .int x2), (0, .ref (wa w o0)), (2, .int x2)]) C dX9_leaver_59 rfl (by decide) rfl ?_
            refine J_iinc (lw := fun v2 => [(2, .int v2), (1, .int x2), (0, .ref (wa w o0))]) (X := x2 + 1) C dX9_leaver_60 (q := 2) rfl (by rw [kci_1]) (by decide) (fun _ => rfl) (fun v2 => ?_)
            refine J_goto (tgt := 5) C dX9_leaver_63 (by decide) ?_
            refine J_lv [2, 1, 0] rfl ?_
            exact ih x2 v2 M
          · refine J_aload_n C dX9_leaver_37 rfl 0 rfl ?_
            refine J_geti C fk9_15 W4_192 h0 dX9_leaver_38 ?_
            refine J_iconst C dX9_leaver_41 kci_2 ?_
            refine J_icmp_ne (tgt := 60) C dX9_leaver_42 (by decide) (fun _ => ?_) (fun _ => ?_)
            · refine J_iinc (lw := fun v3 => [(2, .int v3), (0, .ref (wa w o0)), (1, .int x1)]) (X := x2 + 1) C dX9_leaver_60 (q := 2) rfl (by rw [kci_1]) (by decide) (fun _ => rfl) (fun v3 => ?_)
              refine J_goto (tgt := 5) C dX9_leaver_63 (by decide) ?_
              refine J_lv [1, 2, 0] rfl ?_
              exact ih x1 v3 M
            · refine J_aload_n C dX9_leaver_45 rfl 0 rfl ?_
              refine J_iload_n C dX9_leaver_46 rfl 2 rfl ?_
              refine J_cvi (As := [.int x2]) C (c9_ways (gl g) w n o0 h0 x2 M) (gd_v W6_12 W6_14 WP_56 W1_10 W6_15) rfl (by decide) (hdX9_ways) h0 (by decide) (cl_9) rfl (Nat.le_of_ble_eq_true rfl) dX9_leaver_47 rfl (fun r5 M4 => ?_)
              refine J_aload_n C dX9_leaver_50 rfl 0 rfl ?_
              refine J_iload_n C dX9_leaver_51 rfl 1 rfl ?_
              refine J_cvi (As := [.int x1]) C (c9_ways (gl g) w n o0 h0 x1 M4) (gd_v W6_12 W6_14 WP_56 W1_10 W6_15) rfl (by decide) (hdX9_ways) h0 (by decide) (cl_9) rfl (Nat.le_of_ble_eq_true rfl) dX9_leaver_52 rfl (fun r7 M6 => ?_)
              refine J_icmp_ge (tgt := 60) C dX9_leaver_55 (by decide) (fun _ => ?_) (fun _ => ?_)
              · refine J_iinc (lw := fun v8 => [(2, .int v8), (0, .ref (wa w o0)), (1, .int x1)]) (X := x2 + 1) C dX9_leaver_60 (q := 2) rfl (by rw [kci_1]) (by decide) (fun _ => rfl) (fun v8 => ?_)
                refine J_goto (tgt := 5) C dX9_leaver_63 (by decide) ?_
                refine J_lv [1, 2, 0] rfl ?_
                exact ih x1 v8 M6
              · refine J_iload_n C dX9_leaver_58 rfl 2 rfl ?_
                refine J_istore_n (lv' := [(1, .int x2), (0, .ref (wa w o0)), (2, .int x2)]) C dX9_leaver_59 rfl (by decide) rfl ?_
                refine J_iinc (lw := fun v9 => [(2, .int v9), (1, .int x2), (0, .ref (wa w o0))]) (X := x2 + 1) C dX9_leaver_60 (q := 2) rfl (by rw [kci_1]) (by decide) (fun _ => rfl) (fun v9 => ?_)
                refine J_goto (tgt := 5) C dX9_leaver_63 (by decide) ?_
                refine J_lv [2, 1, 0] rfl ?_
                exact ih x2 v9 M6
      · refine J_goto (tgt := 60) C dX9_leaver_22 (by decide) ?_
        refine J_iinc (lw := fun v10 => [(2, .int v10), (0, .ref (wa w o0)), (1, .int x1)]) (X := x2 + 1) C dX9_leaver_60 (q := 2) rfl (by rw [kci_1]) (by decide) (fun _ => rfl) (fun v10 => ?_)
        refine J_goto (tgt := 5) C dX9_leaver_63 (by decide) ?_
        refine J_lv [1, 2, 0] rfl ?_
        exact ih x1 v10 M
def s9_leaver (n : Nat) (o0 : Nat) (M : Mem) : Option Res := s9_leaver_5 n o0 n (-9 : Int32) (0 : Int32) M
set_option maxRecDepth 100000 in
set_option maxHeartbeats 4000000 in
theorem b9_leaver {w : WE} {g : GT} (C : CT w g RX9 cX9_leaver rm9_leaver 3) (RT : RTi w g cX9_leaver .int) (n : Nat) (o0 : Nat) (h0 : typ o0 = 9) (M : Mem) : J w g (s9_leaver n o0 M) M 0 [(0, .ref (wa w o0))] [] := by
  rw [s9_leaver]
  refine J_bipush C dX9_leaver_0 kcb_m9 ?_
  refine J_istore_n (lv' := [(1, .int (-9 : Int32)), (0, .ref (wa w o0))]) C dX9_leaver_2 rfl (by decide) rfl ?_
  refine J_iconst C dX9_leaver_3 kci_0 ?_
  refine J_istore_n (lv' := [(2, .int (0 : Int32)), (1, .int (-9 : Int32)), (0, .ref (wa w o0))]) C dX9_leaver_4 rfl (by decide) rfl ?_
  refine J_lv [2, 1, 0] rfl ?_
  exact b9_leaver_5 C RT n o0 h0 n (-9 : Int32) (0 : Int32) M
theorem c9_leaver (l : Launch) (w : WE) (n : Nat) (o0 : Nat) (h0 : typ o0 = 9) (M : Mem) : MC l w yX9_leaver (wz yX9_leaver cX9_leaver 3 (some .int)) rm9_leaver [.ref (wa w o0)] (s9_leaver n o0 M) M :=
  mc_of_J (own := RX9) rfl (by decide) rfl rfl (Nat.le_of_ble_eq_true rfl) (fun _ _ C RT => b9_leaver C RT n o0 h0 M)
theorem hdX9_leaver : yX9_leaver.cls = RX9 ∧ yOK yX9_leaver 0 := ⟨rfl, by decide, by decide, by decide⟩
