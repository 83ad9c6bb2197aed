abbrev rm4_mostCrowdedChair : Room := { frames := 1, cells := 0, slots := 0, locals := 22 }
def s4_mostCrowdedChair_55 (n : Nat) (k7 : Int32 → Int32 → Int32 → Mem → Option Res) (o0 : Nat) (x1 : Int32) (x2 : Int32) (x3 : Int32) (x4 : Int32) (t0 : Int32) (q1 : Nat) (M : Mem) : Option Res := cb (s4_placeOfChair q1 t0 M) (fun r4 M3 => cb (s4_placeOfChair o0 x3 M3) (fun r6 M5 => cb (s4_wayOn o0 x4 r6 M5) (fun r8 M7 => cb (s4_placeOfChair o0 x3 M7) (fun r10 M9 => cb (s4_wayOn o0 r10 r4 M9) (fun r12 M11 => ilet (r8 + r12) (fun v13 => if x2 ≤ v13 then (ilet (x3 + 1) (fun v14 => k7 x1 x2 v14 M11)) else (ilet (x3 + 1) (fun v15 => k7 x3 v13 v15 M11))))))))
set_option maxRecDepth 100000 in
set_option maxHeartbeats 4000000 in
theorem b4_mostCrowdedChair_55 {w : WE} {g : GT} (C : CT w g RX4 cX4_mostCrowdedChair rm4_mostCrowdedChair 7) (RT : RTi w g cX4_mostCrowdedChair .int) (n : Nat) (k7 : Int32 → Int32 → Int32 → Mem → Option Res) (o0 : Nat) (h0 : typ o0 = 4) (x1 : Int32) (x2 : Int32) (x3 : Int32) (x4 : Int32) (t0 : Int32) (q1 : Nat) (hq1 : typ q1 = 4) (hk7 : ∀ (z1 : Int32) (z2 : Int32) (z3 : Int32) (M : Mem), J w g (k7 z1 z2 z3 M) M 7 [(0, .ref (wa w o0)), (1, .int z1), (2, .int z2), (3, .int z3)] []) (M : Mem) : J w g (s4_mostCrowdedChair_55 n k7 o0 x1 x2 x3 x4 t0 q1 M) M 55 [(0, .ref (wa w o0)), (1, .int x1), (2, .int x2), (3, .int x3), (4, .int x4)] [.int t0, .ref (wa w q1)] := by
  rw [s4_mostCrowdedChair_55]
  refine J_cvi (As := [.int t0]) C (c4_placeOfChair (gl g) w q1 hq1 t0 M) (gd_v W3_179 W3_153 W3_154 W1_4 W3_155) rfl (by decide) (hdX4_placeOfChair) hq1 (by decide) (cl_4) rfl (Nat.le_of_ble_eq_true rfl) dX4_mostCrowdedChair_55 rfl (fun r4 M3 => ?_)
  refine J_istore (lv' := [(5, .int r4), (0, .ref (wa w o0)), (1, .int x1), (2, .int x2), (3, .int x3), (4, .int x4)]) C dX4_mostCrowdedChair_58 (by decide) rfl ?_
  refine J_aload_n C dX4_mostCrowdedChair_60 rfl 1 rfl ?_
  refine J_iload C dX4_mostCrowdedChair_61 5 rfl ?_
  refine J_aload_n C dX4_mostCrowdedChair_63 rfl 1 rfl ?_
  refine J_iload_n C dX4_mostCrowdedChair_64 rfl 4 rfl ?_
  refine J_cvi (As := [.int x3]) C (c4_placeOfChair (gl g) w o0 h0 x3 M3) (gd_v W3_179 W3_153 W3_154 W1_4 W3_155) rfl (by decide) (hdX4_placeOfChair) h0 (by decide) (cl_4) rfl (Nat.le_of_ble_eq_true rfl) dX4_mostCrowdedChair_65 rfl (fun r6 M5 => ?_)
  refine J_cvi (As := [.int x4, .int r6]) C (c4_wayOn (gl g) w o0 h0 x4 r6 M5) (gd_v W3_194 W3_196 WP_19 W1_4 W3_197) rfl (by decide) (hdX4_wayOn) h0 (by decide) (cl_4) rfl (Nat.le_of_ble_eq_true rfl) dX4_mostCrowdedChair_68 rfl (fun r8 M7 => ?_)
  refine J_aload_n C dX4_mostCrowdedChair_71 rfl 1 rfl ?_
  refine J_aload_n C dX4_mostCrowdedChair_72 rfl 1 rfl ?_
  refine J_iload_n C dX4_mostCrowdedChair_73 rfl 4 rfl ?_
  refine J_cvi (As := [.int x3]) C (c4_placeOfChair (gl g) w o0 h0 x3 M7) (gd_v W3_179 W3_153 W3_154 W1_4 W3_155) rfl (by decide) (hdX4_placeOfChair) h0 (by decide) (cl_4) rfl (Nat.le_of_ble_eq_true rfl) dX4_mostCrowdedChair_74 rfl (fun r10 M9 => ?_)
  refine J_iload C dX4_mostCrowdedChair_77 0 rfl ?_
  refine J_cvi (As := [.int r10, .int r4]) C (c4_wayOn (gl g) w o0 h0 r10 r4 M9) (gd_v W3_194 W3_196 WP_19 W1_4 W3_197) rfl (by decide) (hdX4_wayOn) h0 (by decide) (cl_4) rfl (Nat.le_of_ble_eq_true rfl) dX4_mostCrowdedChair_79 rfl (fun r12 M11 => ?_)
  refine J_iadd C dX4_mostCrowdedChair_82 ?_
  refine J_ilet (fun v13 => ?_)
  refine J_istore (lv' := [(6, .int v13), (5, .int r4), (0, .ref (wa w o0)), (1, .int x1), (2, .int x2), (3, .int x3), (4, .int x4)]) C dX4_mostCrowdedChair_83 (by decide) rfl ?_
  refine J_iload C dX4_mostCrowdedChair_85 0 rfl ?_
  refine J_iload_n C dX4_mostCrowdedChair_87 rfl 4 rfl ?_
  refine J_icmp_ge (tgt := 96) C dX4_mostCrowdedChair_88 (by decide) (fun _ => ?_) (fun _ => ?_)
  · refine J_iinc (lw := fun v14 => [(3, .int v14), (6, .int v13), (5, .int r4), (0, .ref (wa w o0)), (1, .int x1), (2, .int x2), (4, .int x4)]) (X := x3 + 1) C dX4_mostCrowdedChair_96 (q := 5) rfl (by rw [kci_1]) (by decide) (fun _ => rfl) (fun v14 => ?_)
    refine J_goto (tgt := 7) C dX4_mostCrowdedChair_99 (by decide) ?_
    refine J_lv [3, 4, 5, 0] rfl ?_
    exact hk7 x1 x2 v14 M11
  · refine J_iload C dX4_mostCrowdedChair_91 0 rfl ?_
    refine J_istore_n (lv' := [(2, .int v13), (6, .int v13), (5, .int r4), (0, .ref (wa w o0)), (1, .int x1), (3, .int x3), (4, .int x4)]) C dX4_mostCrowdedChair_93 rfl (by decide) rfl ?_
    refine J_iload_n C dX4_mostCrowdedChair_94 rfl 5 rfl ?_
    refine J_istore_n (lv' := [(1, .int x3), (2, .int v13), (6, .int v13), (5, .int r4), (0, .ref (wa w o0)), (3, .int x3), (4, .int x4)]) C dX4_mostCrowdedChair_95 rfl (by decide) rfl ?_
    refine J_iinc (lw := fun v15 => [(3, .int v15), (1, .int x3), (2, .int v13), (6, .int v13), (5, .int r4), (0, .ref (wa w o0)), (4, .int x4)]) (X := x3 + 1) C dX4_mostCrowdedChair_96 (q := 5) rfl (by rw [kci_1]) (by decide) (fun _ => rfl) (fun v15 => ?_)
    refine J_goto (tgt := 7) C dX4_mostCrowdedChair_99 (by decide) ?_
    refine J_lv [5, 1, 2, 0] rfl ?_
    exact hk7 x3 v13 v15 M11
def s4_mostCrowdedChair_32 (n : Nat) (k7 : Int32 → Int32 → Int32 → Mem → Option Res) (o0 : Nat) (x1 : Int32) (x2 : Int32) (x3 : Int32) (t0 : Int32) (q1 : Nat) (M : Mem) : Option Res := cb (s4_placeOfChair q1 t0 M) (fun r2 M1 => if ((M1 o0 1) - (1 : Int32)) ≤ x3 then (s4_mostCrowdedChair_55 n k7 o0 x1 x2 x3 r2 (0 : Int32) o0 M1) else (s4_mostCrowdedChair_55 n k7 o0 x1 x2 x3 r2 (x3 + (1 : Int32)) o0 M1))
set_option maxRecDepth 100000 in
set_option maxHeartbeats 4000000 in
theorem b4_mostCrowdedChair_32 {w : WE} {g : GT} (C : CT w g RX4 cX4_mostCrowdedChair rm4_mostCrowdedChair 7) (RT : RTi w g cX4_mostCrowdedChair .int) (n : Nat) (k7 : Int32 → Int32 → Int32 → Mem → Option Res) (o0 : Nat) (h0 : typ o0 = 4) (x1 : Int32) (x2 : Int32) (x3 : Int32) (t0 : Int32) (q1 : Nat) (hq1 : typ q1 = 4) (hk7 : ∀ (z1 : Int32) (z2 : Int32) (z3 : Int32) (M : Mem), J w g (k7 z1 z2 z3 M) M 7 [(0, .ref (wa w o0)), (1, .int z1), (2, .int z2), (3, .int z3)] []) (M : Mem) : J w g (s4_mostCrowdedChair_32 n k7 o0 x1 x2 x3 t0 q1 M) M 32 [(0, .ref (wa w o0)), (1, .int x1), (2, .int x2), (3, .int x3)] [.int t0, .ref (wa w q1)] := by
  rw [s4_mostCrowdedChair_32]
  refine J_cvi (As := [.int t0]) C (c4_placeOfChair (gl g) w q1 hq1 t0 M) (gd_v W3_179 W3_153 W3_154 W1_4 W3_155) rfl (by decide) (hdX4_placeOfChair) hq1 (by decide) (cl_4) rfl (Nat.le_of_ble_eq_true rfl) dX4_mostCrowdedChair_32 rfl (fun r2 M1 => ?_)
  refine J_istore (lv' := [(4, .int r2), (0, .ref (wa w o0)), (1, .int x1), (2, .int x2), (3, .int x3)]) C dX4_mostCrowdedChair_35 (by decide) rfl ?_
  refine J_aload_n C dX4_mostCrowdedChair_37 rfl 1 rfl ?_
  refine J_iload_n C dX4_mostCrowdedChair_38 rfl 4 rfl ?_
  refine J_aload_n C dX4_mostCrowdedChair_39 rfl 1 rfl ?_
  refine J_geti C fk4_1 W1_48 h0 dX4_mostCrowdedChair_40 ?_
  refine J_iconst C dX4_mostCrowdedChair_43 kci_1 ?_
  refine J_isub C dX4_mostCrowdedChair_44 ?_
  refine J_icmp_ge (tgt := 54) C dX4_mostCrowdedChair_45 (by decide) (fun _ => ?_) (fun _ => ?_)
  · refine J_iconst C dX4_mostCrowdedChair_54 kci_0 ?_
    refine J_lv [1, 2, 3, 4, 0] rfl ?_
    exact b4_mostCrowdedChair_55 C RT n k7 o0 h0 x1 x2 x3 r2 (0 : Int32) o0 h0 hk7 M1
  · refine J_iload_n C dX4_mostCrowdedChair_48 rfl 4 rfl ?_
    refine J_iconst C dX4_mostCrowdedChair_49 kci_1 ?_
    refine J_iadd C dX4_mostCrowdedChair_50 ?_
    refine J_goto (tgt := 55) C dX4_mostCrowdedChair_51 (by decide) ?_
    refine J_lv [1, 2, 3, 4, 0] rfl ?_
    exact b4_mostCrowdedChair_55 C RT n k7 o0 h0 x1 x2 x3 r2 (x3 + (1 : Int32)) o0 h0 hk7 M1
def s4_mostCrowdedChair_7 (n : Nat) (o0 : Nat) : Nat → Int32 → Int32 → Int32 → Mem → Option Res
  | 0, _, _, _, _ => none
  | f + 1, x1, x2, x3, M => if (M o0 1) ≤ x3 then (some (x1, M)) else (if x3 ≤ 0 then (s4_mostCrowdedChair_32 n (s4_mostCrowdedChair_7 n o0 f) o0 x1 x2 x3 ((M o0 1) - (1 : Int32)) o0 M) else (s4_mostCrowdedChair_32 n (s4_mostCrowdedChair_7 n o0 f) o0 x1 x2 x3 (x3 - (1 : Int32)) o0 M))
set_option maxRecDepth 100000 in
set_option maxHeartbeats 4000000 in
theorem b4_mostCrowdedChair_7 {w : WE} {g : GT} (C : CT w g RX4 cX4_mostCrowdedChair rm4_mostCrowdedChair 7) (RT : RTi w g cX4_mostCrowdedChair .int) (n : Nat) (o0 : Nat) (h0 : typ o0 = 4) : ∀ (f : Nat) (x1 : Int32) (x2 : Int32) (x3 : Int32) (M : Mem), J w g (s4_mostCrowdedChair_7 n o0 f x1 x2 x3 M) M 7 [(0, .ref (wa w o0)), (1, .int x1), (2, .int x2), (3, .int x3)] [] := by
  intro f
  induction f with
  | zero =>
    intro x1 x2 x3 M
    rw [s4_mostCrowdedChair_7]
    exact J_none
  | succ f ih =>
    intro x1 x2 x3 M
    rw [s4_mostCrowdedChair_7]
    refine J_iload_n C dX4_mostCrowdedChair_7 rfl 3 rfl ?_
    refine J_aload_n C dX4_mostCrowdedChair_8 rfl 0 rfl ?_
    refine J_geti C fk4_1 W1_48 h0 dX4_mostCrowdedChair_9 ?_
    refine J_icmp_ge (tgt := 102) C dX4_mostCrowdedChair_12 (by decide) (fun _ => ?_) (fun _ => ?_)
    · refine J_iload_n C dX4_mostCrowdedChair_102 rfl 1 rfl ?_
      exact J_iret C RT rfl dX4_mostCrowdedChair_103
    · refine J_aload_n C dX4_mostCrowdedChair_15 rfl 0 rfl ?_
      refine J_iload_n C dX4_mostCrowdedChair_16 rfl 3 rfl ?_
      refine J_if_le (tgt := 26) C dX4_mostCrowdedChair_17 (by decide) (fun _ => ?_) (fun _ => ?_)
      · refine J_aload_n C dX4_mostCrowdedChair_26 rfl 0 rfl ?_
        refine J_geti C fk4_1 W1_48 h0 dX4_mostCrowdedChair_27 ?_
        refine J_iconst C dX4_mostCrowdedChair_30 kci_1 ?_
        refine J_isub C dX4_mostCrowdedChair_31 ?_
        exact b4_mostCrowdedChair_32 C RT n (s4_mostCrowdedChair_7 n o0 f) o0 h0 x1 x2 x3 ((M o0 1) - (1 : Int32)) o0 h0 ih M
      · refine J_iload_n C dX4_mostCrowdedChair_20 rfl 3 rfl ?_
        refine J_iconst C dX4_mostCrowdedChair_21 kci_1 ?_
        refine J_isub C dX4_mostCrowdedChair_22 ?_
        refine J_goto (tgt := 32) C dX4_mostCrowdedChair_23 (by decide) ?_
        exact b4_mostCrowdedChair_32 C RT n (s4_mostCrowdedChair_7 n o0 f) o0 h0 x1 x2 x3 (x3 - (1 : Int32)) o0 h0 ih M
def s4_mostCrowdedChair (n : Nat) (o0 : Nat) (M : Mem) : Option Res := s4_mostCrowdedChair_7 n o0 n (0 : Int32) (2147483647 : Int32) (0 : Int32) M
set_option maxRecDepth 100000 in
set_option maxHeartbeats 4000000 in
theorem b4_mostCrowdedChair {w : WE} {g : GT} (C : CT w g RX4 cX4_mostCrowdedChair rm4_mostCrowdedChair 7) (RT : RTi w g cX4_mostCrowdedChair .int) (n : Nat) (o0 : Nat) (h0 : typ o0 = 4) (M : Mem) : J w g (s4_mostCrowdedChair n o0 M) M 0 [(0, .ref (wa w o0))] [] := by
  rw [s4_mostCrowdedChair]
  refine J_iconst C dX4_mostCrowdedChair_0 kci_0 ?_
  refine J_istore_n (lv' := [(1, .int (0 : Int32)), (0, .ref (wa w o0))]) C dX4_mostCrowdedChair_1 rfl (by decide) rfl ?_
  refine J_ldc C W3_193 dX4_mostCrowdedChair_2 ?_
  refine J_istore_n (lv' := [(2, .int (2147483647 : Int32)), (1, .int (0 : Int32)), (0, .ref (wa w o0))]) C dX4_mostCrowdedChair_4 rfl (by decide) rfl ?_
  refine J_iconst C dX4_mostCrowdedChair_5 kci_0 ?_
  refine J_istore_n (lv' := [(3, .int (0 : Int32)), (2, .int (2147483647 : Int32)), (1, .int (0 : Int32)), (0, .ref (wa w o0))]) C dX4_mostCrowdedChair_6 rfl (by decide) rfl ?_
  refine J_lv [3, 2, 1, 0] rfl ?_
  exact b4_mostCrowdedChair_7 C RT n o0 h0 n (0 : Int32) (2147483647 : Int32) (0 : Int32) M
theorem c4_mostCrowdedChair (l : Launch) (w : WE) (n : Nat) (o0 : Nat) (h0 : typ o0 = 4) (M : Mem) : MC l w yX4_mostCrowdedChair (wz yX4_mostCrowdedChair cX4_mostCrowdedChair 7 (some .int)) rm4_mostCrowdedChair [.ref (wa w o0)] (s4_mostCrowdedChair n o0 M) M :=
  mc_of_J (own := RX4) rfl (by decide) rfl rfl (Nat.le_of_ble_eq_true rfl) (fun _ _ C RT => b4_mostCrowdedChair C RT n o0 h0 M)
theorem hdX4_mostCrowdedChair : yX4_mostCrowdedChair.cls = RX4 ∧ yOK yX4_mostCrowdedChair 0 := ⟨rfl, by decide, by decide, by decide⟩
abbrev rm4_leavingPlace : Room := { frames := 2, cells := 0, slots := 0, locals := 48 }
def s4_leavingPlace (n : Nat) (o0 : Nat) (x1 : Int32) (M : Mem) : Option Res := if x1 = 0 then (cb (s4_placeOfChair o0 (0 : Int32) M) (fun r8 M7 => some (r8, M7))) else (if x1 = (1 : Int32) then (cb (s4_placeOfChair o0 ((M o0 1) - (1 : Int32)) M) (fun r6 M5 => some (r6, M5))) else (cb (s4_mostCrowdedChair n o0 M) (fun r2 M1 => cb (s4_placeOfChair o0 r2 M1) (fun r4 M3 => some (r4, M3)))))
set_option maxRecDepth 100000 in
set_option maxHeartbeats 4000000 in
theorem b4_leavingPlace {w : WE} {g : GT} (C : CT w g RX4 cX4_leavingPlace rm4_leavingPlace 2) (RT : RTi w g cX4_leavingPlace .int) (n : Nat) (o0 : Nat) (h0 : typ o0 = 4) (x1 : Int32) (M : Mem) : J w g (s4_leavingPlace n o0 x1 M) M 0 [(0, .ref (wa w o0)), (1, .int x1)] [] := by
  rw [s4_leavingPlace]
  refine J_iload_n C dX4_leavingPlace_0 rfl 1 rfl ?_
  refine J_if_ne (tgt := 10) C dX4_leavingPlace_1 (by decide) (fun _ => ?_) (fun _ => ?_)
  · refine J_aload_n C dX4_leavingPlace_10 rfl 0 rfl ?_
    refine J_iload_n C dX4_leavingPlace_11 rfl 1 rfl ?_
    refine J_iconst C dX4_leavingPlace_12 kci_1 ?_
    refine J_icmp_ne (tgt := 25) C dX4_leavingPlace_13 (by decide) (fun _ => ?_) (fun _ => ?_)
    · refine J_aload_n C dX4_leavingPlace_25 rfl 0 rfl ?_
      refine J_cvi (As := []) C (c4_mostCrowdedChair (gl g) w n o0 h0 M) (gd_v W3_189 W3_191 WP_18 W1_4 W3_192) rfl (by decide) (hdX4_mostCrowdedChair) h0 (by decide) (cl_4) rfl (Nat.le_of_ble_eq_true rfl) dX4_leavingPlace_26 rfl (fun r2 M1 => ?_)
      refine J_cvi (As := [.int r2]) C (c4_placeOfChair (gl g) w o0 h0 r2 M1) (gd_v W3_179 W3_153 W3_154 W1_4 W3_155) rfl (by decide) (hdX4_placeOfChair) h0 (by decide) (cl_4) rfl (Nat.le_of_ble_eq_true rfl) dX4_leavingPlace_29 rfl (fun r4 M3 => ?_)
      exact J_iret C RT rfl dX4_leavingPlace_32
    · refine J_aload_n C dX4_leavingPlace_16 rfl 0 rfl ?_
      refine J_geti C fk4_1 W1_48 h0 dX4_leavingPlace_17 ?_
      refine J_iconst C dX4_leavingPlace_20 kci_1 ?_
      refine J_isub C dX4_leavingPlace_21 ?_
      refine J_goto (tgt := 29) C dX4_leavingPlace_22 (by decide) ?_
      refine J_cvi (As := [.int ((M o0 1) - (1 : Int32))]) C (c4_placeOfChair (gl g) w o0 h0 ((M o0 1) - (1 : Int32)) M) (gd_v W3_179 W3_153 W3_154 W1_4 W3_155) rfl (by decide) (hdX4_placeOfChair) h0 (by decide) (cl_4) rfl (Nat.le_of_ble_eq_true rfl) dX4_leavingPlace_29 rfl (fun r6 M5 => ?_)
      exact J_iret C RT rfl dX4_leavingPlace_32
  · refine J_aload_n C dX4_leavingPlace_4 rfl 0 rfl ?_
    refine J_iconst C dX4_leavingPlace_5 kci_0 ?_
    refine J_cvi (As := [.int (0 : Int32)]) C (c4_placeOfChair (gl g) w o0 h0 (0 : Int32) M) (gd_v W3_179 W3_153 W3_154 W1_4 W3_155) rfl (by decide) (hdX4_placeOfChair) h0 (by decide) (cl_4) rfl (Nat.le_of_ble_eq_true rfl) dX4_leavingPlace_6 rfl (fun r8 M7 => ?_)
    exact J_iret C RT rfl dX4_leavingPlace_9
theorem c4_leavingPlace (l : Launch) (w : WE) (n : Nat) (o0 : Nat) (h0 : typ o0 = 4) (x1 : Int32) (M : Mem) : MC l w yX4_leavingPlace (wz yX4_leavingPlace cX4_leavingPlace 2 (some .int)) rm4_leavingPlace [.ref (wa w o0), .int x1] (s4_leavingPlace n o0 x1 M) M :=
  mc_of_J (own := RX4) rfl (by decide) rfl rfl (Nat.le_of_ble_eq_true rfl) (fun _ _ C RT => b4_leavingPlace C RT n o0 h0 x1 M)
theorem hdX4_leavingPlace : yX4_leavingPlace.cls = RX4 ∧ yOK yX4_leavingPlace 1 := ⟨rfl, by decide, by decide, by decide⟩
abbrev rm4_takeChair : Room := { frames := 1, cells := 0, slots := 0, locals := 21 }
def s4_takeChair_58 (n : Nat) (o0 : Nat) (x1 : Int32) (x2 : Int32) (M : Mem) : Option Res := mlet (mset M o0 1 x2) (fun M3 => if inB x1 (alen (link o0 3)) then mlet (mset M3 (link o0 3) x1.toNatClampNeg (vp_nar .boolean (0 : Int32))) (fun M4 => some (0, M4)) else none)
set_option maxRecDepth 100000 in
set_option maxHeartbeats 4000000 in
theorem b4_takeChair_58 {w : WE} {g : GT} (C : CT w g RX4 cX4_takeChair rm4_takeChair 4) (RT : RTv w g cX4_takeChair) (n : Nat) (o0 : Nat) (h0 : typ o0 = 4) (x1 : Int32) (x2 : Int32) (M : Mem) : J w g (s4_takeChair_58 n o0 x1 x2 M) M 58 [(0, .ref (wa w o0)), (1, .int x1), (2, .int x2)] [] := by
  rw [s4_takeChair_58]
  refine J_aload_n C dX4_takeChair_58 rfl 0 rfl ?_
  refine J_iload_n C dX4_takeChair_59 rfl 2 rfl ?_
  refine J_puti C fk4_1 W1_48 fp4_1 h0 dX4_takeChair_60 ?_
  refine J_mlet (fun M3 => ?_)
  refine J_aload_n C dX4_takeChair_63 rfl 0 rfl ?_
  refine J_getr C fk4_3 W1_54 h0 dX4_takeChair_64 ?_
  refine J_iload_n C dX4_takeChair_67 rfl 1 rfl ?_
  refine J_iconst C dX4_takeChair_68 kci_0 ?_
  refine J_zastore C (tl_4_3 h0) dX4_takeChair_69 ?_
  refine J_mlet (fun M4 => ?_)
  exact J_vret C RT dX4_takeChair_70
def s4_takeChair_13 (n : Nat) (o0 : Nat) (x1 : Int32) : Nat → Int32 → Int32 → Mem → Option Res
  | 0, _, _, _ => none
  | f + 1, x2, x3, M => if (M o0 1) ≤ x3 then (s4_takeChair_58 n o0 x1 x2 M) else (if (11 : Int32) ≤ x3 then (s4_takeChair_58 n o0 x1 x2 M) else (if inB x3 (alen (link o0 2)) then if (M (link o0 2) x3.toNatClampNeg) = x1 then (ilet (x3 + 1) (fun v5 => s4_takeChair_13 n o0 x1 f x2 v5 M)) else (if inB x3 (alen (link o0 2)) then if inB x2 (alen (link o0 2)) then mlet (mset M (link o0 2) x2.toNatClampNeg (M (link o0 2) x3.toNatClampNeg)) (fun M6 => ilet (x2 + 1) (fun v7 => ilet (x3 + 1) (fun v8 => s4_takeChair_13 n o0 x1 f v7 v8 M6))) else none else none) else none))
set_option maxRecDepth 100000 in
set_option maxHeartbeats 4000000 in
theorem b4_takeChair_13 {w : WE} {g : GT} (C : CT w g RX4 cX4_takeChair rm4_takeChair 4) (RT : RTv w g cX4_takeChair) (n : Nat) (o0 : Nat) (h0 : typ o0 = 4) (x1 : Int32) : ∀ (f : Nat) (x2 : Int32) (x3 : Int32) (M : Mem), J w g (s4_takeChair_13 n o0 x1 f x2 x3 M) M 13 [(0, .ref (wa w o0)), (1, .int x1), (2, .int x2), (3, .int x3)] [] := by
  intro f
  induction f with
  | zero =>
    intro x2 x3 M
    rw [s4_takeChair_13]
    exact J_none
  | succ f ih =>
    intro x2 x3 M
    rw [s4_takeChair_13]
    refine J_iload_n C dX4_takeChair_13 rfl 3 rfl ?_
    refine J_aload_n C dX4_takeChair_14 rfl 0 rfl ?_
    refine J_geti C fk4_1 W1_48 h0 dX4_takeChair_15 ?_
    refine J_icmp_ge (tgt := 58) C dX4_takeChair_18 (by decide) (fun _ => ?_) (fun _ => ?_)
    · refine J_lv [0, 1, 2] rfl ?_
      exact b4_takeChair_58 C RT n o0 h0 x1 x2 M
    · refine J_iload_n C dX4_takeChair_21 rfl 3 rfl ?_
      refine J_bipush C dX4_takeChair_22 kcb_11 ?_
      refine J_icmp_ge (tgt := 58) C dX4_takeChair_24 (by decide) (fun _ => ?_) (fun _ => ?_)
      · refine J_lv [0, 1, 2] rfl ?_
        exact b4_takeChair_58 C RT n o0 h0 x1 x2 M
      · refine J_aload_n C dX4_takeChair_27 rfl 0 rfl ?_
        refine J_getr C fk4_2 W1_53 h0 dX4_takeChair_28 ?_
        refine J_iload_n C dX4_takeChair_31 rfl 3 rfl ?_
        refine J_aload_ C (tl_4_2 h0) dX4_takeChair_32 ?_
        refine J_iload_n C dX4_takeChair_33 rfl 1 rfl ?_
        refine J_icmp_eq (tgt := 52) C dX4_takeChair_34 (by decide) (fun _ => ?_) (fun _ => ?_)
        · refine J_iinc (lw := fun v5 => [(3, .int v5), (0, .ref (wa w o0)), (1, .int x1), (2, .int x2)]) (X := x3 + 1) C dX4_takeChair_52 (q := 3) rfl (by rw [kci_1]) (by decide) (fun _ => rfl) (fun v5 => ?_)
          refine J_goto (tgt := 13) C dX4_takeChair_55 (by decide) ?_
          refine J_lv [1, 2, 3, 0] rfl ?_
          exact ih x2 v5 M
        · refine J_aload_n C dX4_takeChair_37 rfl 0 rfl ?_
          refine J_getr C fk4_2 W1_53 h0 dX4_takeChair_38 ?_
          refine J_iload_n C dX4_takeChair_41 rfl 2 rfl ?_
          refine J_aload_n C dX4_takeChair_42 rfl 0 rfl ?_
          refine J_getr C fk4_2 W1_53 h0 dX4_takeChair_43 ?_
          refine J_iload_n C dX4_takeChair_46 rfl 3 rfl ?_
          refine J_aload_ C (tl_4_2 h0) dX4_takeChair_47 ?_
          refine J_iastore C (tl_4_2 h0) dX4_takeChair_48 ?_
          refine J_mlet (fun M6 => ?_)
          refine J_iinc (lw := fun v7 => [(2, .int v7), (0, .ref (wa w o0)), (1, .int x1), (3, .int x3)]) (X := x2 + 1) C dX4_takeChair_49 (q := 2) rfl (by rw [kci_1]) (by decide) (fun _ => rfl) (fun v7 => ?_)
          refine J_iinc (lw := fun v8 => [(3, .int v8), (2, .int v7), (0, .ref (wa w o0)), (1, .int x1)]) (X := x3 + 1) C dX4_takeChair_52 (q := 3) rfl (by rw [kci_1]) (by decide) (fun _ => rfl) (fun v8 => ?_)
          refine J_goto (tgt := 13) C dX4_takeChair_55 (by decide) ?_
          refine J_lv [2, 3, 1, 0] rfl ?_
          exact ih v7 v8 M6
def s4_takeChair (n : Nat) (o0 : Nat) (x1 : Int32) (M : Mem) : Option Res := cb (s4_hasChair o0 x1 M) (fun r2 M1 => if r2 = 0 then (some (0, M1)) else (s4_takeChair_13 n o0 x1 n (0 : Int32) (0 : Int32) M1))
set_option maxRecDepth 100000 in
set_option maxHeartbeats 4000000 in
theorem b4_takeChair {w : WE} {g : GT} (C : CT w g RX4 cX4_takeChair rm4_takeChair 4) (RT : RTv w g cX4_takeChair) (n : Nat) (o0 : Nat) (h0 : typ o0 = 4) (x1 : Int32) (M : Mem) : J w g (s4_takeChair n o0 x1 M) M 0 [(0, .ref (wa w o0)), (1, .int x1)] [] := by
  rw [s4_takeChair]
  refine J_aload_n C dX4_takeChair_0 rfl 0 rfl ?_
  refine J_iload_n C dX4_takeChair_1 rfl 1 rfl ?_
  refine J_cvi (As := [.int x1]) C (c4_hasChair (gl g) w o0 h0 x1 M) (gd_v W3_202 W2_218 W2_219 W1_4 W2_220) rfl (by decide) (hdX4_hasChair) h0 (by decide) (cl_4) rfl (Nat.le_of_ble_eq_true rfl) dX4_takeChair_2 rfl (fun r2 M1 => ?_)
  refine J_if_ne (tgt := 9) C dX4_takeChair_5 (by decide) (fun _ => ?_) (fun _ => ?_)
  · refine J_iconst C dX4_takeChair_9 kci_0 ?_
    refine J_istore_n (lv' := [(2, .int (0 : Int32)), (0, .ref (wa w o0)), (1, .int x1)]) C dX4_takeChair_10 rfl (by decide) rfl ?_
    refine J_iconst C dX4_takeChair_11 kci_0 ?_
    refine J_istore_n (lv' := [(3, .int (0 : Int32)), (2, .int (0 : Int32)), (0, .ref (wa w o0)), (1, .int x1)]) C dX4_takeChair_12 rfl (by decide) rfl ?_
    refine J_lv [2, 3, 1, 0] rfl ?_
    exact b4_takeChair_13 C RT n o0 h0 x1 n (0 : Int32) (0 : Int32) M1
  · exact J_vret C RT dX4_takeChair_8
theorem c4_takeChair (l : Launch) (w : WE) (n : Nat) (o0 : Nat) (h0 : typ o0 = 4) (x1 : Int32) (M : Mem) : MV l w yX4_takeChair (wz yX4_takeChair cX4_takeChair 4 none) rm4_takeChair [.ref (wa w o0), .int x1] (s4_takeChair n o0 x1 M) M :=
  mv_of_J (own := RX4) rfl (by decide) rfl rfl (Nat.le_of_ble_eq_true rfl) (fun _ _ C RT => b4_takeChair C RT n o0 h0 x1 M)
theorem hdX4_takeChair : yX4_takeChair.cls = RX4 ∧ yOK yX4_takeChair 1 := ⟨rfl, by decide, by decide, by decide⟩
abbrev rm2_knows : Room := { frames := 0, cells := 0, slots := 0, locals := 0 }
def s2_knows (o0 : Nat) (x1 : Int32) (M : Mem) : Option Res := if x1 < 0 then (some ((0 : Int32), M)) else (if (M o0 5) ≤ x1 then (some ((0 : Int32), M)) else (if (12 : Int32) ≤ x1 then (some ((0 : Int32), M)) else (some ((1 : Int32), M))))
set_option maxRecDepth 100000 in
set_option maxHeartbeats 4000000 in
theorem b2_knows {w : WE} {g : GT} (C : CT w g RX2 cX2_knows rm2_knows 2) (RT : RTi w g cX2_knows .boolean) (o0 : Nat) (h0 : typ o0 = 2) (x1 : Int32) (M : Mem) : J w g (s2_knows o0 x1 M) M 0 [(0, .ref (wa w o0)), (1, .int x1)] [] := by
  rw [s2_knows]
  refine J_iload_n C dX2_knows_0 rfl 1 rfl ?_
  refine J_if_lt (tgt := 22) C dX2_knows_1 (by decide) (fun _ => ?_) (fun _ => ?_)
  · refine J_iconst C dX2_knows_22 kci_0 ?_
    exact J_iret C RT (by decide) dX2_knows_23
  · refine J_iload_n C dX2_knows_4 rfl 1 rfl ?_
    refine J_aload_n C dX2_knows_5 rfl 0 rfl ?_
    refine J_geti C fk2_5 W1_179 h0 dX2_knows_6 ?_
    refine J_icmp_ge (tgt := 22) C dX2_knows_9 (by decide) (fun _ => ?_) (fun _ => ?_)
    · refine J_iconst C dX2_knows_22 kci_0 ?_
      exact J_iret C RT (by decide) dX2_knows_23
    · refine J_iload_n C dX2_knows_12 rfl 1 rfl ?_
      refine J_bipush C dX2_knows_13 kcb_12 ?_
      refine J_icmp_ge (tgt := 22) C dX2_knows_15 (by decide) (fun _ => ?_) (fun _ => ?_)
      · refine J_iconst C dX2_knows_22 kci_0 ?_
        exact J_iret C RT (by decide) dX2_knows_23
      · refine J_iconst C dX2_knows_18 kci_1 ?_
        refine J_goto (tgt := 23) C dX2_knows_19 (by decide) ?_
        exact J_iret C RT (by decide) dX2_knows_23
theorem c2_knows (l : Launch) (w : WE) (o0 : Nat) (h0 : typ o0 = 2) (x1 : Int32) (M : Mem) : MC l w yX2_knows (wz yX2_knows cX2_knows 2 (some .boolean)) rm2_knows [.ref (wa w o0), .int x1] (s2_knows o0 x1 M) M :=
  mc_of_J (own := RX2) rfl (by decide) rfl rfl (Nat.le_of_ble_eq_true rfl) (fun _ _ C RT => b2_knows C RT o0 h0 x1 M)
theorem hdX2_knows : yX2_knows.cls = RX2 ∧ yOK yX2_knows 1 := ⟨rfl, by decide, by decide, by decide⟩
abbrev rm2_countIn : Room := { frames := 1, cells := 0, slots := 0, locals := 21 }
def s2_countIn_4 (n : Nat) (o0 : Nat) : Nat → Int32 → Int32 → Mem → Option Res
  | 0, _, _, _ => none
  | f + 1, x1, x2, M => if (M o0 5) ≤ x2 then (some (x1, M)) else (cb (s2_knowsIn o0 x2 M) (fun r2 M1 => if r2 = 0 then (ilet (x2 + 1) (fun v3 => s2_countIn_4 n o0 f x1 v3 M1)) else (ilet (x1 + 1) (fun v4 => ilet (x2 + 1) (fun v5 => s2_countIn_4 n o0 f v4 v5 M1)))))
set_option maxRecDepth 100000 in
set_option maxHeartbeats 4000000 in
theorem b2_countIn_4 {w : WE} {g : GT} (C : CT w g RX2 cX2_countIn rm2_countIn 3) (RT : RTi w g cX2_countIn .int) (n : Nat) (o0 : Nat) (h0 : typ o0 = 2) : ∀ (f : Nat) (x1 : Int32) (x2 : Int32) (M : Mem), J w g (s2_countIn_4 n o0 f x1 x2 M) M 4 [(0, .ref (wa w o0)), (1, .int x1), (2, .int x2)] [] := by
  intro f
  induction f with
  | zero =>
    intro x1 x2 M
    rw [s2_countIn_4]
    exact J_none
  | succ f ih =>
    intro x1 x2 M
    rw [s2_countIn_4]
    refine J_iload_n C dX2_countIn_4 rfl 2 rfl ?_
    refine J_aload_n C dX2_countIn_5 rfl 0 rfl ?_
    refine J_geti C fk2_5 W1_179 h0 dX2_countIn_6 ?_
    refine J_icmp_ge (tgt := 29) C dX2_countIn_9 (by decide) (fun _ => ?_) (fun _ => ?_)
    · refine J_iload_n C dX2_countIn_29 rfl 1 rfl ?_
      exact J_iret C RT rfl dX2_countIn_30
    · refine J_aload_n C dX2_countIn_12 rfl 0 rfl ?_
      refine J_iload_n C dX2_countIn_13 rfl 2 rfl ?_
      refine J_cvi (As := [.int x2]) C (c2_knowsIn (gl g) w o0 h0 x2 M) (gd_v W3_109 W3_110 W3_111 W1_3 W3_112) rfl (by decide) (hdX2_knowsIn) h0 (by decide) (cl_2) rfl (Nat.le_of_ble_eq_true rfl) dX2_countIn_14 rfl (fun r2 M1 => ?_)
      refine J_if_eq (tgt := 23) C dX2_countIn_17 (by decide) (fun _ => ?_) (fun _ => ?_)
      · refine J_iinc (lw := fun v3 => [(2, .int v3), (0, .ref (wa w o0)), (1, .int x1)]) (X := x2 + 1) C dX2_countIn_23 (q := 2) rfl (by rw [kci_1]) (by decide) (fun _ => rfl) (fun v3 => ?_)
        refine J_goto (tgt := 4) C dX2_countIn_26 (by decide) ?_
        refine J_lv [1, 2, 0] rfl ?_
        exact ih x1 v3 M1
      · refine J_iinc (lw := fun v4 => [(1, .int v4), (0, .ref (wa w o0)), (2, .int x2)]) (X := x1 + 1) C dX2_countIn_20 (q := 1) rfl (by rw [kci_1]) (by decide) (fun _ => rfl) (fun v4 => ?_)
        refine J_iinc (lw := fun v5 => [(2, .int v5), (1, .int v4), (0, .ref (wa w o0))]) (X := x2 + 1) C dX2_countIn_23 (q := 2) rfl (by rw [kci_1]) (by decide) (fun _ => rfl) (fun v5 => ?_)
        refine J_goto (tgt := 4) C dX2_countIn_26 (by decide) ?_
        refine J_lv [2, 1, 0] rfl ?_
        exact ih v4 v5 M1
def s2_countIn (n : Nat) (o0 : Nat) (M : Mem) : Option Res := s2_countIn_4 n o0 n (0 : Int32) (0 : Int32) M
set_option maxRecDepth 100000 in
set_option maxHeartbeats 4000000 in
theorem b2_countIn {w : WE} {g : GT} (C : CT w g RX2 cX2_countIn rm2_countIn 3) (RT : RTi w g cX2_countIn .int) (n : Nat) (o0 : Nat) (h0 : typ o0 = 2) (M : Mem) : J w g (s2_countIn n o0 M) M 0 [(0, .ref (wa w o0))] [] := by
  rw [s2_countIn]
  refine J_iconst C dX2_countIn_0 kci_0 ?_
  refine J_istore_n (lv' := [(1, .int (0 : Int32)), (0, .ref (wa w o0))]) C dX2_countIn_1 rfl (by decide) rfl ?_
  refine J_iconst C dX2_countIn_2 kci_0 ?_
  refine J_istore_n (lv' := [(2, .int (0 : Int32)), (1, .int (0 : Int32)), (0, .ref (wa w o0))]) C dX2_countIn_3 rfl (by decide) rfl ?_
  refine J_lv [2, 1, 0] rfl ?_
  exact b2_countIn_4 C RT n o0 h0 n (0 : Int32) (0 : Int32) M
theorem c2_countIn (l : Launch) (w : WE) (n : Nat) (o0 : Nat) (h0 : typ o0 = 2) (M : Mem) : MC l w yX2_countIn (wz yX2_countIn cX2_countIn 3 (some .int)) rm2_countIn [.ref (wa w o0)] (s2_countIn n o0 M) M :=
  mc_of_J (own := RX2) rfl (by decide) rfl rfl (Nat.le_of_ble_eq_true rfl) (fun _ _ C RT => b2_countIn C RT n o0 h0 M)
theorem hdX2_countIn : yX2_countIn.cls = RX2 ∧ yOK yX2_countIn 0 := ⟨rfl, by decide, by decide, by decide⟩
abbrev rm2_endRound : Room := { frames := 3, cells := 0, slots := 0, locals := 72 }
def s2_endRound_71 (n : Nat) (o0 : Nat) (x1 : Int32) (M : Mem) : Option Res := mlet (mset M o0 7 (0 : Int32)) (fun M9 => mlet (mset M9 o0 8 ((M9 o0 8) + (1 : Int32))) (fun M10 => if x1 < 0 then (mlet (mset M10 o0 9 (1 : Int32)) (fun M11 => some (x1, M11))) else (cb (s2_countIn n o0 M10) (fun r13 M12 => if (1 : Int32) < r13 then (mlet (mset M12 o0 9 (0 : Int32)) (fun M14 => some (x1, M14))) else (mlet (mset M12 o0 9 (1 : Int32)) (fun M15 => some (x1, M15)))))))
set_option maxRecDepth 100000 in
set_option maxHeartbeats 4000000 in
theorem b2_endRound_71 {w : WE} {g : GT} (C : CT w g RX2 cX2_endRound rm2_endRound 2) (RT : RTi w g cX2_endRound .int) (n : Nat) (o0 : Nat) (h0 : typ o0 = 2) (x1 : Int32) (M : Mem) : J w g (s2_endRound_71 n o0 x1 M) M 71 [(0, .ref (wa w o0)), (1, .int x1)] [] := by
  rw [s2_endRound_71]
  refine J_aload_n C dX2_endRound_71 rfl 0 rfl ?_
  refine J_iconst C dX2_endRound_72 kci_0 ?_
  refine J_puti C fk2_7 W1_187 fp2_7 h0 dX2_endRound_73 ?_
  refine J_mlet (fun M9 => ?_)
  refine J_aload_n C dX2_endRound_76 rfl 0 rfl ?_
  refine J_dup C rfl dX2_endRound_77 ?_
  refine J_geti C fk2_8 W1_189 h0 dX2_endRound_78 ?_
  refine J_iconst C dX2_endRound_81 kci_1 ?_
  refine J_iadd C dX2_endRound_82 ?_
  refine J_puti C fk2_8 W1_189 fp2_8 h0 dX2_endRound_83 ?_
  refine J_mlet (fun M10 => ?_)
  refine J_aload_n C dX2_endRound_86 rfl 0 rfl ?_
  refine J_iload_n C dX2_endRound_87 rfl 1 rfl ?_
  refine J_if_lt (tgt := 99) C dX2_endRound_88 (by decide) (fun _ => ?_) (fun _ => ?_)
  · refine J_iconst C dX2_endRound_99 kci_1 ?_
    refine J_goto (tgt := 104) C dX2_endRound_100 (by decide) ?_
    refine J_putzc C (by decide) fk2_9 W1_191 fp2_9 h0 dX2_endRound_104 ?_
    refine J_mlet (fun M11 => ?_)
    refine J_iload_n C dX2_endRound_107 rfl 1 rfl ?_
    exact J_iret C RT rfl dX2_endRound_108
  · refine J_aload_n C dX2_endRound_91 rfl 0 rfl ?_
    refine J_cvi (As := []) C (c2_countIn (gl g) w n o0 h0 M10) (gd_v W3_105 W3_106 W3_107 W1_3 W3_108) rfl (by decide) (hdX2_countIn) h0 (by decide) (cl_2) rfl (Nat.le_of_ble_eq_true rfl) dX2_endRound_92 rfl (fun r13 M12 => ?_)
    refine J_iconst C dX2_endRound_95 kci_1 ?_
    refine J_icmp_gt (tgt := 103) C dX2_endRound_96 (by decide) (fun _ => ?_) (fun _ => ?_)
    · refine J_iconst C dX2_endRound_103 kci_0 ?_
      refine J_putzc C (by decide) fk2_9 W1_191 fp2_9 h0 dX2_endRound_104 ?_
      refine J_mlet (fun M14 => ?_)
      refine J_iload_n C dX2_endRound_107 rfl 1 rfl ?_
      exact J_iret C RT rfl dX2_endRound_108
    · refine J_iconst C dX2_endRound_99 kci_1 ?_
      refine J_goto (tgt := 104) C dX2_endRound_100 (by decide) ?_
      refine J_putzc C (by decide) fk2_9 W1_191 fp2_9 h0 dX2_endRound_104 ?_
      refine J_mlet (fun M15 => ?_)
      refine J_iload_n C dX2_endRound_107 rfl 1 rfl ?_
      exact J_iret C RT rfl dX2_endRound_108
def s2_endRound_39 (n : Nat) (o0 : Nat) (x1 : Int32) (M : Mem) : Option Res := cb (s2_knows o0 x1 M) (fun r8 M7 => if r8 = 0 then (s2_endRound_71 n o0 x1 M7) else (if inB x1 (alen (link o0 3)) then mlet (mset M7 (link (link o0 3) x1.toNatClampNeg) 2 (0 : Int32)) (fun M17 => if inB x1 (alen (link o0 3)) then cb (s2_mark o0 (M17 (link (link o0 3) x1.toNatClampNeg) 0) (0 : Int32) M17) (fun _ M19 => s2_endRound_71 n o0 x1 M19) else none) else none))
set_option maxRecDepth 100000 in
set_option maxHeartbeats 4000000 in
theorem b2_endRound_39 {w : WE} {g : GT} (C : CT w g RX2 cX2_endRound rm2_endRound 2) (RT : RTi w g cX2_endRound .int) (n : Nat) (o0 : Nat) (h0 : typ o0 = 2) (x1 : Int32) (M : Mem) : J w g (s2_endRound_39 n o0 x1 M) M 39 [(0, .ref (wa w o0)), (1, .int x1)] [] := by
  rw [s2_endRound_39]
  refine J_aload_n C dX2_endRound_39 rfl 0 rfl ?_
  refine J_iload_n C dX2_endRound_40 rfl 1 rfl ?_
  refine J_cvi (As := [.int x1]) C (c2_knows (gl g) w o0 h0 x1 M) (gd_v W3_203 W3_44 W3_45 W1_3 W3_46) rfl (by decide) (hdX2_knows) h0 (by decide) (cl_2) rfl (Nat.le_of_ble_eq_true rfl) dX2_endRound_41 rfl (fun r8 M7 => ?_)
  refine J_if_eq (tgt := 71) C dX2_endRound_44 (by decide) (fun _ => ?_) (fun _ => ?_)
  · exact b2_endRound_71 C RT n o0 h0 x1 M7
  · refine J_aload_n C dX2_endRound_47 rfl 0 rfl ?_
    refine J_getr C fk2_3 W1_174 h0 dX2_endRound_48 ?_
    refine J_iload_n C dX2_endRound_51 rfl 1 rfl ?_
    refine J_aaload C (tl_2_3 h0) dX2_endRound_52 (fun hb16 => ?_)
    refine J_iconst C dX2_endRound_53 kci_0 ?_
    refine J_putzc C (by decide) fk7_2 W1_128 fp7_2 (t_wk (tl_2_3 h0) hb16) dX2_endRound_54 ?_
    refine J_mlet (fun M17 => ?_)
    refine J_aload_n C dX2_endRound_57 rfl 0 rfl ?_
    refine J_aload_n C dX2_endRound_58 rfl 0 rfl ?_
    refine J_getr C fk2_3 W1_174 h0 dX2_endRound_59 ?_
    refine J_iload_n C dX2_endRound_62 rfl 1 rfl ?_
    refine J_aaload C (tl_2_3 h0) dX2_endRound_63 (fun hb18 => ?_)
    refine J_geti C fk7_0 W1_124 (t_wk (tl_2_3 h0) hb18) dX2_endRound_64 ?_
    refine J_iconst C dX2_endRound_67 kci_0 ?_
    refine J_cvv (As := [.int (M17 (link (link o0 3) x1.toNatClampNeg) 0), .int (0 : Int32)]) C (c2_mark (gl g) w o0 h0 (M17 (link (link o0 3) x1.toNatClampNeg) 0) (0 : Int32) M17) (gd_v W3_10 W3_12 WP_10 W1_3 W3_13) rfl (by decide) (hdX2_mark) h0 (by decide) (cl_2) rfl (Nat.le_of_ble_eq_true rfl) dX2_endRound_68 rfl (fun r20 M19 => ?_)
    exact b2_endRound_71 C RT n o0 h0 x1 M19
def s2_endRound (n : Nat) (o0 : Nat) (M : Mem) : Option Res := cb (s5_seatAll n (link o0 2) o0 M) (fun _ M1 => cb (s2_whoGoes n o0 M1) (fun r4 M3 => cb (s2_losesChair o0 r4 M3) (fun r6 M5 => if r6 = 0 then (s2_endRound_39 n o0 r4 M5) else (cb (s4_leavingPlace n (link o0 0) (M5 o0 6) M5) (fun r22 M21 => cb (s4_takeChair n (link o0 0) r22 M21) (fun _ M23 => s2_endRound_39 n o0 r4 M23))))))
set_option maxRecDepth 100000 in
set_option maxHeartbeats 4000000 in
theorem b2_endRound {w : WE} {g : GT} (C : CT w g RX2 cX2_endRound rm2_endRound 2) (RT : RTi w g cX2_endRound .int) (n : Nat) (o0 : Nat) (h0 : typ o0 = 2) (M : Mem) : J w g (s2_endRound n o0 M) M 0 [(0, .ref (wa w o0))] [] := by
  rw [s2_endRound]
  refine J_aload_n C dX2_endRound_0 rfl 0 rfl ?_
  refine J_getr C fk2_2 W1_171 h0 dX2_endRound_1 ?_
  refine J_aload_n C dX2_endRound_4 rfl 0 rfl ?_
  refine J_cvv (As := [.ref (wa w o0)]) C (c5_seatAll (gl g) w n (link o0 2) (tl_2_2 h0) o0 h0 M) (gd_v W3_144 W3_145 W3_146 W1_6 W3_147) rfl (by decide) (hdX5_seatAll) (tl_2_2 h0) (by decide) (cl_5) rfl (Nat.le_of_ble_eq_true rfl) dX2_endRound_5 rfl (fun r2 M1 => ?_)
  refine J_aload_n C dX2_endRound_8 rfl 0 rfl ?_
  refine J_cvi (As := []) C (c2_whoGoes (gl g) w n o0 h0 M1) (gd_v W3_167 W3_168 W3_169 W1_3 W3_170) rfl (by decide) (hdX2_whoGoes) h0 (by decide) (cl_2) rfl (Nat.le_of_ble_eq_true rfl) dX2_endRound_9 rfl (fun r4 M3 => ?_)
  refine J_istore_n (lv' := [(1, .int r4), (0, .ref (wa w o0))]) C dX2_endRound_12 rfl (by decide) rfl ?_
  refine J_aload_n C dX2_endRound_13 rfl 1 rfl ?_
  refine J_iload_n C dX2_endRound_14 rfl 0 rfl ?_
  refine J_cvi (As := [.int r4]) C (c2_losesChair (gl g) w o0 h0 r4 M3) (gd_v W3_181 W3_182 W3_183 W1_3 W3_184) rfl (by decide) (hdX2_losesChair) h0 (by decide) (cl_2) rfl (Nat.le_of_ble_eq_true rfl) dX2_endRound_15 rfl (fun r6 M5 => ?_)
  refine J_if_eq (tgt := 39) C dX2_endRound_18 (by decide) (fun _ => ?_) (fun _ => ?_)
  · refine J_lv [1, 0] rfl ?_
    exact b2_endRound_39 C RT n o0 h0 r4 M5
  · refine J_aload_n C dX2_endRound_21 rfl 1 rfl ?_
    refine J_getr C fk2_0 W1_162 h0 dX2_endRound_22 ?_
    refine J_aload_n C dX2_endRound_25 rfl 1 rfl ?_
    refine J_getr C fk2_0 W1_162 h0 dX2_endRound_26 ?_
    refine J_aload_n C dX2_endRound_29 rfl 1 rfl ?_
    refine J_geti C fk2_6 W1_183 h0 dX2_endRound_30 ?_
    refine J_cvi (As := [.int (M5 o0 6)]) C (c4_leavingPlace (gl g) w n (link o0 0) (tl_2_0 h0) (M5 o0 6) M5) (gd_v W3_185 W3_186 W3_187 W1_4 W3_188) rfl (by decide) (hdX4_leavingPlace) (tl_2_0 h0) (by decide) (cl_4) rfl (Nat.le_of_ble_eq_true rfl) dX2_endRound_33 rfl (fun r22 M21 => ?_)
    refine J_cvv (As := [.int r22]) C (c4_takeChair (gl g) w n (link o0 0) (tl_2_0 h0) r22 M21) (gd_v W3_198 W3_199 W3_200 W1_4 W3_201) rfl (by decide) (hdX4_takeChair) (tl_2_0 h0) (by decide) (cl_4) rfl (Nat.le_of_ble_eq_true rfl) dX2_endRound_36 rfl (fun r24 M23 => ?_)
    refine J_lv [1, 0] rfl ?_
    exact b2_endRound_39 C RT n o0 h0 r4 M23
theorem c2_endRound (l : Launch) (w : WE) (n : Nat) (o0 : Nat) (h0 : typ o0 = 2) (M : Mem) : MC l w yX2_endRound (wz yX2_endRound cX2_endRound 2 (some .int)) rm2_endRound [.ref (wa w o0)] (s2_endRound n o0 M) M :=
  mc_of_J (own := RX2) rfl (by decide) rfl rfl (Nat.le_of_ble_eq_true rfl) (fun _ _ C RT => b2_endRound C RT n o0 h0 M)
theorem hdX2_endRound : yX2_endRound.cls = RX2 ∧ yOK yX2_endRound 0 := ⟨rfl, by decide, by decide, by decide⟩
abbrev rm0_playOut : Room := { frames := 4, cells := 0, slots := 0, locals := 93 }
def s0_playOut_12 (n : Nat) (o0 : Nat) : Nat → Int32 → Mem → Option Res
  | 0, _, _ => none
  | f + 1, x1, M => if (3900 : Int32) ≤ x1 then (some (0, M)) else (if (M (link o0 1) 9) = 0 then (mlet (mset M o0 3 ((M o0 3) + (1 : Int32))) (fun M3 => cb (s2_passTenth n (link o0 1) M3) (fun r5 M4 => if r5 = 0 then (ilet (x1 + 1) (fun v6 => s0_playOut_12 n o0 f v6 M4)) else (cb (s2_endRound n (link o0 1) M4) (fun r8 M7 => mlet (mset M7 o0 4 ((M7 o0 4) + (1 : Int32))) (fun M9 => ilet (x1 + 1) (fun v10 => s0_playOut_12 n o0 f v10 M9))))))) else (some (0, M)))
set_option maxRecDepth 100000 in
set_option maxHeartbeats 4000000 in
theorem b0_playOut_12 {w : WE} {g : GT} (C : CT w g RX0 cX0_playOut rm0_playOut 2) (RT : RTv w g cX0_playOut) (n : Nat) (o0 : Nat) (h0 : typ o0 = 0) : ∀ (f : Nat) (x1 : Int32) (M : Mem), J w g (s0_playOut_12 n o0 f x1 M) M 12 [(0, .ref (wa w o0)), (1, .int x1)] [] := by
  intro f
  induction f with
  | zero =>
    intro x1 M
    rw [s0_playOut_12]
    exact J_none
  | succ f ih =>
    intro x1 M
    rw [s0_playOut_12]
    refine J_iload_n C dX0_playOut_12 rfl 1 rfl ?_
    refine J_sipush C dX0_playOut_13 kcs_3900 ?_
    refine J_icmp_ge (tgt := 73) C dX0_playOut_16 (by decide) (fun _ => ?_) (fun _ => ?_)
    · exact J_vret C RT dX0_playOut_73
    · refine J_aload_n C dX0_playOut_19 rfl 0 rfl ?_
      refine J_getr C fk0_1 W1_217 h0 dX0_playOut_20 ?_
      refine J_geti C fk2_9 W1_193 (tl_0_1 h0) dX0_playOut_23 ?_
      refine J_if_ne (tgt := 73) C dX0_playOut_26 (by decide) (fun _ => ?_) (fun _ => ?_)
      · exact J_vret C RT dX0_playOut_73
      · refine J_aload_n C dX0_playOut_29 rfl 0 rfl ?_
        refine J_dup C rfl dX0_playOut_30 ?_
        refine J_geti C fk0_3 W1_219 h0 dX0_playOut_31 ?_
        refine J_iconst C dX0_playOut_34 kci_1 ?_
        refine J_iadd C dX0_playOut_35 ?_
        refine J_puti C fk0_3 W1_219 fp0_3 h0 dX0_playOut_36 ?_
        refine J_mlet (fun M3 => ?_)
        refine J_aload_n C dX0_playOut_39 rfl 0 rfl ?_
        refine J_getr C fk0_1 W1_217 h0 dX0_playOut_40 ?_
        refine J_cvi (As := []) C (c2_passTenth (gl g) w n (link o0 1) (tl_0_1 h0) M3) (gd_v W4_49 W3_114 W3_115 W1_3 W3_116) rfl (by decide) (hdX2_passTenth) (tl_0_1 h0) (by decide) (cl_2) rfl (Nat.le_of_ble_eq_true rfl) dX0_playOut_43 rfl (fun r5 M4 => ?_)
        refine J_if_eq (tgt := 67) C dX0_playOut_46 (by decide) (fun _ => ?_) (fun _ => ?_)
        · refine J_iinc (lw := fun v6 => [(1, .int v6), (0, .ref (wa w o0))]) (X := x1 + 1) C dX0_playOut_67 (q := 1) rfl (by rw [kci_1]) (by decide) (fun _ => rfl) (fun v6 => ?_)
          refine J_goto (tgt := 12) C dX0_playOut_70 (by decide) ?_
          refine J_lv [1, 0] rfl ?_
          exact ih v6 M4
        · refine J_aload_n C dX0_playOut_49 rfl 0 rfl ?_
          refine J_getr C fk0_1 W1_217 h0 dX0_playOut_50 ?_
          refine J_cvi (As := []) C (c2_endRound (gl g) w n (link o0 1) (tl_0_1 h0) M4) (gd_v W4_50 W3_141 W3_142 W1_3 W3_143) rfl (by decide) (hdX2_endRound) (tl_0_1 h0) (by decide) (cl_2) rfl (Nat.le_of_ble_eq_true rfl) dX0_playOut_53 rfl (fun r8 M7 => ?_)
          refine J_pop C rfl dX0_playOut_56 ?_
          refine J_aload_n C dX0_playOut_57 rfl 0 rfl ?_
          refine J_dup C rfl dX0_playOut_58 ?_
          refine J_geti C fk0_4 W1_220 h0 dX0_playOut_59 ?_
          refine J_iconst C dX0_playOut_62 kci_1 ?_
          refine J_iadd C dX0_playOut_63 ?_
          refine J_puti C fk0_4 W1_220 fp0_4 h0 dX0_playOut_64 ?_
          refine J_mlet (fun M9 => ?_)
          refine J_iinc (lw := fun v10 => [(1, .int v10), (0, .ref (wa w o0))]) (X := x1 + 1) C dX0_playOut_67 (q := 1) rfl (by rw [kci_1]) (by decide) (fun _ => rfl) (fun v10 => ?_)
          refine J_goto (tgt := 12) C dX0_playOut_70 (by decide) ?_
          refine J_lv [1, 0] rfl ?_
          exact ih v10 M9
def s0_playOut (n : Nat) (o0 : Nat) (M : Mem) : Option Res := mlet (mset M o0 3 (0 : Int32)) (fun M1 => mlet (mset M1 o0 4 (0 : Int32)) (fun M2 => s0_playOut_12 n o0 n (0 : Int32) M2))
set_option maxRecDepth 100000 in
set_option maxHeartbeats 4000000 in
theorem b0_playOut {w : WE} {g : GT} (C : CT w g RX0 cX0_playOut rm0_playOut 2) (RT : RTv w g cX0_playOut) (n : Nat) (o0 : Nat) (h0 : typ o0 = 0) (M : Mem) : J w g (s0_playOut n o0 M) M 0 [(0, .ref (wa w o0))] [] := by
  rw [s0_playOut]
  refine J_aload_n C dX0_playOut_0 rfl 0 rfl ?_
  refine J_iconst C dX0_playOut_1 kci_0 ?_
  refine J_puti C fk0_3 W1_219 fp0_3 h0 dX0_playOut_2 ?_
  refine J_mlet (fun M1 => ?_)
  refine J_aload_n C dX0_playOut_5 rfl 0 rfl ?_
  refine J_iconst C dX0_playOut_6 kci_0 ?_
  refine J_puti C fk0_4 W1_220 fp0_4 h0 dX0_playOut_7 ?_
  refine J_mlet (fun M2 => ?_)
  refine J_iconst C dX0_playOut_10 kci_0 ?_
  refine J_istore_n (lv' := [(1, .int (0 : Int32)), (0, .ref (wa w o0))]) C dX0_playOut_11 rfl (by decide) rfl ?_
  refine J_lv [1, 0] rfl ?_
  exact b0_playOut_12 C RT n o0 h0 n (0 : Int32) M2
theorem c0_playOut (l : Launch) (w : WE) (n : Nat) (o0 : Nat) (h0 : typ o0 = 0) (M : Mem) : MV l w yX0_playOut (wz yX0_playOut cX0_playOut 2 none) rm0_playOut [.ref (wa w o0)] (s0_playOut n o0 M) M :=
  mv_of_J (own := RX0) rfl (by decide) rfl rfl (Nat.le_of_ble_eq_true rfl) (fun _ _ C RT => b0_playOut C RT n o0 h0 M)
theorem hdX0_playOut : yX0_playOut.cls = RX0 ∧ yOK yX0_playOut 0 := ⟨rfl, by decide, by decide, by decide⟩
abbrev rm2_winner : Room := { frames := 2, cells := 0, slots := 0, locals := 43 }
def s2_winner_5 (n : Nat) (o0 : Nat) : Nat → Int32 → Int32 → Mem → Option Res
  | 0, _, _, _ => none
  | f + 1, x1, x2, M => if (M o0 5) ≤ x2 then (cb (s2_countIn n o0 M) (fun r2 M1 => if r2 = (1 : Int32) then (some (x1, M1)) else (some ((-9 : Int32), M1)))) else (cb (s2_knowsIn o0 x2 M) (fun r4 M3 => if r4 = 0 then (ilet (x2 + 1) (fun v5 => s2_winner_5 n o0 f x1 v5 M3)) else (ilet (x2 + 1) (fun v6 => s2_winner_5 n o0 f x2 v6 M3))))
set_option maxRecDepth 100000 in
set_option maxHeartbeats 4000000 in
theorem b2_winner_5 {w : WE} {g : GT} (C : CT w g RX2 cX2_winner rm2_winner 3) (RT : RTi w g cX2_winner .int) (n : Nat) (o0 : Nat) (h0 : typ o0 = 2) : ∀ (f : Nat) (x1 : Int32) (x2 : Int32) (M : Mem), J w g (s2_winner_5 n o0 f x1 x2 M) M 5 [(0, .ref (wa w o0)), (1, .int x1), (2, .int x2)] [] := by
  intro f
  induction f with
  | zero =>
    intro x1 x2 M
    rw [s2_winner_5]
    exact J_none
  | succ f ih =>
    intro x1 x2 M
    rw [s2_winner_5]
    refine J_iload_n C dX2_winner_5 rfl 2 rfl ?_
    refine J_aload_n C dX2_winner_6 rfl 0 rfl ?_
    refine J_geti C fk2_5 W1_179 h0 dX2_winner_7 ?_
    refine J_icmp_ge (tgt := 29) C dX2_winner_10 (by decide) (fun _ => ?_) (fun _ => ?_)
    · refine J_aload_n C dX2_winner_29 rfl 0 rfl ?_
      refine J_cvi (As := []) C (c2_countIn (gl g) w n o0 h0 M) (gd_v W3_105 W3_106 W3_107 W1_3 W3_108) rfl (by decide) (hdX2_countIn) h0 (by decide) (cl_2) rfl (Nat.le_of_ble_eq_true rfl) dX2_winner_30 rfl (fun r2 M1 => ?_)
      refine J_iconst C dX2_winner_33 kci_1 ?_
      refine J_icmp_ne (tgt := 41) C dX2_winner_34 (by decide) (fun _ => ?_) (fun _ => ?_)
      · refine J_bipush C dX2_winner_41 kcb_m9 ?_
        exact J_iret C RT rfl dX2_winner_43
      · refine J_iload_n C dX2_winner_37 rfl 1 rfl ?_
        refine J_goto (tgt := 43) C dX2_winner_38 (by decide) ?_
        exact J_iret C RT rfl dX2_winner_43
    · refine J_aload_n C dX2_winner_13 rfl 0 rfl ?_
      refine J_iload_n C dX2_winner_14 rfl 2 rfl ?_
      refine J_cvi (As := [.int x2]) C (c2_knowsIn (gl g) w o0 h0 x2 M) (gd_v W3_109 W3_110 W3_111 W1_3 W3_112) rfl (by decide) (hdX2_knowsIn) h0 (by decide) (cl_2) rfl (Nat.le_of_ble_eq_true rfl) dX2_winner_15 rfl (fun r4 M3 => ?_)
      refine J_if_eq (tgt := 23) C dX2_winner_18 (by decide) (fun _ => ?_) (fun _ => ?_)
      · refine J_iinc (lw := fun v5 => [(2, .int v5), (0, .ref (wa w o0)), (1, .int x1)]) (X := x2 + 1) C dX2_winner_23 (q := 2) rfl (by rw [kci_1]) (by decide) (fun _ => rfl) (fun v5 => ?_)
        refine J_goto (tgt := 5) C dX2_winner_26 (by decide) ?_
        refine J_lv [1, 2, 0] rfl ?_
        exact ih x1 v5 M3
      · refine J_iload_n C dX2_winner_21 rfl 2 rfl ?_
        refine J_istore_n (lv' := [(1, .int x2), (0, .ref (wa w o0)), (2, .int x2)]) C dX2_winner_22 rfl (by decide) rfl ?_
        refine J_iinc (lw := fun v6 => [(2, .int v6), (1, .int x2), (0, .ref (wa w o0))]) (X := x2 + 1) C dX2_winner_23 (q := 2) rfl (by rw [kci_1]) (by decide) (fun _ => rfl) (fun v6 => ?_)
        refine J_goto (tgt := 5) C dX2_winner_26 (by decide) ?_
        refine J_lv [2, 1, 0] rfl ?_
        exact ih x2 v6 M3
def s2_winner (n : Nat) (o0 : Nat) (M : Mem) : Option Res := s2_winner_5 n o0 n (-9 : Int32) (0 : Int32) M
set_option maxRecDepth 100000 in
set_option maxHeartbeats 4000000 in
theorem b2_winner {w : WE} {g : GT} (C : CT w g RX2 cX2_winner rm2_winner 3) (RT : RTi w g cX2_winner .int) (n : Nat) (o0 : Nat) (h0 : typ o0 = 2) (M : Mem) : J w g (s2_winner n o0 M) M 0 [(0, .ref (wa w o0))] [] := by
  rw [s2_winner]
  refine J_bipush C dX2_winner_0 kcb_m9 ?_
  refine J_istore_n (lv' := [(1, .int (-9 : Int32)), (0, .ref (wa w o0))]) C dX2_winner_2 rfl (by decide) rfl ?_
  refine J_iconst C dX2_winner_3 kci_0 ?_
  refine J_istore_n (lv' := [(2, .int (0 : Int32)), (1, .int (-9 : Int32)), (0, .ref (wa w o0))]) C dX2_winner_4 rfl (by decide) rfl ?_
  refine J_lv [2, 1, 0] rfl ?_
  exact b2_winner_5 C RT n o0 h0 n (-9 : Int32) (0 : Int32) M
theorem c2_winner (l : Launch) (w : WE) (n : Nat) (o0 : Nat) (h0 : typ o0 = 2) (M : Mem) : MC l w yX2_winner (wz yX2_winner cX2_winner 3 (some .int)) rm2_winner [.ref (wa w o0)] (s2_winner n o0 M) M :=
  mc_of_J (own := RX2) rfl (by decide) rfl rfl (Nat.le_of_ble_eq_true rfl) (fun _ _ C RT => b2_winner C RT n o0 h0 M)
theorem hdX2_winner : yX2_winner.cls = RX2 ∧ yOK yX2_winner 0 := ⟨rfl, by decide, by decide, by decide⟩
abbrev rm0_partyAhead : Room := { frames := 5, cells := 0, slots := 0, locals := 114 }
def s0_partyAhead (n : Nat) (o0 : Nat) (x1 : Int32) (M : Mem) : Option Res := cb (s2_become n (link o0 1) (link o0 0) M) (fun _ M1 => cb (s0_playOut n o0 M1) (fun _ M3 => if x1 = 0 then (some (M3 o0 3, M3)) else (if x1 = (1 : Int32) then (some (M3 o0 4, M3)) else (cb (s2_winner n (link o0 1) M3) (fun r6 M5 => some (r6, M5))))))
set_option maxRecDepth 100000 in
set_option maxHeartbeats 4000000 in
theorem b0_partyAhead {w : WE} {g : GT} (C : CT w g RX0 cX0_partyAhead rm0_partyAhead 2) (RT : RTi w g cX0_partyAhead .int) (n : Nat) (o0 : Nat) (h0 : typ o0 = 0) (x1 : Int32) (M : Mem) : J w g (s0_partyAhead n o0 x1 M) M 0 [(0, .ref (wa w o0)), (1, .int x1)] [] := by
  rw [s0_partyAhead]
  refine J_aload_n C dX0_partyAhead_0 rfl 0 rfl ?_
  refine J_getr C fk0_1 W1_217 h0 dX0_partyAhead_1 ?_
  refine J_aload_n C dX0_partyAhead_4 rfl 0 rfl ?_
  refine J_getr C fk0_0 W1_215 h0 dX0_partyAhead_5 ?_
  refine J_cvv (As := [.ref (wa w (link o0 0))]) C (c2_become (gl g) w n (link o0 1) (tl_0_1 h0) (link o0 0) (tl_0_0 h0) M) (gd_v W2_170 W2_171 W2_172 W1_3 W2_173) rfl (by decide) (hdX2_become) (tl_0_1 h0) (by decide) (cl_2) rfl (Nat.le_of_ble_eq_true rfl) dX0_partyAhead_8 rfl (fun r2 M1 => ?_)
  refine J_aload_n C dX0_partyAhead_11 rfl 0 rfl ?_
  refine J_cvv (As := []) C (c0_playOut (gl g) w n o0 h0 M1) (gd_v W4_45 W4_47 WP_22 W1_2 W4_48) rfl (by decide) (hdX0_playOut) h0 (by decide) (cl_0) rfl (Nat.le_of_ble_eq_true rfl) dX0_partyAhead_12 rfl (fun r4 M3 => ?_)
  refine J_iload_n C dX0_partyAhead_15 rfl 1 rfl ?_
  refine J_if_ne (tgt := 24) C dX0_partyAhead_16 (by decide) (fun _ => ?_) (fun _ => ?_)
  · refine J_iload_n C dX0_partyAhead_24 rfl 1 rfl ?_
    refine J_iconst C dX0_partyAhead_25 kci_1 ?_
    refine J_icmp_ne (tgt := 36) C dX0_partyAhead_26 (by decide) (fun _ => ?_) (fun _ => ?_)
    · refine J_aload_n C dX0_partyAhead_36 rfl 0 rfl ?_
      refine J_getr C fk0_1 W1_217 h0 dX0_partyAhead_37 ?_
      refine J_cvi (As := []) C (c2_winner (gl g) w n (link o0 1) (tl_0_1 h0) M3) (gd_v W4_51 W4_52 W4_53 W1_3 W4_54) rfl (by decide) (hdX2_winner) (tl_0_1 h0) (by decide) (cl_2) rfl (Nat.le_of_ble_eq_true rfl) dX0_partyAhead_40 rfl (fun r6 M5 => ?_)
      exact J_iret C RT rfl dX0_partyAhead_43
    · refine J_aload_n C dX0_partyAhead_29 rfl 0 rfl ?_
      refine J_geti C fk0_4 W1_220 h0 dX0_partyAhead_30 ?_
      refine J_goto (tgt := 43) C dX0_partyAhead_33 (by decide) ?_
      exact J_iret C RT rfl dX0_partyAhead_43
  · refine J_aload_n C dX0_partyAhead_19 rfl 0 rfl ?_
    refine J_geti C fk0_3 W1_219 h0 dX0_partyAhead_20 ?_
    exact J_iret C RT rfl dX0_partyAhead_23
theorem c0_partyAhead (l : Launch) (w : WE) (n : Nat) (o0 : Nat) (h0 : typ o0 = 0) (x1 : Int32) (M : Mem) : MC l w yX0_partyAhead (wz yX0_partyAhead cX0_partyAhead 2 (some .int)) rm0_partyAhead [.ref (wa w o0), .int x1] (s0_partyAhead n o0 x1 M) M :=
  mc_of_J (own := RX0) rfl (by decide) rfl rfl (Nat.le_of_ble_eq_true rfl) (fun _ _ C RT => b0_partyAhead C RT n o0 h0 x1 M)
theorem hdX0_partyAhead : yX0_partyAhead.cls = RX0 ∧ yOK yX0_partyAhead 1 := ⟨rfl, by decide, by decide, by decide⟩
abbrev rm0_timesWinner : Room := { frames := 5, cells := 0, slots := 0, locals := 114 }
def s0_timesWinner_6 (n : Nat) (o0 : Nat) (x1 : Int32) (x2 : Int32) (x3 : Int32) : Nat → Int32 → Int32 → Mem → Option Res
  | 0, _, _, _ => none
  | f + 1, x4, x5, M => if x2 ≤ x5 then (some (x4, M)) else (cb (s2_become n (link o0 1) (link o0 0) M) (fun _ M1 => mlet (mset M1 (link (link o0 1) 1) 2 (x3 + x5)) (fun M3 => cb (s0_playOut n o0 M3) (fun _ M4 => cb (s2_winner n (link o0 1) M4) (fun r7 M6 => if r7 = x1 then (ilet (x4 + 1) (fun v9 => ilet (x5 + 1) (fun v10 => s0_timesWinner_6 n o0 x1 x2 x3 f v9 v10 M6))) else (ilet (x5 + 1) (fun v8 => s0_timesWinner_6 n o0 x1 x2 x3 f x4 v8 M6)))))))
set_option maxRecDepth 100000 in
set_option maxHeartbeats 4000000 in
theorem b0_timesWinner_6 {w : WE} {g : GT} (C : CT w g RX0 cX0_timesWinner rm0_timesWinner 6) (RT : RTi w g cX0_timesWinner .int) (n : Nat) (o0 : Nat) (h0 : typ o0 = 0) (x1 : Int32) (x2 : Int32) (x3 : Int32) : ∀ (f : Nat) (x4 : Int32) (x5 : Int32) (M : Mem), J w g (s0_timesWinner_6 n o0 x1 x2 x3 f x4 x5 M) M 6 [(0, .ref (wa w o0)), (1, .int x1), (2, .int x2), (3, .int x3), (4, .int x4), (5, .int x5)] [] := by
  intro f
  induction f with
  | zero =>
    intro x4 x5 M
    rw [s0_timesWinner_6]
    exact J_none
  | succ f ih =>
    intro x4 x5 M
    rw [s0_timesWinner_6]
    refine J_iload C dX0_timesWinner_6 5 rfl ?_
    refine J_iload_n C dX0_timesWinner_8 rfl 2 rfl ?_
    refine J_icmp_ge (tgt := 61) C dX0_timesWinner_9 (by decide) (fun _ => ?_) (fun _ => ?_)
    · refine J_iload C dX0_timesWinner_61 4 rfl ?_
      exact J_iret C RT rfl dX0_timesWinner_63
    · refine J_aload_n C dX0_timesWinner_12 rfl 0 rfl ?_
      refine J_getr C fk0_1 W1_217 h0 dX0_timesWinner_13 ?_
      refine J_aload_n C dX0_timesWinner_16 rfl 0 rfl ?_
      refine J_getr C fk0_0 W1_215 h0 dX0_timesWinner_17 ?_
      refine J_cvv (As := [.ref (wa w (link o0 0))]) C (c2_become (gl g) w n (link o0 1) (tl_0_1 h0) (link o0 0) (tl_0_0 h0) M) (gd_v W2_170 W2_171 W2_172 W1_3 W2_173) rfl (by decide) (hdX2_become) (tl_0_1 h0) (by decide) (cl_2) rfl (Nat.le_of_ble_eq_true rfl) dX0_timesWinner_20 rfl (fun r2 M1 => ?_)
      refine J_aload_n C dX0_timesWinner_23 rfl 0 rfl ?_
      refine J_getr C fk0_1 W1_217 h0 dX0_timesWinner_24 ?_
      refine J_getr C fk2_1 W1_169 (tl_0_1 h0) dX0_timesWinner_27 ?_
      refine J_iload_n C dX0_timesWinner_30 rfl 3 rfl ?_
      refine J_iload C dX0_timesWinner_31 5 rfl ?_
      refine J_iadd C dX0_timesWinner_33 ?_
      refine J_puti C fk3_2 W1_82 fp3_2 (tl_2_1 (tl_0_1 h0)) dX0_timesWinner_34 ?_
      refine J_mlet (fun M3 => ?_)
      refine J_aload_n C dX0_timesWinner_37 rfl 0 rfl ?_
      refine J_cvv (As := []) C (c0_playOut (gl g) w n o0 h0 M3) (gd_v W4_45 W4_47 WP_22 W1_2 W4_48) rfl (by decide) (hdX0_playOut) h0 (by decide) (cl_0) rfl (Nat.le_of_ble_eq_true rfl) dX0_timesWinner_38 rfl (fun r5 M4 => ?_)
      refine J_aload_n C dX0_timesWinner_41 rfl 0 rfl ?_
      refine J_getr C fk0_1 W1_217 h0 dX0_timesWinner_42 ?_
      refine J_cvi (As := []) C (c2_winner (gl g) w n (link o0 1) (tl_0_1 h0) M4) (gd_v W4_51 W4_52 W4_53 W1_3 W4_54) rfl (by decide) (hdX2_winner) (tl_0_1 h0) (by decide) (cl_2) rfl (Nat.le_of_ble_eq_true rfl) dX0_timesWinner_45 rfl (fun r7 M6 => ?_)
      refine J_iload_n C dX0_timesWinner_48 rfl 1 rfl ?_
      refine J_icmp_ne (tgt := 55) C dX0_timesWinner_49 (by decide) (fun _ => ?_) (fun _ => ?_)
      · refine J_iinc (lw := fun v8 => [(5, .int v8), (0, .ref (wa w o0)), (1, .int x1), (2, .int x2), (3, .int x3), (4, .int x4)]) (X := x5 + 1) C dX0_timesWinner_55 (q := 5) rfl (by rw [kci_1]) (by decide) (fun _ => rfl) (fun v8 => ?_)
        refine J_goto (tgt := 6) C dX0_timesWinner_58 (by decide) ?_
        refine J_lv [1, 2, 3, 4, 5, 0] rfl ?_
        exact ih x4 v8 M6
      · refine J_iinc (lw := fun v9 => [(4, .int v9), (0, .ref (wa w o0)), (1, .int x1), (2, .int x2), (3, .int x3), (5, .int x5)]) (X := x4 + 1) C dX0_timesWinner_52 (q := 4) rfl (by rw [kci_1]) (by decide) (fun _ => rfl) (fun v9 => ?_)
        refine J_iinc (lw := fun v10 => [(5, .int v10), (4, .int v9), (0, .ref (wa w o0)), (1, .int x1), (2, .int x2), (3, .int x3)]) (X := x5 + 1) C dX0_timesWinner_55 (q := 5) rfl (by rw [kci_1]) (by decide) (fun _ => rfl) (fun v10 => ?_)
        refine J_goto (tgt := 6) C dX0_timesWinner_58 (by decide) ?_
        refine J_lv [2, 3, 4, 5, 1, 0] rfl ?_
        exact ih v9 v10 M6
def s0_timesWinner (n : Nat) (o0 : Nat) (x1 : Int32) (x2 : Int32) (x3 : Int32) (M : Mem) : Option Res := s0_timesWinner_6 n o0 x1 x2 x3 n (0 : Int32) (0 : Int32) M
set_option maxRecDepth 100000 in
set_option maxHeartbeats 4000000 in
theorem b0_timesWinner {w : WE} {g : GT} (C : CT w g RX0 cX0_timesWinner rm0_timesWinner 6) (RT : RTi w g cX0_timesWinner .int) (n : Nat) (o0 : Nat) (h0 : typ o0 = 0) (x1 : Int32) (x2 : Int32) (x3 : Int32) (M : Mem) : J w g (s0_timesWinner n o0 x1 x2 x3 M) M 0 [(0, .ref (wa w o0)), (1, .int x1), (2, .int x2), (3, .int x3)] [] := by
  rw [s0_timesWinner]
  refine J_iconst C dX0_timesWinner_0 kci_0 ?_
  refine J_istore (lv' := [(4, .int (0 : Int32)), (0, .ref (wa w o0)), (1, .int x1), (2, .int x2), (3, .int x3)]) C dX0_timesWinner_1 (by decide) rfl ?_
  refine J_iconst C dX0_timesWinner_3 kci_0 ?_
  refine J_istore (lv' := [(5, .int (0 : Int32)), (4, .int (0 : Int32)), (0, .ref (wa w o0)), (1, .int x1), (2, .int x2), (3, .int x3)]) C dX0_timesWinner_4 (by decide) rfl ?_
  refine J_lv [2, 3, 4, 5, 1, 0] rfl ?_
  exact b0_timesWinner_6 C RT n o0 h0 x1 x2 x3 n (0 : Int32) (0 : Int32) M
theorem c0_timesWinner (l : Launch) (w : WE) (n : Nat) (o0 : Nat) (h0 : typ o0 = 0) (x1 : Int32) (x2 : Int32) (x3 : Int32) (M : Mem) : MC l w yX0_timesWinner (wz yX0_timesWinner cX0_timesWinner 6 (some .int)) rm0_timesWinner [.ref (wa w o0), .int x1, .int x2, .int x3] (s0_timesWinner n o0 x1 x2 x3 M) M :=
  mc_of_J (own := RX0) rfl (by decide) rfl rfl (Nat.le_of_ble_eq_true rfl) (fun _ _ C RT => b0_timesWinner C RT n o0 h0 x1 x2 x3 M)
theorem hdX0_timesWinner : yX0_timesWinner.cls = RX0 ∧ yOK yX0_timesWinner 3 := ⟨rfl, by decide, by decide, by decide⟩
abbrev rm0_bitOf : Room := { frames := 0, cells := 0, slots := 0, locals := 0 }
def s0_bitOf (x0 : Int32) (M : Mem) : Option Res := if x0 < 0 then (some ((0 : Int32), M)) else (some ((1 : Int32) <<< (x0 &&& 31), M))
set_option maxRecDepth 100000 in
set_option maxHeartbeats 4000000 in
theorem b0_bitOf {w : WE} {g : GT} (C : CT w g RX0 cX0_bitOf rm0_bitOf 1) (RT : RTi w g cX0_bitOf .int) (x0 : Int32) (M : Mem) : J w g (s0_bitOf x0 M) M 0 [(0, .int x0)] [] := by
  rw [s0_bitOf]
  refine J_iload_n C dX0_bitOf_0 rfl 0 rfl ?_
  refine J_if_lt (tgt := 10) C dX0_bitOf_1 (by decide) (fun _ => ?_) (fun _ => ?_)
  · refine J_iconst C dX0_bitOf_10 kci_0 ?_
    exact J_iret C RT rfl dX0_bitOf_11
  · refine J_iconst C dX0_bitOf_4 kci_1 ?_
    refine J_iload_n C dX0_bitOf_5 rfl 0 rfl ?_
    refine J_ishl C dX0_bitOf_6 ?_
    refine J_goto (tgt := 11) C dX0_bitOf_7 (by decide) ?_
    exact J_iret C RT rfl dX0_bitOf_11
theorem c0_bitOf (l : Launch) (w : WE) (x0 : Int32) (M : Mem) : MC l w yX0_bitOf (wz yX0_bitOf cX0_bitOf 1 (some .int)) rm0_bitOf [.int x0] (s0_bitOf x0 M) M :=
  mc_of_J (own := RX0) rfl (by decide) rfl rfl (Nat.le_of_ble_eq_true rfl) (fun _ _ C RT => b0_bitOf C RT x0 M)
theorem hdX0_bitOf : yX0_bitOf.cls = RX0 ∧ yOK yX0_bitOf 1 := ⟨rfl, by decide, by decide, by decide⟩
abbrev rmz_bitCount : Room := { frames := 0, cells := 0, slots := 0, locals := 0 }
def sz_bitCount (x0 : Int32) (M : Mem) : Option Res := ilet (x0 - (((x0.toUInt32 >>> ((1 : Int32).toUInt32 &&& Int32.toUInt32 31)).toInt32) &&& (1431655765 : Int32))) (fun v1 => ilet ((v1 &&& (858993459 : Int32)) + (((v1.toUInt32 >>> ((2 : Int32).toUInt32 &&& Int32.toUInt32 31)).toInt32) &&& (858993459 : Int32))) (fun v2 => ilet ((v2 + ((v2.toUInt32 >>> ((4 : Int32).toUInt32 &&& Int32.toUInt32 31)).toInt32)) &&& (252645135 : Int32)) (fun v3 => ilet (v3 + ((v3.toUInt32 >>> ((8 : Int32).toUInt32 &&& Int32.toUInt32 31)).toInt32)) (fun v4 => ilet (v4 + ((v4.toUInt32 >>> ((16 : Int32).toUInt32 &&& Int32.toUInt32 31)).toInt32)) (fun v5 => some (v5 &&& (63 : Int32), M))))))
set_option maxRecDepth 100000 in
set_option maxHeartbeats 4000000 in
theorem bz_bitCount {w : WE} {g : GT} (C : CT w g RJ6 cJ6_bitCount_0f7a4 rmz_bitCount 1) (RT : RTi w g cJ6_bitCount_0f7a4 .int) (x0 : Int32) (M : Mem) : J w g (sz_bitCount x0 M) M 0 [(0, .int x0)] [] := by
  rw [sz_bitCount]
  refine J_iload_n C dJ6_bitCount_0f7a4_0 rfl 0 rfl ?_
  refine J_iload_n C dJ6_bitCount_0f7a4_1 rfl 0 rfl ?_
  refine J_iconst C dJ6_bitCount_0f7a4_2 kci_1 ?_
  refine J_iushr C dJ6_bitCount_0f7a4_3 ?_
  refine J_ldcw C W4_81 dJ6_bitCount_0f7a4_4 ?_
  refine J_iand C dJ6_bitCount_0f7a4_7 ?_
  refine J_isub C dJ6_bitCount_0f7a4_8 ?_
  refine J_ilet (fun v1 => ?_)
  refine J_istore_n (lv' := [(0, .int v1)]) C dJ6_bitCount_0f7a4_9 rfl (by decide) rfl ?_
  refine J_iload_n C dJ6_bitCount_0f7a4_10 rfl 0 rfl ?_
  refine J_ldcw C W4_82 dJ6_bitCount_0f7a4_11 ?_
  refine J_iand C dJ6_bitCount_0f7a4_14 ?_
  refine J_iload_n C dJ6_bitCount_0f7a4_15 rfl 0 rfl ?_
  refine J_iconst C dJ6_bitCount_0f7a4_16 kci_2 ?_
  refine J_iushr C dJ6_bitCount_0f7a4_17 ?_
  refine J_ldcw C W4_82 dJ6_bitCount_0f7a4_18 ?_
  refine J_iand C dJ6_bitCount_0f7a4_21 ?_
  refine J_iadd C dJ6_bitCount_0f7a4_22 ?_
  refine J_ilet (fun v2 => ?_)
  refine J_istore_n (lv' := [(0, .int v2)]) C dJ6_bitCount_0f7a4_23 rfl (by decide) rfl ?_
  refine J_iload_n C dJ6_bitCount_0f7a4_24 rfl 0 rfl ?_
  refine J_iload_n C dJ6_bitCount_0f7a4_25 rfl 0 rfl ?_
  refine J_iconst C dJ6_bitCount_0f7a4_26 kci_4 ?_
  refine J_iushr C dJ6_bitCount_0f7a4_27 ?_
  refine J_iadd C dJ6_bitCount_0f7a4_28 ?_
  refine J_ldcw C W4_83 dJ6_bitCount_0f7a4_29 ?_
  refine J_iand C dJ6_bitCount_0f7a4_32 ?_
  refine J_ilet (fun v3 => ?_)
  refine J_istore_n (lv' := [(0, .int v3)]) C dJ6_bitCount_0f7a4_33 rfl (by decide) rfl ?_
  refine J_iload_n C dJ6_bitCount_0f7a4_34 rfl 0 rfl ?_
  refine J_iload_n C dJ6_bitCount_0f7a4_35 rfl 0 rfl ?_
  refine J_bipush C dJ6_bitCount_0f7a4_36 kcb_8 ?_
  refine J_iushr C dJ6_bitCount_0f7a4_38 ?_
  refine J_iadd C dJ6_bitCount_0f7a4_39 ?_
  refine J_ilet (fun v4 => ?_)
  refine J_istore_n (lv' := [(0, .int v4)]) C dJ6_bitCount_0f7a4_40 rfl (by decide) rfl ?_
  refine J_iload_n C dJ6_bitCount_0f7a4_41 rfl 0 rfl ?_
  refine J_iload_n C dJ6_bitCount_0f7a4_42 rfl 0 rfl ?_
  refine J_bipush C dJ6_bitCount_0f7a4_43 kcb_16 ?_
  refine J_iushr C dJ6_bitCount_0f7a4_45 ?_
  refine J_iadd C dJ6_bitCount_0f7a4_46 ?_
  refine J_ilet (fun v5 => ?_)
  refine J_istore_n (lv' := [(0, .int v5)]) C dJ6_bitCount_0f7a4_47 rfl (by decide) rfl ?_
  refine J_iload_n C dJ6_bitCount_0f7a4_48 rfl 0 rfl ?_
  refine J_bipush C dJ6_bitCount_0f7a4_49 kcb_63 ?_
  refine J_iand C dJ6_bitCount_0f7a4_51 ?_
  exact J_iret C RT rfl dJ6_bitCount_0f7a4_52
theorem cz_bitCount (l : Launch) (w : WE) (x0 : Int32) (M : Mem) : MC l w yJ6_bitCount_0f7a4 (wz yJ6_bitCount_0f7a4 cJ6_bitCount_0f7a4 1 (some .int)) rmz_bitCount [.int x0] (sz_bitCount x0 M) M :=
  mc_of_J (own := RJ6) rfl (by decide) rfl rfl (Nat.le_of_ble_eq_true rfl) (fun _ _ C RT => bz_bitCount C RT x0 M)
theorem hdJ6_bitCount_0f7a4 : yJ6_bitCount_0f7a4.cls = RJ6 ∧ yOK yJ6_bitCount_0f7a4 1 := ⟨rfl, by decide, by decide, by decide⟩
