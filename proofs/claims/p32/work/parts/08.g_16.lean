abbrev rm6_readStatement : Room := { frames := 4, cells := 0, slots := 0, locals := 85 }
def s6_readStatement_15 (n : Nat) (o0 : Nat) (o1 : Nat) : Nat → Int32 → Mem → Option Res
  | 0, _, _ => none
  | f + 1, x2, M => cb (sS_length o1 M) (fun r5 M4 => if r5 ≤ x2 then (mlet (mset M4 o0 5 ((M4 o0 5) + (1 : Int32))) (fun M6 => cb (sS_isEmpty o1 M6) (fun r8 M7 => if r8 = 0 then (some ((1 : Int32), M7)) else (some ((0 : Int32), M7))))) else (cb (sS_charAt o1 x2 M4) (fun r10 M9 => cb (s6_readPart n o0 r10 M9) (fun r12 M11 => if r12 = 0 then (some ((0 : Int32), M11)) else (ilet (x2 + 1) (fun v13 => s6_readStatement_15 n o0 o1 f v13 M11))))))
set_option maxRecDepth 100000 in
set_option maxHeartbeats 4000000 in
theorem b6_readStatement_15 {w : WE} {g : GT} (C : CT w g RX6 cX6_readStatement rm6_readStatement 3) (RT : RTi w g cX6_readStatement .boolean) (n : Nat) (o0 : Nat) (h0 : typ o0 = 6) (o1 : Nat) (h1 : o1 < 6) : ∀ (f : Nat) (x2 : Int32) (M : Mem), J w g (s6_readStatement_15 n o0 o1 f x2 M) M 15 [(0, .ref (wa w o0)), (1, .ref (wk w o1)), (2, .int x2)] [] := by
  intro f
  induction f with
  | zero =>
    intro x2 M
    rw [s6_readStatement_15]
    exact J_none
  | succ f ih =>
    intro x2 M
    rw [s6_readStatement_15]
    refine J_iload_n C dX6_readStatement_15 rfl 2 rfl ?_
    refine J_aload_n C dX6_readStatement_16 rfl 1 rfl ?_
    refine J_cSi (As := []) C (cS_length (gl g) w o1 h1 M) (gd_v W2_107 W2_108 W2_109 W1_11 W2_110) rfl (by decide) hdJ0_length_8abf5 h1 rfl (Nat.le_of_ble_eq_true rfl) dX6_readStatement_17 rfl (fun r5 M4 => ?_)
    refine J_icmp_ge (tgt := 43) C dX6_readStatement_20 (by decide) (fun _ => ?_) (fun _ => ?_)
    · refine J_aload_n C dX6_readStatement_43 rfl 0 rfl ?_
      refine J_dup C rfl dX6_readStatement_44 ?_
      refine J_geti C fk6_5 W2_21 h0 dX6_readStatement_45 ?_
      refine J_iconst C dX6_readStatement_48 kci_1 ?_
      refine J_iadd C dX6_readStatement_49 ?_
      refine J_puti C fk6_5 W2_21 fp6_5 h0 dX6_readStatement_50 ?_
      refine J_mlet (fun M6 => ?_)
      refine J_aload_n C dX6_readStatement_53 rfl 1 rfl ?_
      refine J_cSi (As := []) C (cS_isEmpty (gl g) w o1 h1 M6) (gd_v W2_166 W2_167 W2_168 W1_11 W2_169) rfl (by decide) hdJ0_isEmpty_aae02 h1 rfl (Nat.le_of_ble_eq_true rfl) dX6_readStatement_54 rfl (fun r8 M7 => ?_)
      refine J_if_ne (tgt := 64) C dX6_readStatement_57 (by decide) (fun _ => ?_) (fun _ => ?_)
      · refine J_iconst C dX6_readStatement_64 kci_0 ?_
        exact J_iret C RT (by decide) dX6_readStatement_65
      · refine J_iconst C dX6_readStatement_60 kci_1 ?_
        refine J_goto (tgt := 65) C dX6_readStatement_61 (by decide) ?_
        exact J_iret C RT (by decide) dX6_readStatement_65
    · refine J_aload_n C dX6_readStatement_23 rfl 0 rfl ?_
      refine J_aload_n C dX6_readStatement_24 rfl 1 rfl ?_
      refine J_iload_n C dX6_readStatement_25 rfl 2 rfl ?_
      refine J_cSi (As := [.int x2]) C (cS_charAt (gl g) w o1 h1 x2 M4) (gd_v W2_117 W2_118 W2_119 W1_11 W2_120) rfl (by decide) hdJ0_charAt_5068e h1 rfl (Nat.le_of_ble_eq_true rfl) dX6_readStatement_26 rfl (fun r10 M9 => ?_)
      refine J_cvi (As := [.int r10]) C (c6_readPart (gl g) w n o0 h0 r10 M9) (gd_v W2_155 W2_157 WP_4 W1_9 W2_158) rfl (by decide) (hdX6_readPart) h0 (by decide) (cl_6) rfl (Nat.le_of_ble_eq_true rfl) dX6_readStatement_29 rfl (fun r12 M11 => ?_)
      refine J_if_ne (tgt := 37) C dX6_readStatement_32 (by decide) (fun _ => ?_) (fun _ => ?_)
      · refine J_iinc (lw := fun v13 => [(2, .int v13), (0, .ref (wa w o0)), (1, .ref (wk w o1))]) (X := x2 + 1) C dX6_readStatement_37 (q := 2) rfl (by rw [kci_1]) (by decide) (fun _ => rfl) (fun v13 => ?_)
        refine J_goto (tgt := 15) C dX6_readStatement_40 (by decide) ?_
        refine J_lv [1, 2, 0] rfl ?_
        exact ih v13 M11
      · refine J_iconst C dX6_readStatement_35 kci_0 ?_
        exact J_iret C RT (by decide) dX6_readStatement_36
def s6_readStatement (n : Nat) (o0 : Nat) (M : Mem) : Option Res := cb (s6_signAhead o0 M) (fun r2 M1 => mlet (mset M1 o0 3 (0 : Int32)) (fun M3 => s6_readStatement_15 n o0 (shp r2) n (0 : Int32) M3))
set_option maxRecDepth 100000 in
set_option maxHeartbeats 4000000 in
theorem b6_readStatement {w : WE} {g : GT} (C : CT w g RX6 cX6_readStatement rm6_readStatement 3) (RT : RTi w g cX6_readStatement .boolean) (n : Nat) (o0 : Nat) (h0 : typ o0 = 6) (M : Mem) : J w g (s6_readStatement n o0 M) M 0 [(0, .ref (wa w o0))] [] := by
  rw [s6_readStatement]
  refine J_aload_n C dX6_readStatement_0 rfl 0 rfl ?_
  refine J_cvi (As := []) C (c6_signAhead (gl g) w o0 h0 M) (gd_v W2_94 W2_96 WP_3 W1_9 W2_97) rfl (by decide) (hdX6_signAhead) h0 (by decide) (cl_6) rfl (Nat.le_of_ble_eq_true rfl) dX6_readStatement_1 rfl (fun r2 M1 => ?_)
  refine J_shape C (gd_s W2_98 W2_99 W1_9 W2_100) (by decide) (Nat.le_of_ble_eq_true rfl) dX6_readStatement_4 ?_
  refine J_astore_n (lv' := [(1, .ref (wk w (shp r2))), (0, .ref (wa w o0))]) C dX6_readStatement_7 rfl (by decide) rfl ?_
  refine J_aload_n C dX6_readStatement_8 rfl 1 rfl ?_
  refine J_iconst C dX6_readStatement_9 kci_0 ?_
  refine J_puti C fk6_3 W2_18 fp6_3 h0 dX6_readStatement_10 ?_
  refine J_mlet (fun M3 => ?_)
  refine J_iconst C dX6_readStatement_13 kci_0 ?_
  refine J_istore_n (lv' := [(2, .int (0 : Int32)), (1, .ref (wk w (shp r2))), (0, .ref (wa w o0))]) C dX6_readStatement_14 rfl (by decide) rfl ?_
  refine J_lv [2, 1, 0] rfl ?_
  exact b6_readStatement_15 C RT n o0 h0 (shp r2) (shp_lt r2) n (0 : Int32) M3
theorem c6_readStatement (l : Launch) (w : WE) (n : Nat) (o0 : Nat) (h0 : typ o0 = 6) (M : Mem) : MC l w yX6_readStatement (wz yX6_readStatement cX6_readStatement 3 (some .boolean)) rm6_readStatement [.ref (wa w o0)] (s6_readStatement n o0 M) M :=
  mc_of_J (own := RX6) rfl (by decide) rfl rfl (Nat.le_of_ble_eq_true rfl) (fun _ _ C RT => b6_readStatement C RT n o0 h0 M)
theorem hdX6_readStatement : yX6_readStatement.cls = RX6 ∧ yOK yX6_readStatement 0 := ⟨rfl, by decide, by decide, by decide⟩
abbrev rm6_firstMisfit : Room := { frames := 5, cells := 0, slots := 0, locals := 107 }
def s6_firstMisfit_27 (n : Nat) (k6 : Int32 → Mem → Option Res) (o0 : Nat) (x1 : Int32) (M : Mem) : Option Res := cb (s6_readStatement n o0 M) (fun r4 M3 => if r4 = 0 then (some (M3 o0 2, M3)) else (ilet (x1 + 1) (fun v5 => k6 v5 M3)))
set_option maxRecDepth 100000 in
set_option maxHeartbeats 4000000 in
theorem b6_firstMisfit_27 {w : WE} {g : GT} (C : CT w g RX6 cX6_firstMisfit rm6_firstMisfit 2) (RT : RTi w g cX6_firstMisfit .int) (n : Nat) (k6 : Int32 → Mem → Option Res) (o0 : Nat) (h0 : typ o0 = 6) (x1 : Int32) (hk6 : ∀ (z1 : Int32) (M : Mem), J w g (k6 z1 M) M 6 [(0, .ref (wa w o0)), (1, .int z1)] []) (M : Mem) : J w g (s6_firstMisfit_27 n k6 o0 x1 M) M 27 [(0, .ref (wa w o0)), (1, .int x1)] [] := by
  rw [s6_firstMisfit_27]
  refine J_aload_n C dX6_firstMisfit_27 rfl 0 rfl ?_
  refine J_cvi (As := []) C (c6_readStatement (gl g) w n o0 h0 M) (gd_v W2_90 W2_92 WP_2 W1_9 W2_93) rfl (by decide) (hdX6_readStatement) h0 (by decide) (cl_6) rfl (Nat.le_of_ble_eq_true rfl) dX6_firstMisfit_28 rfl (fun r4 M3 => ?_)
  refine J_if_ne (tgt := 39) C dX6_firstMisfit_31 (by decide) (fun _ => ?_) (fun _ => ?_)
  · refine J_iinc (lw := fun v5 => [(1, .int v5), (0, .ref (wa w o0))]) (X := x1 + 1) C dX6_firstMisfit_39 (q := 1) rfl (by rw [kci_1]) (by decide) (fun _ => rfl) (fun v5 => ?_)
    refine J_goto (tgt := 6) C dX6_firstMisfit_42 (by decide) ?_
    refine J_lv [1, 0] rfl ?_
    exact hk6 v5 M3
  · refine J_aload_n C dX6_firstMisfit_34 rfl 0 rfl ?_
    refine J_geti C fk6_2 W2_17 h0 dX6_firstMisfit_35 ?_
    exact J_iret C RT rfl dX6_firstMisfit_38
def s6_firstMisfit_6 (n : Nat) (o0 : Nat) : Nat → Int32 → Mem → Option Res
  | 0, _, _ => none
  | f + 1, x1, M => if (64 : Int32) ≤ x1 then (some ((-1 : Int32), M)) else (if x1 = 0 then (s6_firstMisfit_27 n (s6_firstMisfit_6 n o0 f) o0 x1 M) else (if (M o0 4) ≤ (M o0 2) then (some ((-1 : Int32), M)) else (s6_firstMisfit_27 n (s6_firstMisfit_6 n o0 f) o0 x1 M)))
set_option maxRecDepth 100000 in
set_option maxHeartbeats 4000000 in
theorem b6_firstMisfit_6 {w : WE} {g : GT} (C : CT w g RX6 cX6_firstMisfit rm6_firstMisfit 2) (RT : RTi w g cX6_firstMisfit .int) (n : Nat) (o0 : Nat) (h0 : typ o0 = 6) : ∀ (f : Nat) (x1 : Int32) (M : Mem), J w g (s6_firstMisfit_6 n o0 f x1 M) M 6 [(0, .ref (wa w o0)), (1, .int x1)] [] := by
  intro f
  induction f with
  | zero =>
    intro x1 M
    rw [s6_firstMisfit_6]
    exact J_none
  | succ f ih =>
    intro x1 M
    rw [s6_firstMisfit_6]
    refine J_iload_n C dX6_firstMisfit_6 rfl 1 rfl ?_
    refine J_bipush C dX6_firstMisfit_7 kcb_64 ?_
    refine J_icmp_ge (tgt := 45) C dX6_firstMisfit_9 (by decide) (fun _ => ?_) (fun _ => ?_)
    · refine J_iconst C dX6_firstMisfit_45 kci_m1 ?_
      exact J_iret C RT rfl dX6_firstMisfit_46
    · refine J_iload_n C dX6_firstMisfit_12 rfl 1 rfl ?_
      refine J_if_eq (tgt := 27) C dX6_firstMisfit_13 (by decide) (fun _ => ?_) (fun _ => ?_)
      · exact b6_firstMisfit_27 C RT n (s6_firstMisfit_6 n o0 f) o0 h0 x1 ih M
      · refine J_aload_n C dX6_firstMisfit_16 rfl 0 rfl ?_
        refine J_geti C fk6_2 W2_17 h0 dX6_firstMisfit_17 ?_
        refine J_aload_n C dX6_firstMisfit_20 rfl 0 rfl ?_
        refine J_geti C fk6_4 W2_19 h0 dX6_firstMisfit_21 ?_
        refine J_icmp_ge (tgt := 45) C dX6_firstMisfit_24 (by decide) (fun _ => ?_) (fun _ => ?_)
        · refine J_iconst C dX6_firstMisfit_45 kci_m1 ?_
          exact J_iret C RT rfl dX6_firstMisfit_46
        · exact b6_firstMisfit_27 C RT n (s6_firstMisfit_6 n o0 f) o0 h0 x1 ih M
def s6_firstMisfit (n : Nat) (o0 : Nat) (M : Mem) : Option Res := cb (s6_begin o0 M) (fun _ M1 => s6_firstMisfit_6 n o0 n (0 : Int32) M1)
set_option maxRecDepth 100000 in
set_option maxHeartbeats 4000000 in
theorem b6_firstMisfit {w : WE} {g : GT} (C : CT w g RX6 cX6_firstMisfit rm6_firstMisfit 2) (RT : RTi w g cX6_firstMisfit .int) (n : Nat) (o0 : Nat) (h0 : typ o0 = 6) (M : Mem) : J w g (s6_firstMisfit n o0 M) M 0 [(0, .ref (wa w o0))] [] := by
  rw [s6_firstMisfit]
  refine J_aload_n C dX6_firstMisfit_0 rfl 0 rfl ?_
  refine J_cvv (As := []) C (c6_begin (gl g) w o0 h0 M) (gd_v W2_86 W2_88 WP_1 W1_9 W2_89) rfl (by decide) (hdX6_begin) h0 (by decide) (cl_6) rfl (Nat.le_of_ble_eq_true rfl) dX6_firstMisfit_1 rfl (fun r2 M1 => ?_)
  refine J_iconst C dX6_firstMisfit_4 kci_0 ?_
  refine J_istore_n (lv' := [(1, .int (0 : Int32)), (0, .ref (wa w o0))]) C dX6_firstMisfit_5 rfl (by decide) rfl ?_
  refine J_lv [1, 0] rfl ?_
  exact b6_firstMisfit_6 C RT n o0 h0 n (0 : Int32) M1
theorem c6_firstMisfit (l : Launch) (w : WE) (n : Nat) (o0 : Nat) (h0 : typ o0 = 6) (M : Mem) : MC l w yX6_firstMisfit (wz yX6_firstMisfit cX6_firstMisfit 2 (some .int)) rm6_firstMisfit [.ref (wa w o0)] (s6_firstMisfit n o0 M) M :=
  mc_of_J (own := RX6) rfl (by decide) rfl rfl (Nat.le_of_ble_eq_true rfl) (fun _ _ C RT => b6_firstMisfit C RT n o0 h0 M)
theorem hdX6_firstMisfit : yX6_firstMisfit.cls = RX6 ∧ yOK yX6_firstMisfit 0 := ⟨rfl, by decide, by decide, by decide⟩
abbrev rm6_firstImpossible : Room := { frames := 5, cells := 0, slots := 0, locals := 107 }
def s6_firstImpossible_6 (n : Nat) (o0 : Nat) (o1 : Nat) : Nat → Int32 → Mem → Option Res
  | 0, _, _ => none
  | f + 1, x2, M => if (64 : Int32) ≤ x2 then (some ((-1 : Int32), M)) else (if (M o0 4) ≤ (M o0 2) then (some ((-1 : Int32), M)) else (ilet (M o0 2) (fun v3 => cb (s6_signAhead o0 M) (fun r5 M4 => cb (s6_readStatement n o0 M4) (fun r7 M6 => if r7 = 0 then (some (v3, M6)) else (cb (s6_comesTrue n o0 r5 o1 M6) (fun r9 M8 => if r9 = 0 then (some (v3, M8)) else (ilet (x2 + 1) (fun v10 => s6_firstImpossible_6 n o0 o1 f v10 M8)))))))))
set_option maxRecDepth 100000 in
set_option maxHeartbeats 4000000 in
theorem b6_firstImpossible_6 {w : WE} {g : GT} (C : CT w g RX6 cX6_firstImpossible rm6_firstImpossible 5) (RT : RTi w g cX6_firstImpossible .int) (n : Nat) (o0 : Nat) (h0 : typ o0 = 6) (o1 : Nat) (h1 : typ o1 = 2) : ∀ (f : Nat) (x2 : Int32) (M : Mem), J w g (s6_firstImpossible_6 n o0 o1 f x2 M) M 6 [(0, .ref (wa w o0)), (1, .ref (wa w o1)), (2, .int x2)] [] := by
  intro f
  induction f with
  | zero =>
    intro x2 M
    rw [s6_firstImpossible_6]
    exact J_none
  | succ f ih =>
    intro x2 M
    rw [s6_firstImpossible_6]
    refine J_iload_n C dX6_firstImpossible_6 rfl 2 rfl ?_
    refine J_bipush C dX6_firstImpossible_7 kcb_64 ?_
    refine J_icmp_ge (tgt := 59) C dX6_firstImpossible_9 (by decide) (fun _ => ?_) (fun _ => ?_)
    · refine J_iconst C dX6_firstImpossible_59 kci_m1 ?_
      exact J_iret C RT rfl dX6_firstImpossible_60
    · refine J_aload_n C dX6_firstImpossible_12 rfl 0 rfl ?_
      refine J_geti C fk6_2 W2_17 h0 dX6_firstImpossible_13 ?_
      refine J_aload_n C dX6_firstImpossible_16 rfl 0 rfl ?_
      refine J_geti C fk6_4 W2_19 h0 dX6_firstImpossible_17 ?_
      refine J_icmp_ge (tgt := 59) C dX6_firstImpossible_20 (by decide) (fun _ => ?_) (fun _ => ?_)
      · refine J_iconst C dX6_firstImpossible_59 kci_m1 ?_
        exact J_iret C RT rfl dX6_firstImpossible_60
      · refine J_aload_n C dX6_firstImpossible_23 rfl 0 rfl ?_
        refine J_geti C fk6_2 W2_17 h0 dX6_firstImpossible_24 ?_
        refine J_ilet (fun v3 => ?_)
        refine J_istore_n (lv' := [(3, .int v3), (0, .ref (wa w o0)), (1, .ref (wa w o1)), (2, .int x2)]) C dX6_firstImpossible_27 rfl (by decide) rfl ?_
        refine J_aload_n C dX6_firstImpossible_28 rfl 1 rfl ?_
        refine J_cvi (As := []) C (c6_signAhead (gl g) w o0 h0 M) (gd_v W2_94 W2_96 WP_3 W1_9 W2_97) rfl (by decide) (hdX6_signAhead) h0 (by decide) (cl_6) rfl (Nat.le_of_ble_eq_true rfl) dX6_firstImpossible_29 rfl (fun r5 M4 => ?_)
        refine J_istore (lv' := [(4, .int r5), (3, .int v3), (0, .ref (wa w o0)), (1, .ref (wa w o1)), (2, .int x2)]) C dX6_firstImpossible_32 (by decide) rfl ?_
        refine J_aload_n C dX6_firstImpossible_34 rfl 2 rfl ?_
        refine J_cvi (As := []) C (c6_readStatement (gl g) w n o0 h0 M4) (gd_v W2_90 W2_92 WP_2 W1_9 W2_93) rfl (by decide) (hdX6_readStatement) h0 (by decide) (cl_6) rfl (Nat.le_of_ble_eq_true rfl) dX6_firstImpossible_35 rfl (fun r7 M6 => ?_)
        refine J_if_eq (tgt := 51) C dX6_firstImpossible_38 (by decide) (fun _ => ?_) (fun _ => ?_)
        · refine J_iload_n C dX6_firstImpossible_51 rfl 1 rfl ?_
          exact J_iret C RT rfl dX6_firstImpossible_52
        · refine J_aload_n C dX6_firstImpossible_41 rfl 2 rfl ?_
          refine J_iload C dX6_firstImpossible_42 0 rfl ?_
          refine J_aload_n C dX6_firstImpossible_44 rfl 3 rfl ?_
          refine J_cvi (As := [.int r5, .ref (wa w o1)]) C (c6_comesTrue (gl g) w n o0 h0 r5 o1 h1 M6) (gd_v W2_194 W2_196 WP_6 W1_9 W2_197) rfl (by decide) (hdX6_comesTrue) h0 (by decide) (cl_6) rfl (Nat.le_of_ble_eq_true rfl) dX6_firstImpossible_45 rfl (fun r9 M8 => ?_)
          refine J_if_ne (tgt := 53) C dX6_firstImpossible_48 (by decide) (fun _ => ?_) (fun _ => ?_)
          · refine J_iinc (lw := fun v10 => [(2, .int v10), (4, .int r5), (3, .int v3), (0, .ref (wa w o0)), (1, .ref (wa w o1))]) (X := x2 + 1) C dX6_firstImpossible_53 (q := 4) rfl (by rw [kci_1]) (by decide) (fun _ => rfl) (fun v10 => ?_)
            refine J_goto (tgt := 6) C dX6_firstImpossible_56 (by decide) ?_
            refine J_lv [3, 4, 0] rfl ?_
            exact ih v10 M8
          · refine J_iload_n C dX6_firstImpossible_51 rfl 1 rfl ?_
            exact J_iret C RT rfl dX6_firstImpossible_52
def s6_firstImpossible (n : Nat) (o0 : Nat) (o1 : Nat) (M : Mem) : Option Res := cb (s6_begin o0 M) (fun _ M1 => s6_firstImpossible_6 n o0 o1 n (0 : Int32) M1)
set_option maxRecDepth 100000 in
set_option maxHeartbeats 4000000 in
theorem b6_firstImpossible {w : WE} {g : GT} (C : CT w g RX6 cX6_firstImpossible rm6_firstImpossible 5) (RT : RTi w g cX6_firstImpossible .int) (n : Nat) (o0 : Nat) (h0 : typ o0 = 6) (o1 : Nat) (h1 : typ o1 = 2) (M : Mem) : J w g (s6_firstImpossible n o0 o1 M) M 0 [(0, .ref (wa w o0)), (1, .ref (wa w o1))] [] := by
  rw [s6_firstImpossible]
  refine J_aload_n C dX6_firstImpossible_0 rfl 0 rfl ?_
  refine J_cvv (As := []) C (c6_begin (gl g) w o0 h0 M) (gd_v W2_86 W2_88 WP_1 W1_9 W2_89) rfl (by decide) (hdX6_begin) h0 (by decide) (cl_6) rfl (Nat.le_of_ble_eq_true rfl) dX6_firstImpossible_1 rfl (fun r2 M1 => ?_)
  refine J_iconst C dX6_firstImpossible_4 kci_0 ?_
  refine J_istore_n (lv' := [(2, .int (0 : Int32)), (0, .ref (wa w o0)), (1, .ref (wa w o1))]) C dX6_firstImpossible_5 rfl (by decide) rfl ?_
  refine J_lv [1, 2, 0] rfl ?_
  exact b6_firstImpossible_6 C RT n o0 h0 o1 h1 n (0 : Int32) M1
theorem c6_firstImpossible (l : Launch) (w : WE) (n : Nat) (o0 : Nat) (h0 : typ o0 = 6) (o1 : Nat) (h1 : typ o1 = 2) (M : Mem) : MC l w yX6_firstImpossible (wz yX6_firstImpossible cX6_firstImpossible 5 (some .int)) rm6_firstImpossible [.ref (wa w o0), .ref (wa w o1)] (s6_firstImpossible n o0 o1 M) M :=
  mc_of_J (own := RX6) rfl (by decide) rfl rfl (Nat.le_of_ble_eq_true rfl) (fun _ _ C RT => b6_firstImpossible C RT n o0 h0 o1 h1 M)
theorem hdX6_firstImpossible : yX6_firstImpossible.cls = RX6 ∧ yOK yX6_firstImpossible 1 := ⟨rfl, by decide, by decide, by decide⟩
abbrev rm0_readParty : Room := { frames := 6, cells := 0, slots := 0, locals := 131 }
def s0_readParty (n : Nat) (o0 : Nat) (o1 : Nat) (M : Mem) : Option Res := cb (s6_firstMisfit n o1 M) (fun r2 M1 => if r2 < 0 then (cb (s2_become n (link o0 1) (link o0 0) M1) (fun _ M3 => cb (s6_firstImpossible n o1 (link o0 1) M3) (fun r6 M5 => if r6 < 0 then (cb (s2_become n (link o0 0) (link o0 1) M5) (fun _ M7 => some (M7 o1 5, M7))) else (some ((-2000 : Int32) - r6, M5))))) else (some ((-1000 : Int32) - r2, M1)))
set_option maxRecDepth 100000 in
set_option maxHeartbeats 4000000 in
theorem b0_readParty {w : WE} {g : GT} (C : CT w g RX0 cX0_readParty rm0_readParty 3) (RT : RTi w g cX0_readParty .int) (n : Nat) (o0 : Nat) (h0 : typ o0 = 0) (o1 : Nat) (h1 : typ o1 = 6) (M : Mem) : J w g (s0_readParty n o0 o1 M) M 0 [(0, .ref (wa w o0)), (1, .ref (wa w o1))] [] := by
  rw [s0_readParty]
  refine J_aload_n C dX0_readParty_0 rfl 1 rfl ?_
  refine J_cvi (As := []) C (c6_firstMisfit (gl g) w n o1 h1 M) (gd_v W2_82 W2_83 W2_84 W1_9 W2_85) rfl (by decide) (hdX6_firstMisfit) h1 (by decide) (cl_6) rfl (Nat.le_of_ble_eq_true rfl) dX0_readParty_1 rfl (fun r2 M1 => ?_)
  refine J_istore_n (lv' := [(2, .int r2), (0, .ref (wa w o0)), (1, .ref (wa w o1))]) C dX0_readParty_4 rfl (by decide) rfl ?_
  refine J_iload_n C dX0_readParty_5 rfl 0 rfl ?_
  refine J_if_lt (tgt := 15) C dX0_readParty_6 (by decide) (fun _ => ?_) (fun _ => ?_)
  · refine J_aload_n C dX0_readParty_15 rfl 1 rfl ?_
    refine J_getr C fk0_1 W1_217 h0 dX0_readParty_16 ?_
    refine J_aload_n C dX0_readParty_19 rfl 1 rfl ?_
    refine J_getr C fk0_0 W1_215 h0 dX0_readParty_20 ?_
    refine J_cvv (As := [.ref (wa w (link o0 0))]) C (c2_become (gl g) w n (link o0 1) (tl_0_1 h0) (link o0 0) (tl_0_0 h0) M1) (gd_v W2_170 W2_171 W2_172 W1_3 W2_173) rfl (by decide) (hdX2_become) (tl_0_1 h0) (by decide) (cl_2) rfl (Nat.le_of_ble_eq_true rfl) dX0_readParty_23 rfl (fun r4 M3 => ?_)
    refine J_aload_n C dX0_readParty_26 rfl 2 rfl ?_
    refine J_aload_n C dX0_readParty_27 rfl 1 rfl ?_
    refine J_getr C fk0_1 W1_217 h0 dX0_readParty_28 ?_
    refine J_cvi (As := [.ref (wa w (link o0 1))]) C (c6_firstImpossible (gl g) w n o1 h1 (link o0 1) (tl_0_1 h0) M3) (gd_v W2_190 W2_191 W2_192 W1_9 W2_193) rfl (by decide) (hdX6_firstImpossible) h1 (by decide) (cl_6) rfl (Nat.le_of_ble_eq_true rfl) dX0_readParty_31 rfl (fun r6 M5 => ?_)
    refine J_istore_n (lv' := [(2, .int r6), (0, .ref (wa w o0)), (1, .ref (wa w o1))]) C dX0_readParty_34 rfl (by decide) rfl ?_
    refine J_iload_n C dX0_readParty_35 rfl 0 rfl ?_
    refine J_if_lt (tgt := 45) C dX0_readParty_36 (by decide) (fun _ => ?_) (fun _ => ?_)
    · refine J_aload_n C dX0_readParty_45 rfl 1 rfl ?_
      refine J_getr C fk0_0 W1_215 h0 dX0_readParty_46 ?_
      refine J_aload_n C dX0_readParty_49 rfl 1 rfl ?_
      refine J_getr C fk0_1 W1_217 h0 dX0_readParty_50 ?_
      refine J_cvv (As := [.ref (wa w (link o0 1))]) C (c2_become (gl g) w n (link o0 0) (tl_0_0 h0) (link o0 1) (tl_0_1 h0) M5) (gd_v W2_170 W2_171 W2_172 W1_3 W2_173) rfl (by decide) (hdX2_become) (tl_0_0 h0) (by decide) (cl_2) rfl (Nat.le_of_ble_eq_true rfl) dX0_readParty_53 rfl (fun r8 M7 => ?_)
      refine J_aload_n C dX0_readParty_56 rfl 2 rfl ?_
      refine J_geti C fk6_5 W2_22 h1 dX0_readParty_57 ?_
      exact J_iret C RT rfl dX0_readParty_60
    · refine J_sipush C dX0_readParty_39 kcs_m2000 ?_
      refine J_iload_n C dX0_readParty_42 rfl 0 rfl ?_
      refine J_isub C dX0_readParty_43 ?_
      exact J_iret C RT rfl dX0_readParty_44
  · refine J_sipush C dX0_readParty_9 kcs_m1000 ?_
    refine J_iload_n C dX0_readParty_12 rfl 0 rfl ?_
    refine J_isub C dX0_readParty_13 ?_
    exact J_iret C RT rfl dX0_readParty_14
theorem c0_readParty (l : Launch) (w : WE) (n : Nat) (o0 : Nat) (h0 : typ o0 = 0) (o1 : Nat) (h1 : typ o1 = 6) (M : Mem) : MC l w yX0_readParty (wz yX0_readParty cX0_readParty 3 (some .int)) rm0_readParty [.ref (wa w o0), .ref (wa w o1)] (s0_readParty n o0 o1 M) M :=
  mc_of_J (own := RX0) rfl (by decide) rfl rfl (Nat.le_of_ble_eq_true rfl) (fun _ _ C RT => b0_readParty C RT n o0 h0 o1 h1 M)
theorem hdX0_readParty : yX0_readParty.cls = RX0 ∧ yOK yX0_readParty 1 := ⟨rfl, by decide, by decide, by decide⟩
abbrev rm8_party : Room := { frames := 7, cells := 0, slots := 0, locals := 153 }
def s8_party (n : Nat) (o0 : Nat) (M : Mem) : Option Res := cb (s0_readParty n (link o0 0) (link o0 5) M) (fun r2 M1 => mlet (mset M1 (link o0 5) 4 (0 : Int32)) (fun M3 => some (r2, M3)))
set_option maxRecDepth 100000 in
set_option maxHeartbeats 4000000 in
theorem b8_party {w : WE} {g : GT} (C : CT w g RX8 cX8_party rm8_party 2) (RT : RTi w g cX8_party .int) (n : Nat) (o0 : Nat) (h0 : typ o0 = 8) (M : Mem) : J w g (s8_party n o0 M) M 0 [(0, .ref (wa w o0))] [] := by
  rw [s8_party]
  refine J_aload_n C dX8_party_0 rfl 0 rfl ?_
  refine J_getr C fk8_0 W2_37 h0 dX8_party_1 ?_
  refine J_aload_n C dX8_party_4 rfl 0 rfl ?_
  refine J_getr C fk8_5 W2_42 h0 dX8_party_5 ?_
  refine J_cvi (As := [.ref (wa w (link o0 5))]) C (c0_readParty (gl g) w n (link o0 0) (tl_8_0 h0) (link o0 5) (tl_8_5 h0) M) (gd_v W2_78 W2_79 W2_80 W1_2 W2_81) rfl (by decide) (hdX0_readParty) (tl_8_0 h0) (by decide) (cl_0) rfl (Nat.le_of_ble_eq_true rfl) dX8_party_8 rfl (fun r2 M1 => ?_)
  refine J_istore_n (lv' := [(1, .int r2), (0, .ref (wa w o0))]) C dX8_party_11 rfl (by decide) rfl ?_
  refine J_aload_n C dX8_party_12 rfl 1 rfl ?_
  refine J_getr C fk8_5 W2_42 h0 dX8_party_13 ?_
  refine J_iconst C dX8_party_16 kci_0 ?_
  refine J_puti C fk6_4 W2_20 fp6_4 (tl_8_5 h0) dX8_party_17 ?_
  refine J_mlet (fun M3 => ?_)
  refine J_iload_n C dX8_party_20 rfl 0 rfl ?_
  exact J_iret C RT rfl dX8_party_21
theorem c8_party (l : Launch) (w : WE) (n : Nat) (o0 : Nat) (h0 : typ o0 = 8) (M : Mem) : MC l w yX8_party (wz yX8_party cX8_party 2 (some .int)) rm8_party [.ref (wa w o0)] (s8_party n o0 M) M :=
  mc_of_J (own := RX8) rfl (by decide) rfl rfl (Nat.le_of_ble_eq_true rfl) (fun _ _ C RT => b8_party C RT n o0 h0 M)
theorem hdX8_party : yX8_party.cls = RX8 ∧ yOK yX8_party 0 := ⟨rfl, by decide, by decide, by decide⟩
