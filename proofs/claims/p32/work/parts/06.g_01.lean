abbrev rm6_begin : Room := { frames := 0, cells := 0, slots := 0, locals := 0 }
def s6_begin (o0 : Nat) (M : Mem) : Option Res := mlet (mset M o0 2 (0 : Int32)) (fun M1 => mlet (mset M1 o0 5 (0 : Int32)) (fun M2 => some (0, M2)))
set_option maxRecDepth 100000 in
set_option maxHeartbeats 4000000 in
theorem b6_begin {w : WE} {g : GT} (C : CT w g RX6 cX6_begin rm6_begin 1) (RT : RTv w g cX6_begin) (o0 : Nat) (h0 : typ o0 = 6) (M : Mem) : J w g (s6_begin o0 M) M 0 [(0, .ref (wa w o0))] [] := by
  rw [s6_begin]
  refine J_aload_n C dX6_begin_0 rfl 0 rfl ?_
  refine J_iconst C dX6_begin_1 kci_0 ?_
  refine J_puti C fk6_2 W2_17 fp6_2 h0 dX6_begin_2 ?_
  refine J_mlet (fun M1 => ?_)
  refine J_aload_n C dX6_begin_5 rfl 0 rfl ?_
  refine J_iconst C dX6_begin_6 kci_0 ?_
  refine J_puti C fk6_5 W2_21 fp6_5 h0 dX6_begin_7 ?_
  refine J_mlet (fun M2 => ?_)
  exact J_vret C RT dX6_begin_10
theorem c6_begin (l : Launch) (w : WE) (o0 : Nat) (h0 : typ o0 = 6) (M : Mem) : MV l w yX6_begin (wz yX6_begin cX6_begin 1 none) rm6_begin [.ref (wa w o0)] (s6_begin o0 M) M :=
  mv_of_J (own := RX6) rfl (by decide) rfl rfl (Nat.le_of_ble_eq_true rfl) (fun _ _ C RT => b6_begin C RT o0 h0 M)
theorem hdX6_begin : yX6_begin.cls = RX6 ∧ yOK yX6_begin 0 := ⟨rfl, by decide, by decide, by decide⟩
abbrev rm6_signAhead : Room := { frames := 0, cells := 0, slots := 0, locals := 0 }
def s6_signAhead (o0 : Nat) (M : Mem) : Option Res := if (M o0 2) < 0 then (some ((-1 : Int32), M)) else (if (M o0 4) ≤ (M o0 2) then (some ((-1 : Int32), M)) else (if (64 : Int32) ≤ (M o0 2) then (some ((-1 : Int32), M)) else (if inB (M o0 2) (alen (link o0 0)) then some ((M (link o0 0) (M o0 2).toNatClampNeg) &&& (255 : Int32), M) else none)))
set_option maxRecDepth 100000 in
set_option maxHeartbeats 4000000 in
theorem b6_signAhead {w : WE} {g : GT} (C : CT w g RX6 cX6_signAhead rm6_signAhead 1) (RT : RTi w g cX6_signAhead .int) (o0 : Nat) (h0 : typ o0 = 6) (M : Mem) : J w g (s6_signAhead o0 M) M 0 [(0, .ref (wa w o0))] [] := by
  rw [s6_signAhead]
  refine J_aload_n C dX6_signAhead_0 rfl 0 rfl ?_
  refine J_geti C fk6_2 W2_17 h0 dX6_signAhead_1 ?_
  refine J_if_lt (tgt := 43) C dX6_signAhead_4 (by decide) (fun _ => ?_) (fun _ => ?_)
  · refine J_iconst C dX6_signAhead_43 kci_m1 ?_
    exact J_iret C RT rfl dX6_signAhead_44
  · refine J_aload_n C dX6_signAhead_7 rfl 0 rfl ?_
    refine J_geti C fk6_2 W2_17 h0 dX6_signAhead_8 ?_
    refine J_aload_n C dX6_signAhead_11 rfl 0 rfl ?_
    refine J_geti C fk6_4 W2_19 h0 dX6_signAhead_12 ?_
    refine J_icmp_ge (tgt := 43) C dX6_signAhead_15 (by decide) (fun _ => ?_) (fun _ => ?_)
    · refine J_iconst C dX6_signAhead_43 kci_m1 ?_
      exact J_iret C RT rfl dX6_signAhead_44
    · refine J_aload_n C dX6_signAhead_18 rfl 0 rfl ?_
      refine J_geti C fk6_2 W2_17 h0 dX6_signAhead_19 ?_
      refine J_bipush C dX6_signAhead_22 kcb_64 ?_
      refine J_icmp_ge (tgt := 43) C dX6_signAhead_24 (by decide) (fun _ => ?_) (fun _ => ?_)
      · refine J_iconst C dX6_signAhead_43 kci_m1 ?_
        exact J_iret C RT rfl dX6_signAhead_44
      · refine J_aload_n C dX6_signAhead_27 rfl 0 rfl ?_
        refine J_getr C fk6_0 W2_15 h0 dX6_signAhead_28 ?_
        refine J_aload_n C dX6_signAhead_31 rfl 0 rfl ?_
        refine J_geti C fk6_2 W2_17 h0 dX6_signAhead_32 ?_
        refine J_baload C (tl_6_0 h0) dX6_signAhead_35 ?_
        refine J_sipush C dX6_signAhead_36 kcs_255 ?_
        refine J_iand C dX6_signAhead_39 ?_
        refine J_goto (tgt := 44) C dX6_signAhead_40 (by decide) ?_
        exact J_iret C RT rfl dX6_signAhead_44
theorem c6_signAhead (l : Launch) (w : WE) (o0 : Nat) (h0 : typ o0 = 6) (M : Mem) : MC l w yX6_signAhead (wz yX6_signAhead cX6_signAhead 1 (some .int)) rm6_signAhead [.ref (wa w o0)] (s6_signAhead o0 M) M :=
  mc_of_J (own := RX6) rfl (by decide) rfl rfl (Nat.le_of_ble_eq_true rfl) (fun _ _ C RT => b6_signAhead C RT o0 h0 M)
theorem hdX6_signAhead : yX6_signAhead.cls = RX6 ∧ yOK yX6_signAhead 0 := ⟨rfl, by decide, by decide, by decide⟩
abbrev rm6_isDigit : Room := { frames := 0, cells := 0, slots := 0, locals := 0 }
def s6_isDigit (x0 : Int32) (M : Mem) : Option Res := if x0 < (48 : Int32) then (some ((0 : Int32), M)) else (if (57 : Int32) < x0 then (some ((0 : Int32), M)) else (some ((1 : Int32), M)))
set_option maxRecDepth 100000 in
set_option maxHeartbeats 4000000 in
theorem b6_isDigit {w : WE} {g : GT} (C : CT w g RX6 cX6_isDigit rm6_isDigit 1) (RT : RTi w g cX6_isDigit .boolean) (x0 : Int32) (M : Mem) : J w g (s6_isDigit x0 M) M 0 [(0, .int x0)] [] := by
  rw [s6_isDigit]
  refine J_iload_n C dX6_isDigit_0 rfl 0 rfl ?_
  refine J_bipush C dX6_isDigit_1 kcb_48 ?_
  refine J_icmp_lt (tgt := 16) C dX6_isDigit_3 (by decide) (fun _ => ?_) (fun _ => ?_)
  · refine J_iconst C dX6_isDigit_16 kci_0 ?_
    exact J_iret C RT (by decide) dX6_isDigit_17
  · refine J_iload_n C dX6_isDigit_6 rfl 0 rfl ?_
    refine J_bipush C dX6_isDigit_7 kcb_57 ?_
    refine J_icmp_gt (tgt := 16) C dX6_isDigit_9 (by decide) (fun _ => ?_) (fun _ => ?_)
    · refine J_iconst C dX6_isDigit_16 kci_0 ?_
      exact J_iret C RT (by decide) dX6_isDigit_17
    · refine J_iconst C dX6_isDigit_12 kci_1 ?_
      refine J_goto (tgt := 17) C dX6_isDigit_13 (by decide) ?_
      exact J_iret C RT (by decide) dX6_isDigit_17
theorem c6_isDigit (l : Launch) (w : WE) (x0 : Int32) (M : Mem) : MC l w yX6_isDigit (wz yX6_isDigit cX6_isDigit 1 (some .boolean)) rm6_isDigit [.int x0] (s6_isDigit x0 M) M :=
  mc_of_J (own := RX6) rfl (by decide) rfl rfl (Nat.le_of_ble_eq_true rfl) (fun _ _ C RT => b6_isDigit C RT x0 M)
theorem hdX6_isDigit : yX6_isDigit.cls = RX6 ∧ yOK yX6_isDigit 1 := ⟨rfl, by decide, by decide, by decide⟩
abbrev rm6_readDigits : Room := { frames := 1, cells := 0, slots := 0, locals := 20 }
def s6_readDigits_88 (n : Nat) (x3 : Int32) (M : Mem) : Option Res := if x3 ≤ 0 then (some ((0 : Int32), M)) else (some ((1 : Int32), M))
set_option maxRecDepth 100000 in
set_option maxHeartbeats 4000000 in
theorem b6_readDigits_88 {w : WE} {g : GT} (C : CT w g RX6 cX6_readDigits rm6_readDigits 4) (RT : RTi w g cX6_readDigits .boolean) (n : Nat) (x3 : Int32) (M : Mem) : J w g (s6_readDigits_88 n x3 M) M 88 [(3, .int x3)] [] := by
  rw [s6_readDigits_88]
  refine J_iload_n C dX6_readDigits_88 rfl 0 rfl ?_
  refine J_if_le (tgt := 96) C dX6_readDigits_89 (by decide) (fun _ => ?_) (fun _ => ?_)
  · refine J_iconst C dX6_readDigits_96 kci_0 ?_
    exact J_iret C RT (by decide) dX6_readDigits_97
  · refine J_iconst C dX6_readDigits_92 kci_1 ?_
    refine J_goto (tgt := 97) C dX6_readDigits_93 (by decide) ?_
    exact J_iret C RT (by decide) dX6_readDigits_97
def s6_readDigits_56 (n : Nat) (o0 : Nat) (x2 : Int32) (x3 : Int32) (M : Mem) : Option Res := if (Int32.ofNat (alen (link o0 1))) ≤ (M o0 3) then (s6_readDigits_88 n x3 M) else (if inB (M o0 3) (alen (link o0 1)) then mlet (mset M (link o0 1) (M o0 3).toNatClampNeg x2) (fun M1 => mlet (mset M1 o0 3 ((M1 o0 3) + (1 : Int32))) (fun M2 => s6_readDigits_88 n x3 M2)) else none)
set_option maxRecDepth 100000 in
set_option maxHeartbeats 4000000 in
theorem b6_readDigits_56 {w : WE} {g : GT} (C : CT w g RX6 cX6_readDigits rm6_readDigits 4) (RT : RTi w g cX6_readDigits .boolean) (n : Nat) (o0 : Nat) (h0 : typ o0 = 6) (x2 : Int32) (x3 : Int32) (M : Mem) : J w g (s6_readDigits_56 n o0 x2 x3 M) M 56 [(0, .ref (wa w o0)), (2, .int x2), (3, .int x3)] [] := by
  rw [s6_readDigits_56]
  refine J_aload_n C dX6_readDigits_56 rfl 0 rfl ?_
  refine J_geti C fk6_3 W2_18 h0 dX6_readDigits_57 ?_
  refine J_aload_n C dX6_readDigits_60 rfl 0 rfl ?_
  refine J_getr C fk6_1 W2_16 h0 dX6_readDigits_61 ?_
  refine J_alen C (tl_6_1 h0) dX6_readDigits_64 ?_
  refine J_icmp_ge (tgt := 88) C dX6_readDigits_65 (by decide) (fun _ => ?_) (fun _ => ?_)
  · refine J_lv [2] rfl ?_
    exact b6_readDigits_88 C RT n x3 M
  · refine J_aload_n C dX6_readDigits_68 rfl 0 rfl ?_
    refine J_getr C fk6_1 W2_16 h0 dX6_readDigits_69 ?_
    refine J_aload_n C dX6_readDigits_72 rfl 0 rfl ?_
    refine J_geti C fk6_3 W2_18 h0 dX6_readDigits_73 ?_
    refine J_iload_n C dX6_readDigits_76 rfl 1 rfl ?_
    refine J_iastore C (tl_6_1 h0) dX6_readDigits_77 ?_
    refine J_mlet (fun M1 => ?_)
    refine J_aload_n C dX6_readDigits_78 rfl 0 rfl ?_
    refine J_dup C rfl dX6_readDigits_79 ?_
    refine J_geti C fk6_3 W2_18 h0 dX6_readDigits_80 ?_
    refine J_iconst C dX6_readDigits_83 kci_1 ?_
    refine J_iadd C dX6_readDigits_84 ?_
    refine J_puti C fk6_3 W2_18 fp6_3 h0 dX6_readDigits_85 ?_
    refine J_mlet (fun M2 => ?_)
    refine J_lv [2] rfl ?_
    exact b6_readDigits_88 C RT n x3 M2
def s6_readDigits_27 (n : Nat) (k4 : Int32 → Int32 → Mem → Option Res) (o0 : Nat) (x1 : Int32) (x2 : Int32) (x3 : Int32) (M : Mem) : Option Res := cb (s6_signAhead o0 M) (fun r8 M7 => ilet (((x2 * (10 : Int32)) + r8) - (48 : Int32)) (fun v9 => ilet (x3 + 1) (fun v10 => mlet (mset M7 o0 2 ((M7 o0 2) + (1 : Int32))) (fun M11 => k4 v9 v10 M11))))
set_option maxRecDepth 100000 in
set_option maxHeartbeats 4000000 in
theorem b6_readDigits_27 {w : WE} {g : GT} (C : CT w g RX6 cX6_readDigits rm6_readDigits 4) (RT : RTi w g cX6_readDigits .boolean) (n : Nat) (k4 : Int32 → Int32 → Mem → Option Res) (o0 : Nat) (h0 : typ o0 = 6) (x1 : Int32) (x2 : Int32) (x3 : Int32) (hk4 : ∀ (z2 : Int32) (z3 : Int32) (M : Mem), J w g (k4 z2 z3 M) M 4 [(0, .ref (wa w o0)), (1, .int x1), (2, .int z2), (3, .int z3)] []) (M : Mem) : J w g (s6_readDigits_27 n k4 o0 x1 x2 x3 M) M 27 [(0, .ref (wa w o0)), (1, .int x1), (2, .int x2), (3, .int x3)] [] := by
  rw [s6_readDigits_27]
  refine J_iload_n C dX6_readDigits_27 rfl 2 rfl ?_
  refine J_bipush C dX6_readDigits_28 kcb_10 ?_
  refine J_imul C dX6_readDigits_30 ?_
  refine J_aload_n C dX6_readDigits_31 rfl 0 rfl ?_
  refine J_cvi (As := []) C (c6_signAhead (gl g) w o0 h0 M) (gd_v W2_94 W2_96 WP_3 W1_9 W2_97) rfl (by decide) (hdX6_signAhead) h0 (by decide) (cl_6) rfl (Nat.le_of_ble_eq_true rfl) dX6_readDigits_32 rfl (fun r8 M7 => ?_)
  refine J_iadd C dX6_readDigits_35 ?_
  refine J_bipush C dX6_readDigits_36 kcb_48 ?_
  refine J_isub C dX6_readDigits_38 ?_
  refine J_ilet (fun v9 => ?_)
  refine J_istore_n (lv' := [(2, .int v9), (0, .ref (wa w o0)), (1, .int x1), (3, .int x3)]) C dX6_readDigits_39 rfl (by decide) rfl ?_
  refine J_iinc (lw := fun v10 => [(3, .int v10), (2, .int v9), (0, .ref (wa w o0)), (1, .int x1)]) (X := x3 + 1) C dX6_readDigits_40 (q := 3) rfl (by rw [kci_1]) (by decide) (fun _ => rfl) (fun v10 => ?_)
  refine J_aload_n C dX6_readDigits_43 rfl 2 rfl ?_
  refine J_dup C rfl dX6_readDigits_44 ?_
  refine J_geti C fk6_2 W2_17 h0 dX6_readDigits_45 ?_
  refine J_iconst C dX6_readDigits_48 kci_1 ?_
  refine J_iadd C dX6_readDigits_49 ?_
  refine J_puti C fk6_2 W2_17 fp6_2 h0 dX6_readDigits_50 ?_
  refine J_mlet (fun M11 => ?_)
  refine J_goto (tgt := 4) C dX6_readDigits_53 (by decide) ?_
  refine J_lv [2, 3, 1, 0] rfl ?_
  exact hk4 v9 v10 M11
def s6_readDigits_4 (n : Nat) (o0 : Nat) (x1 : Int32) : Nat → Int32 → Int32 → Mem → Option Res
  | 0, _, _, _ => none
  | f + 1, x2, x3, M => if x1 ≤ x3 then (s6_readDigits_56 n o0 x2 x3 M) else (cb (s6_signAhead o0 M) (fun r4 M3 => cb (s6_isDigit r4 M3) (fun r6 M5 => if r6 = 0 then (s6_readDigits_56 n o0 x2 x3 M5) else (if x3 = 0 then (s6_readDigits_27 n (s6_readDigits_4 n o0 x1 f) o0 x1 x2 x3 M5) else (if x2 ≤ 0 then (s6_readDigits_56 n o0 x2 x3 M5) else (s6_readDigits_27 n (s6_readDigits_4 n o0 x1 f) o0 x1 x2 x3 M5))))))
set_option maxRecDepth 100000 in
set_option maxHeartbeats 4000000 in
theorem b6_readDigits_4 {w : WE} {g : GT} (C : CT w g RX6 cX6_readDigits rm6_readDigits 4) (RT : RTi w g cX6_readDigits .boolean) (n : Nat) (o0 : Nat) (h0 : typ o0 = 6) (x1 : Int32) : ∀ (f : Nat) (x2 : Int32) (x3 : Int32) (M : Mem), J w g (s6_readDigits_4 n o0 x1 f x2 x3 M) M 4 [(0, .ref (wa w o0)), (1, .int x1), (2, .int x2), (3, .int x3)] [] := by
  intro f
  induction f with
  | zero =>
    intro x2 x3 M
    rw [s6_readDigits_4]
    exact J_none
  | succ f ih =>
    intro x2 x3 M
    rw [s6_readDigits_4]
    refine J_iload_n C dX6_readDigits_4 rfl 3 rfl ?_
    refine J_iload_n C dX6_readDigits_5 rfl 1 rfl ?_
    refine J_icmp_ge (tgt := 56) C dX6_readDigits_6 (by decide) (fun _ => ?_) (fun _ => ?_)
    · refine J_lv [0, 2, 3] rfl ?_
      exact b6_readDigits_56 C RT n o0 h0 x2 x3 M
    · refine J_aload_n C dX6_readDigits_9 rfl 0 rfl ?_
      refine J_cvi (As := []) C (c6_signAhead (gl g) w o0 h0 M) (gd_v W2_94 W2_96 WP_3 W1_9 W2_97) rfl (by decide) (hdX6_signAhead) h0 (by decide) (cl_6) rfl (Nat.le_of_ble_eq_true rfl) dX6_readDigits_10 rfl (fun r4 M3 => ?_)
      refine J_csi (As := [.int r4]) (dm := 0) C (c6_isDigit (gl g) w r4 M3) (gd_s W2_163 W2_164 W1_9 W2_165) rfl (by decide) (hdX6_isDigit.2) rfl (Nat.le_of_ble_eq_true rfl) dX6_readDigits_13 rfl (fun r6 M5 => ?_)
      refine J_if_eq (tgt := 56) C dX6_readDigits_16 (by decide) (fun _ => ?_) (fun _ => ?_)
      · refine J_lv [0, 2, 3] rfl ?_
        exact b6_readDigits_56 C RT n o0 h0 x2 x3 M5
      · refine J_iload_n C dX6_readDigits_19 rfl 3 rfl ?_
        refine J_if_eq (tgt := 27) C dX6_readDigits_20 (by decide) (fun _ => ?_) (fun _ => ?_)
        · exact b6_readDigits_27 C RT n (s6_readDigits_4 n o0 x1 f) o0 h0 x1 x2 x3 ih M5
        · refine J_iload_n C dX6_readDigits_23 rfl 2 rfl ?_
          refine J_if_le (tgt := 56) C dX6_readDigits_24 (by decide) (fun _ => ?_) (fun _ => ?_)
          · refine J_lv [0, 2, 3] rfl ?_
            exact b6_readDigits_56 C RT n o0 h0 x2 x3 M5
          · exact b6_readDigits_27 C RT n (s6_readDigits_4 n o0 x1 f) o0 h0 x1 x2 x3 ih M5
def s6_readDigits (n : Nat) (o0 : Nat) (x1 : Int32) (M : Mem) : Option Res := s6_readDigits_4 n o0 x1 n (0 : Int32) (0 : Int32) M
set_option maxRecDepth 100000 in
set_option maxHeartbeats 4000000 in
theorem b6_readDigits {w : WE} {g : GT} (C : CT w g RX6 cX6_readDigits rm6_readDigits 4) (RT : RTi w g cX6_readDigits .boolean) (n : Nat) (o0 : Nat) (h0 : typ o0 = 6) (x1 : Int32) (M : Mem) : J w g (s6_readDigits n o0 x1 M) M 0 [(0, .ref (wa w o0)), (1, .int x1)] [] := by
  rw [s6_readDigits]
  refine J_iconst C dX6_readDigits_0 kci_0 ?_
  refine J_istore_n (lv' := [(2, .int (0 : Int32)), (0, .ref (wa w o0)), (1, .int x1)]) C dX6_readDigits_1 rfl (by decide) rfl ?_
  refine J_iconst C dX6_readDigits_2 kci_0 ?_
  refine J_istore_n (lv' := [(3, .int (0 : Int32)), (2, .int (0 : Int32)), (0, .ref (wa w o0)), (1, .int x1)]) C dX6_readDigits_3 rfl (by decide) rfl ?_
  refine J_lv [2, 3, 1, 0] rfl ?_
  exact b6_readDigits_4 C RT n o0 h0 x1 n (0 : Int32) (0 : Int32) M
theorem c6_readDigits (l : Launch) (w : WE) (n : Nat) (o0 : Nat) (h0 : typ o0 = 6) (x1 : Int32) (M : Mem) : MC l w yX6_readDigits (wz yX6_readDigits cX6_readDigits 4 (some .boolean)) rm6_readDigits [.ref (wa w o0), .int x1] (s6_readDigits n o0 x1 M) M :=
  mc_of_J (own := RX6) rfl (by decide) rfl rfl (Nat.le_of_ble_eq_true rfl) (fun _ _ C RT => b6_readDigits C RT n o0 h0 x1 M)
theorem hdX6_readDigits : yX6_readDigits.cls = RX6 ∧ yOK yX6_readDigits 1 := ⟨rfl, by decide, by decide, by decide⟩
abbrev rm6_readPart : Room := { frames := 2, cells := 0, slots := 0, locals := 43 }
def s6_readPart (n : Nat) (o0 : Nat) (x1 : Int32) (M : Mem) : Option Res := if x1 = (35 : Int32) then (cb (s6_readDigits n o0 (3 : Int32) M) (fun r7 M6 => if bz r7 then some (r7, M6) else none)) else (if x1 = (100 : Int32) then (cb (s6_readDigits n o0 (1 : Int32) M) (fun r5 M4 => if bz r5 then some (r5, M4) else none)) else (cb (s6_signAhead o0 M) (fun r2 M1 => if r2 = x1 then (mlet (mset M1 o0 2 ((M1 o0 2) + (1 : Int32))) (fun M3 => some ((1 : Int32), M3))) else (some ((0 : Int32), M1)))))
set_option maxRecDepth 100000 in
set_option maxHeartbeats 4000000 in
theorem b6_readPart {w : WE} {g : GT} (C : CT w g RX6 cX6_readPart rm6_readPart 2) (RT : RTi w g cX6_readPart .boolean) (n : Nat) (o0 : Nat) (h0 : typ o0 = 6) (x1 : Int32) (M : Mem) : J w g (s6_readPart n o0 x1 M) M 0 [(0, .ref (wa w o0)), (1, .int x1)] [] := by
  rw [s6_readPart]
  refine J_iload_n C dX6_readPart_0 rfl 1 rfl ?_
  refine J_bipush C dX6_readPart_1 kcb_35 ?_
  refine J_icmp_ne (tgt := 12) C dX6_readPart_3 (by decide) (fun _ => ?_) (fun _ => ?_)
  · refine J_iload_n C dX6_readPart_12 rfl 1 rfl ?_
    refine J_bipush C dX6_readPart_13 kcb_100 ?_
    refine J_icmp_ne (tgt := 24) C dX6_readPart_15 (by decide) (fun _ => ?_) (fun _ => ?_)
    · refine J_aload_n C dX6_readPart_24 rfl 0 rfl ?_
      refine J_cvi (As := []) C (c6_signAhead (gl g) w o0 h0 M) (gd_v W2_94 W2_96 WP_3 W1_9 W2_97) rfl (by decide) (hdX6_signAhead) h0 (by decide) (cl_6) rfl (Nat.le_of_ble_eq_true rfl) dX6_readPart_25 rfl (fun r2 M1 => ?_)
      refine J_iload_n C dX6_readPart_28 rfl 1 rfl ?_
      refine J_icmp_eq (tgt := 34) C dX6_readPart_29 (by decide) (fun _ => ?_) (fun _ => ?_)
      · refine J_aload_n C dX6_readPart_34 rfl 0 rfl ?_
        refine J_dup C rfl dX6_readPart_35 ?_
        refine J_geti C fk6_2 W2_17 h0 dX6_readPart_36 ?_
        refine J_iconst C dX6_readPart_39 kci_1 ?_
        refine J_iadd C dX6_readPart_40 ?_
        refine J_puti C fk6_2 W2_17 fp6_2 h0 dX6_readPart_41 ?_
        refine J_mlet (fun M3 => ?_)
        refine J_iconst C dX6_readPart_44 kci_1 ?_
        exact J_iret C RT (by decide) dX6_readPart_45
      · refine J_iconst C dX6_readPart_32 kci_0 ?_
        exact J_iret C RT (by decide) dX6_readPart_33
    · refine J_aload_n C dX6_readPart_18 rfl 0 rfl ?_
      refine J_iconst C dX6_readPart_19 kci_1 ?_
      refine J_cvi (As := [.int (1 : Int32)]) C (c6_readDigits (gl g) w n o0 h0 (1 : Int32) M) (gd_v W2_159 W2_161 WP_5 W1_9 W2_162) rfl (by decide) (hdX6_readDigits) h0 (by decide) (cl_6) rfl (Nat.le_of_ble_eq_true rfl) dX6_readPart_20 rfl (fun r5 M4 => ?_)
      exact J_zret C RT dX6_readPart_23
  · refine J_aload_n C dX6_readPart_6 rfl 0 rfl ?_
    refine J_iconst C dX6_readPart_7 kci_3 ?_
    refine J_cvi (As := [.int (3 : Int32)]) C (c6_readDigits (gl g) w n o0 h0 (3 : Int32) M) (gd_v W2_159 W2_161 WP_5 W1_9 W2_162) rfl (by decide) (hdX6_readDigits) h0 (by decide) (cl_6) rfl (Nat.le_of_ble_eq_true rfl) dX6_readPart_8 rfl (fun r7 M6 => ?_)
    exact J_zret C RT dX6_readPart_11
theorem c6_readPart (l : Launch) (w : WE) (n : Nat) (o0 : Nat) (h0 : typ o0 = 6) (x1 : Int32) (M : Mem) : MC l w yX6_readPart (wz yX6_readPart cX6_readPart 2 (some .boolean)) rm6_readPart [.ref (wa w o0), .int x1] (s6_readPart n o0 x1 M) M :=
  mc_of_J (own := RX6) rfl (by decide) rfl rfl (Nat.le_of_ble_eq_true rfl) (fun _ _ C RT => b6_readPart C RT n o0 h0 x1 M)
theorem hdX6_readPart : yX6_readPart.cls = RX6 ∧ yOK yX6_readPart 1 := ⟨rfl, by decide, by decide, by decide⟩
abbrev rm4_become : Room := { frames := 1, cells := 0, slots := 0, locals := 40 }
def s4_become (o0 : Nat) (o1 : Nat) (M : Mem) : Option Res := mlet (mset M o0 0 (M o1 0)) (fun M1 => mlet (mset M1 o0 1 (M1 o1 1)) (fun M2 => mlet (mrow M2 (link o0 2) (va_cpy (M2 (link o1 2)) (M2 (link o0 2)) 0 0 11)) (fun M3 => if bzAll (M3 (link o1 3)) 60 = true then mlet (mrow M3 (link o0 3) (va_cpy (M3 (link o1 3)) (M3 (link o0 3)) 0 0 60)) (fun M4 => some (0, M4)) else none)))
set_option maxRecDepth 100000 in
set_option maxHeartbeats 4000000 in
theorem b4_become {w : WE} {g : GT} (C : CT w g RX4 cX4_become rm4_become 2) (RT : RTv w g cX4_become) (o0 : Nat) (h0 : typ o0 = 4) (o1 : Nat) (h1 : typ o1 = 4) (M : Mem) : J w g (s4_become o0 o1 M) M 0 [(0, .ref (wa w o0)), (1, .ref (wa w o1))] [] := by
  rw [s4_become]
  refine J_aload_n C dX4_become_0 rfl 0 rfl ?_
  refine J_aload_n C dX4_become_1 rfl 1 rfl ?_
  refine J_geti C fk4_0 W1_44 h1 dX4_become_2 ?_
  refine J_puti C fk4_0 W1_44 fp4_0 h0 dX4_become_5 ?_
  refine J_mlet (fun M1 => ?_)
  refine J_aload_n C dX4_become_8 rfl 0 rfl ?_
  refine J_aload_n C dX4_become_9 rfl 1 rfl ?_
  refine J_geti C fk4_1 W1_48 h1 dX4_become_10 ?_
  refine J_puti C fk4_1 W1_48 fp4_1 h0 dX4_become_13 ?_
  refine J_mlet (fun M2 => ?_)
  refine J_aload_n C dX4_become_16 rfl 1 rfl ?_
  refine J_getr C fk4_2 W1_53 h1 dX4_become_17 ?_
  refine J_iconst C dX4_become_20 kci_0 ?_
  refine J_aload_n C dX4_become_21 rfl 0 rfl ?_
  refine J_getr C fk4_2 W1_53 h0 dX4_become_22 ?_
  refine J_iconst C dX4_become_25 kci_0 ?_
  refine J_bipush C dX4_become_26 kcb_11 ?_
  refine J_copy C W2_178 W2_180 W2_179 W1_15 ⟨by decide, by decide +kernel⟩ (Nat.le_of_ble_eq_true rfl) (tl_4_2 h1) (tl_4_2 h0) (by decide) (by decide) (t0 := 1) rfl rfl (by decide) (k := 11) rfl (Nat.le_of_eq (al_4_2 h1).symm) (Nat.le_of_eq (al_4_2 h0).symm) (fun _ _ => rfl) dX4_become_28 ?_
  refine J_mlet (fun M3 => ?_)
  refine J_aload_n C dX4_become_31 rfl 1 rfl ?_
  refine J_getr C fk4_3 W1_54 h1 dX4_become_32 ?_
  refine J_iconst C dX4_become_35 kci_0 ?_
  refine J_aload_n C dX4_become_36 rfl 0 rfl ?_
  refine J_getr C fk4_3 W1_54 h0 dX4_become_37 ?_
  refine J_iconst C dX4_become_40 kci_0 ?_
  refine J_bipush C dX4_become_41 kcb_60 ?_
  refine J_ite (fun hf5 => ?_) (fun _ => J_none)
  refine J_copy C W2_178 W2_180 W2_179 W1_15 ⟨by decide, by decide +kernel⟩ (Nat.le_of_ble_eq_true rfl) (tl_4_3 h1) (tl_4_3 h0) (by decide) (by decide) (t0 := 2) rfl rfl (by decide) (k := 60) rfl (Nat.le_of_eq (al_4_3 h1).symm) (Nat.le_of_eq (al_4_3 h0).symm) (fun i hi => bz_fits (bzAll_spec hf5 i hi)) dX4_become_43 ?_
  refine J_mlet (fun M4 => ?_)
  exact J_vret C RT dX4_become_46
theorem c4_become (l : Launch) (w : WE) (o0 : Nat) (h0 : typ o0 = 4) (o1 : Nat) (h1 : typ o1 = 4) (M : Mem) : MV l w yX4_become (wz yX4_become cX4_become 2 none) rm4_become [.ref (wa w o0), .ref (wa w o1)] (s4_become o0 o1 M) M :=
  mv_of_J (own := RX4) rfl (by decide) rfl rfl (Nat.le_of_ble_eq_true rfl) (fun _ _ C RT => b4_become C RT o0 h0 o1 h1 M)
theorem hdX4_become : yX4_become.cls = RX4 ∧ yOK yX4_become 1 := ⟨rfl, by decide, by decide, by decide⟩
abbrev rm3_become : Room := { frames := 0, cells := 0, slots := 0, locals := 0 }
def s3_become (o0 : Nat) (o1 : Nat) (M : Mem) : Option Res := mlet (mset M o0 0 (M o1 0)) (fun M1 => mlet (mset M1 o0 1 (M1 o1 1)) (fun M2 => mlet (mset M2 o0 2 (M2 o1 2)) (fun M3 => some (0, M3))))
set_option maxRecDepth 100000 in
set_option maxHeartbeats 4000000 in
theorem b3_become {w : WE} {g : GT} (C : CT w g RX3 cX3_become rm3_become 2) (RT : RTv w g cX3_become) (o0 : Nat) (h0 : typ o0 = 3) (o1 : Nat) (h1 : typ o1 = 3) (M : Mem) : J w g (s3_become o0 o1 M) M 0 [(0, .ref (wa w o0)), (1, .ref (wa w o1))] [] := by
  rw [s3_become]
  refine J_aload_n C dX3_become_0 rfl 0 rfl ?_
  refine J_aload_n C dX3_become_1 rfl 1 rfl ?_
  refine J_geti C fk3_0 W1_72 h1 dX3_become_2 ?_
  refine J_puti C fk3_0 W1_72 fp3_0 h0 dX3_become_5 ?_
  refine J_mlet (fun M1 => ?_)
  refine J_aload_n C dX3_become_8 rfl 0 rfl ?_
  refine J_aload_n C dX3_become_9 rfl 1 rfl ?_
  refine J_geti C fk3_1 W1_77 h1 dX3_become_10 ?_
  refine J_puti C fk3_1 W1_77 fp3_1 h0 dX3_become_13 ?_
  refine J_mlet (fun M2 => ?_)
  refine J_aload_n C dX3_become_16 rfl 0 rfl ?_
  refine J_aload_n C dX3_become_17 rfl 1 rfl ?_
  refine J_geti C fk3_2 W1_81 h1 dX3_become_18 ?_
  refine J_puti C fk3_2 W1_81 fp3_2 h0 dX3_become_21 ?_
  refine J_mlet (fun M3 => ?_)
  exact J_vret C RT dX3_become_24
theorem c3_become (l : Launch) (w : WE) (o0 : Nat) (h0 : typ o0 = 3) (o1 : Nat) (h1 : typ o1 = 3) (M : Mem) : MV l w yX3_become (wz yX3_become cX3_become 2 none) rm3_become [.ref (wa w o0), .ref (wa w o1)] (s3_become o0 o1 M) M :=
  mv_of_J (own := RX3) rfl (by decide) rfl rfl (Nat.le_of_ble_eq_true rfl) (fun _ _ C RT => b3_become C RT o0 h0 o1 h1 M)
theorem hdX3_become : yX3_become.cls = RX3 ∧ yOK yX3_become 1 := ⟨rfl, by decide, by decide, by decide⟩
abbrev rm7_become : Room := { frames := 0, cells := 0, slots := 0, locals := 0 }
def s7_become (o0 : Nat) (o1 : Nat) (M : Mem) : Option Res := mlet (mset M o0 0 (M o1 0)) (fun M1 => mlet (mset M1 o0 1 (M1 o1 1)) (fun M2 => if bz (M2 o1 2) then mlet (mset M2 o0 2 (M2 o1 2)) (fun M3 => mlet (mset M3 o0 3 (M3 o1 3)) (fun M4 => mlet (mset M4 o0 4 (M4 o1 4)) (fun M5 => mlet (mset M5 o0 5 (M5 o1 5)) (fun M6 => mlet (mset M6 o0 6 (M6 o1 6)) (fun M7 => mlet (mset M7 o0 7 (M7 o1 7)) (fun M8 => mlet (mset M8 o0 8 (M8 o1 8)) (fun M9 => some (0, M9)))))))) else none))
set_option maxRecDepth 100000 in
set_option maxHeartbeats 4000000 in
theorem b7_become {w : WE} {g : GT} (C : CT w g RX7 cX7_become rm7_become 2) (RT : RTv w g cX7_become) (o0 : Nat) (h0 : typ o0 = 7) (o1 : Nat) (h1 : typ o1 = 7) (M : Mem) : J w g (s7_become o0 o1 M) M 0 [(0, .ref (wa w o0)), (1, .ref (wa w o1))] [] := by
  rw [s7_become]
  refine J_aload_n C dX7_become_0 rfl 0 rfl ?_
  refine J_aload_n C dX7_become_1 rfl 1 rfl ?_
  refine J_geti C fk7_0 W1_120 h1 dX7_become_2 ?_
  refine J_puti C fk7_0 W1_120 fp7_0 h0 dX7_become_5 ?_
  refine J_mlet (fun M1 => ?_)
  refine J_aload_n C dX7_become_8 rfl 0 rfl ?_
  refine J_aload_n C dX7_become_9 rfl 1 rfl ?_
  refine J_geti C fk7_1 W1_125 h1 dX7_become_10 ?_
  refine J_puti C fk7_1 W1_125 fp7_1 h0 dX7_become_13 ?_
  refine J_mlet (fun M2 => ?_)
  refine J_aload_n C dX7_become_16 rfl 0 rfl ?_
  refine J_aload_n C dX7_become_17 rfl 1 rfl ?_
  refine J_geti C fk7_2 W1_127 h1 dX7_become_18 ?_
  refine J_putz C fk7_2 W1_127 fp7_2 h0 dX7_become_21 ?_
  refine J_mlet (fun M3 => ?_)
  refine J_aload_n C dX7_become_24 rfl 0 rfl ?_
  refine J_aload_n C dX7_become_25 rfl 1 rfl ?_
  refine J_geti C fk7_3 W1_130 h1 dX7_become_26 ?_
  refine J_puti C fk7_3 W1_130 fp7_3 h0 dX7_become_29 ?_
  refine J_mlet (fun M4 => ?_)
  refine J_aload_n C dX7_become_32 rfl 0 rfl ?_
  refine J_aload_n C dX7_become_33 rfl 1 rfl ?_
  refine J_geti C fk7_4 W1_132 h1 dX7_become_34 ?_
  refine J_puti C fk7_4 W1_132 fp7_4 h0 dX7_become_37 ?_
  refine J_mlet (fun M5 => ?_)
  refine J_aload_n C dX7_become_40 rfl 0 rfl ?_
  refine J_aload_n C dX7_become_41 rfl 1 rfl ?_
  refine J_geti C fk7_5 W1_134 h1 dX7_become_42 ?_
  refine J_puti C fk7_5 W1_134 fp7_5 h0 dX7_become_45 ?_
  refine J_mlet (fun M6 => ?_)
  refine J_aload_n C dX7_become_48 rfl 0 rfl ?_
  refine J_aload_n C dX7_become_49 rfl 1 rfl ?_
  refine J_geti C fk7_6 W1_138 h1 dX7_become_50 ?_
  refine J_puti C fk7_6 W1_138 fp7_6 h0 dX7_become_53 ?_
  refine J_mlet (fun M7 => ?_)
  refine J_aload_n C dX7_become_56 rfl 0 rfl ?_
  refine J_aload_n C dX7_become_57 rfl 1 rfl ?_
  refine J_geti C fk7_7 W1_141 h1 dX7_become_58 ?_
  refine J_puti C fk7_7 W1_141 fp7_7 h0 dX7_become_61 ?_
  refine J_mlet (fun M8 => ?_)
  refine J_aload_n C dX7_become_64 rfl 0 rfl ?_
  refine J_aload_n C dX7_become_65 rfl 1 rfl ?_
  refine J_geti C fk7_8 W1_142 h1 dX7_become_66 ?_
  refine J_puti C fk7_8 W1_142 fp7_8 h0 dX7_become_69 ?_
  refine J_mlet (fun M9 => ?_)
  exact J_vret C RT dX7_become_72
theorem c7_become (l : Launch) (w : WE) (o0 : Nat) (h0 : typ o0 = 7) (o1 : Nat) (h1 : typ o1 = 7) (M : Mem) : MV l w yX7_become (wz yX7_become cX7_become 2 none) rm7_become [.ref (wa w o0), .ref (wa w o1)] (s7_become o0 o1 M) M :=
  mv_of_J (own := RX7) rfl (by decide) rfl rfl (Nat.le_of_ble_eq_true rfl) (fun _ _ C RT => b7_become C RT o0 h0 o1 h1 M)
theorem hdX7_become : yX7_become.cls = RX7 ∧ yOK yX7_become 1 := ⟨rfl, by decide, by decide, by decide⟩
abbrev rm2_become : Room := { frames := 2, cells := 0, slots := 0, locals := 61 }
def s2_become_67 (n : Nat) (o0 : Nat) (o1 : Nat) (M : Mem) : Option Res := if bzAll (M (link o1 4)) 60 = true then mlet (mrow M (link o0 4) (va_cpy (M (link o1 4)) (M (link o0 4)) 0 0 60)) (fun M6 => mlet (mset M6 o0 6 (M6 o1 6)) (fun M8 => mlet (mset M8 o0 7 (M8 o1 7)) (fun M9 => mlet (mset M9 o0 8 (M9 o1 8)) (fun M10 => if bz (M10 o1 9) then mlet (mset M10 o0 9 (M10 o1 9)) (fun M11 => some (0, M11)) else none)))) else none
set_option maxRecDepth 100000 in
set_option maxHeartbeats 4000000 in
theorem b2_become_67 {w : WE} {g : GT} (C : CT w g RX2 cX2_become rm2_become 3) (RT : RTv w g cX2_become) (n : Nat) (o0 : Nat) (h0 : typ o0 = 2) (o1 : Nat) (h1 : typ o1 = 2) (M : Mem) : J w g (s2_become_67 n o0 o1 M) M 67 [(0, .ref (wa w o0)), (1, .ref (wa w o1))] [] := by
  rw [s2_become_67]
  refine J_aload_n C dX2_become_67 rfl 1 rfl ?_
  refine J_getr C fk2_4 W1_178 h1 dX2_become_68 ?_
  refine J_iconst C dX2_become_71 kci_0 ?_
  refine J_aload_n C dX2_become_72 rfl 0 rfl ?_
  refine J_getr C fk2_4 W1_178 h0 dX2_become_73 ?_
  refine J_iconst C dX2_become_76 kci_0 ?_
  refine J_bipush C dX2_become_77 kcb_60 ?_
  refine J_ite (fun hf7 => ?_) (fun _ => J_none)
  refine J_copy C W2_189 W2_180 W2_179 W1_15 ⟨by decide, by decide +kernel⟩ (Nat.le_of_ble_eq_true rfl) (tl_2_4 h1) (tl_2_4 h0) (by decide) (by decide) (t0 := 2) rfl rfl (by decide) (k := 60) rfl (Nat.le_of_eq (al_2_4 h1).symm) (Nat.le_of_eq (al_2_4 h0).symm) (fun i hi => bz_fits (bzAll_spec hf7 i hi)) dX2_become_79 ?_
  refine J_mlet (fun M6 => ?_)
  refine J_aload_n C dX2_become_82 rfl 0 rfl ?_
  refine J_aload_n C dX2_become_83 rfl 1 rfl ?_
  refine J_geti C fk2_6 W1_183 h1 dX2_become_84 ?_
  refine J_puti C fk2_6 W1_183 fp2_6 h0 dX2_become_87 ?_
  refine J_mlet (fun M8 => ?_)
  refine J_aload_n C dX2_become_90 rfl 0 rfl ?_
  refine J_aload_n C dX2_become_91 rfl 1 rfl ?_
  refine J_geti C fk2_7 W1_187 h1 dX2_become_92 ?_
  refine J_puti C fk2_7 W1_187 fp2_7 h0 dX2_become_95 ?_
  refine J_mlet (fun M9 => ?_)
  refine J_aload_n C dX2_become_98 rfl 0 rfl ?_
  refine J_aload_n C dX2_become_99 rfl 1 rfl ?_
  refine J_geti C fk2_8 W1_189 h1 dX2_become_100 ?_
  refine J_puti C fk2_8 W1_189 fp2_8 h0 dX2_become_103 ?_
  refine J_mlet (fun M10 => ?_)
  refine J_aload_n C dX2_become_106 rfl 0 rfl ?_
  refine J_aload_n C dX2_become_107 rfl 1 rfl ?_
  refine J_geti C fk2_9 W1_191 h1 dX2_become_108 ?_
  refine J_putz C fk2_9 W1_191 fp2_9 h0 dX2_become_111 ?_
  refine J_mlet (fun M11 => ?_)
  exact J_vret C RT dX2_become_114
def s2_become_32 (n : Nat) (o0 : Nat) (o1 : Nat) : Nat → Int32 → Mem → Option Res
  | 0, _, _ => none
  | f + 1, x2, M => if (M o0 5) ≤ x2 then (s2_become_67 n o0 o1 M) else (if (12 : Int32) ≤ x2 then (s2_become_67 n o0 o1 M) else (if inB x2 (alen (link o0 3)) then if inB x2 (alen (link o1 3)) then cb (s7_become (link (link o0 3) x2.toNatClampNeg) (link (link o1 3) x2.toNatClampNeg) M) (fun _ M14 => ilet (x2 + 1) (fun v16 => s2_become_32 n o0 o1 f v16 M14)) else none else none))
set_option maxRecDepth 100000 in
set_option maxHeartbeats 4000000 in
theorem b2_become_32 {w : WE} {g : GT} (C : CT w g RX2 cX2_become rm2_become 3) (RT : RTv w g cX2_become) (n : Nat) (o0 : Nat) (h0 : typ o0 = 2) (o1 : Nat) (h1 : typ o1 = 2) : ∀ (f : Nat) (x2 : Int32) (M : Mem), J w g (s2_become_32 n o0 o1 f x2 M) M 32 [(0, .ref (wa w o0)), (1, .ref (wa w o1)), (2, .int x2)] [] := by
  intro f
  induction f with
  | zero =>
    intro x2 M
    rw [s2_become_32]
    exact J_none
  | succ f ih =>
    intro x2 M
    rw [s2_become_32]
    refine J_iload_n C dX2_become_32 rfl 2 rfl ?_
    refine J_aload_n C dX2_become_33 rfl 0 rfl ?_
    refine J_geti C fk2_5 W1_179 h0 dX2_become_34 ?_
    refine J_icmp_ge (tgt := 67) C dX2_become_37 (by decide) (fun _ => ?_) (fun _ => ?_)
    · refine J_lv [0, 1] rfl ?_
      exact b2_become_67 C RT n o0 h0 o1 h1 M
    · refine J_iload_n C dX2_become_40 rfl 2 rfl ?_
      refine J_bipush C dX2_become_41 kcb_12 ?_
      refine J_icmp_ge (tgt := 67) C dX2_become_43 (by decide) (fun _ => ?_) (fun _ => ?_)
      · refine J_lv [0, 1] rfl ?_
        exact b2_become_67 C RT n o0 h0 o1 h1 M
      · refine J_aload_n C dX2_become_46 rfl 0 rfl ?_
        refine J_getr C fk2_3 W1_174 h0 dX2_become_47 ?_
        refine J_iload_n C dX2_become_50 rfl 2 rfl ?_
        refine J_aaload C (tl_2_3 h0) dX2_become_51 (fun hb12 => ?_)
        refine J_aload_n C dX2_become_52 rfl 1 rfl ?_
        refine J_getr C fk2_3 W1_174 h1 dX2_become_53 ?_
        refine J_iload_n C dX2_become_56 rfl 2 rfl ?_
        refine J_aaload C (tl_2_3 h1) dX2_become_57 (fun hb13 => ?_)
        refine J_cvv (As := [.ref (wa w (link (link o1 3) x2.toNatClampNeg))]) C (c7_become (gl g) w (link (link o0 3) x2.toNatClampNeg) (t_wk (tl_2_3 h0) hb12) (link (link o1 3) x2.toNatClampNeg) (t_wk (tl_2_3 h1) hb13) M) (gd_v W2_185 W2_186 W2_187 W1_7 W2_188) rfl (by decide) (hdX7_become) (t_wk (tl_2_3 h0) hb12) (by decide) (cl_7) rfl (Nat.le_of_ble_eq_true rfl) dX2_become_58 rfl (fun r15 M14 => ?_)
        refine J_iinc (lw := fun v16 => [(2, .int v16), (0, .ref (wa w o0)), (1, .ref (wa w o1))]) (X := x2 + 1) C dX2_become_61 (q := 2) rfl (by rw [kci_1]) (by decide) (fun _ => rfl) (fun v16 => ?_)
        refine J_goto (tgt := 32) C dX2_become_64 (by decide) ?_
        refine J_lv [1, 2, 0] rfl ?_
        exact ih v16 M14
def s2_become (n : Nat) (o0 : Nat) (o1 : Nat) (M : Mem) : Option Res := cb (s4_become (link o0 0) (link o1 0) M) (fun _ M1 => cb (s3_become (link o0 1) (link o1 1) M1) (fun _ M3 => mlet (mset M3 o0 5 (M3 o1 5)) (fun M5 => s2_become_32 n o0 o1 n (0 : Int32) M5)))
set_option maxRecDepth 100000 in
set_option maxHeartbeats 4000000 in
theorem b2_become {w : WE} {g : GT} (C : CT w g RX2 cX2_become rm2_become 3) (RT : RTv w g cX2_become) (n : Nat) (o0 : Nat) (h0 : typ o0 = 2) (o1 : Nat) (h1 : typ o1 = 2) (M : Mem) : J w g (s2_become n o0 o1 M) M 0 [(0, .ref (wa w o0)), (1, .ref (wa w o1))] [] := by
  rw [s2_become]
  refine J_aload_n C dX2_become_0 rfl 0 rfl ?_
  refine J_getr C fk2_0 W1_162 h0 dX2_become_1 ?_
  refine J_aload_n C dX2_become_4 rfl 1 rfl ?_
  refine J_getr C fk2_0 W1_162 h1 dX2_become_5 ?_
  refine J_cvv (As := [.ref (wa w (link o1 0))]) C (c4_become (gl g) w (link o0 0) (tl_2_0 h0) (link o1 0) (tl_2_0 h1) M) (gd_v W2_174 W2_175 W2_176 W1_4 W2_177) rfl (by decide) (hdX4_become) (tl_2_0 h0) (by decide) (cl_4) rfl (Nat.le_of_ble_eq_true rfl) dX2_become_8 rfl (fun r2 M1 => ?_)
  refine J_aload_n C dX2_become_11 rfl 0 rfl ?_
  refine J_getr C fk2_1 W1_167 h0 dX2_become_12 ?_
  refine J_aload_n C dX2_become_15 rfl 1 rfl ?_
  refine J_getr C fk2_1 W1_167 h1 dX2_become_16 ?_
  refine J_cvv (As := [.ref (wa w (link o1 1))]) C (c3_become (gl g) w (link o0 1) (tl_2_1 h0) (link o1 1) (tl_2_1 h1) M1) (gd_v W2_181 W2_182 W2_183 W1_5 W2_184) rfl (by decide) (hdX3_become) (tl_2_1 h0) (by decide) (cl_3) rfl (Nat.le_of_ble_eq_true rfl) dX2_become_19 rfl (fun r4 M3 => ?_)
  refine J_aload_n C dX2_become_22 rfl 0 rfl ?_
  refine J_aload_n C dX2_become_23 rfl 1 rfl ?_
  refine J_geti C fk2_5 W1_179 h1 dX2_become_24 ?_
  refine J_puti C fk2_5 W1_179 fp2_5 h0 dX2_become_27 ?_
  refine J_mlet (fun M5 => ?_)
  refine J_iconst C dX2_become_30 kci_0 ?_
  refine J_istore_n (lv' := [(2, .int (0 : Int32)), (0, .ref (wa w o0)), (1, .ref (wa w o1))]) C dX2_become_31 rfl (by decide) rfl ?_
  refine J_lv [1, 2, 0] rfl ?_
  exact b2_become_32 C RT n o0 h0 o1 h1 n (0 : Int32) M5
theorem c2_become (l : Launch) (w : WE) (n : Nat) (o0 : Nat) (h0 : typ o0 = 2) (o1 : Nat) (h1 : typ o1 = 2) (M : Mem) : MV l w yX2_become (wz yX2_become cX2_become 3 none) rm2_become [.ref (wa w o0), .ref (wa w o1)] (s2_become n o0 o1 M) M :=
  mv_of_J (own := RX2) rfl (by decide) rfl rfl (Nat.le_of_ble_eq_true rfl) (fun _ _ C RT => b2_become C RT n o0 h0 o1 h1 M)
theorem hdX2_become : yX2_become.cls = RX2 ∧ yOK yX2_become 1 := ⟨rfl, by decide, by decide, by decide⟩
abbrev rm8_whyNotWithin : Room := { frames := 0, cells := 0, slots := 0, locals := 0 }
def s8_whyNotWithin (x0 : Int32) (x1 : Int32) (x2 : Int32) (M : Mem) : Option Res := if x1 ≤ x0 then (if x0 ≤ x2 then (some ((0 : Int32), M)) else (some ((6 : Int32), M))) else (some ((4 : Int32), M))
set_option maxRecDepth 100000 in
set_option maxHeartbeats 4000000 in
theorem b8_whyNotWithin {w : WE} {g : GT} (C : CT w g RX8 cX8_whyNotWithin rm8_whyNotWithin 3) (RT : RTi w g cX8_whyNotWithin .int) (x0 : Int32) (x1 : Int32) (x2 : Int32) (M : Mem) : J w g (s8_whyNotWithin x0 x1 x2 M) M 0 [(0, .int x0), (1, .int x1), (2, .int x2)] [] := by
  rw [s8_whyNotWithin]
  refine J_iload_n C dX8_whyNotWithin_0 rfl 0 rfl ?_
  refine J_iload_n C dX8_whyNotWithin_1 rfl 1 rfl ?_
  refine J_icmp_ge (tgt := 7) C dX8_whyNotWithin_2 (by decide) (fun _ => ?_) (fun _ => ?_)
  · refine J_iload_n C dX8_whyNotWithin_7 rfl 0 rfl ?_
    refine J_iload_n C dX8_whyNotWithin_8 rfl 2 rfl ?_
    refine J_icmp_le (tgt := 17) C dX8_whyNotWithin_9 (by decide) (fun _ => ?_) (fun _ => ?_)
    · refine J_iconst C dX8_whyNotWithin_17 kci_0 ?_
      exact J_iret C RT rfl dX8_whyNotWithin_18
    · refine J_bipush C dX8_whyNotWithin_12 kcb_6 ?_
      refine J_goto (tgt := 18) C dX8_whyNotWithin_14 (by decide) ?_
      exact J_iret C RT rfl dX8_whyNotWithin_18
  · refine J_iconst C dX8_whyNotWithin_5 kci_4 ?_
    exact J_iret C RT rfl dX8_whyNotWithin_6
theorem c8_whyNotWithin (l : Launch) (w : WE) (x0 : Int32) (x1 : Int32) (x2 : Int32) (M : Mem) : MC l w yX8_whyNotWithin (wz yX8_whyNotWithin cX8_whyNotWithin 3 (some .int)) rm8_whyNotWithin [.int x0, .int x1, .int x2] (s8_whyNotWithin x0 x1 x2 M) M :=
  mc_of_J (own := RX8) rfl (by decide) rfl rfl (Nat.le_of_ble_eq_true rfl) (fun _ _ C RT => b8_whyNotWithin C RT x0 x1 x2 M)
theorem hdX8_whyNotWithin : yX8_whyNotWithin.cls = RX8 ∧ yOK yX8_whyNotWithin 3 := ⟨rfl, by decide, by decide, by decide⟩
abbrev rm6_resize : Room := { frames := 1, cells := 0, slots := 0, locals := 22 }
def s6_resize_37 (n : Nat) (o0 : Nat) (o1 : Nat) (t0 : Int32) (M : Mem) : Option Res := if t0 = 0 then (if bz t0 then some (t0, M) else none) else (if inB (0 : Int32) (alen (link o0 1)) then mlet (mset M (link o1 0) 0 (M (link o0 1) (0 : Int32).toNatClampNeg)) (fun M3 => if bz t0 then some (t0, M3) else none) else none)
set_option maxRecDepth 100000 in
set_option maxHeartbeats 4000000 in
theorem b6_resize_37 {w : WE} {g : GT} (C : CT w g RX6 cX6_resize rm6_resize 3) (RT : RTi w g cX6_resize .boolean) (n : Nat) (o0 : Nat) (h0 : typ o0 = 6) (o1 : Nat) (h1 : typ o1 = 2) (t0 : Int32) (M : Mem) : J w g (s6_resize_37 n o0 o1 t0 M) M 37 [(0, .ref (wa w o0)), (1, .ref (wa w o1))] [.int t0] := by
  rw [s6_resize_37]
  refine J_istore_n (lv' := [(2, .int t0), (0, .ref (wa w o0)), (1, .ref (wa w o1))]) C dX6_resize_37 rfl (by decide) rfl ?_
  refine J_iload_n C dX6_resize_38 rfl 0 rfl ?_
  refine J_if_eq (tgt := 55) C dX6_resize_39 (by decide) (fun _ => ?_) (fun _ => ?_)
  · refine J_iload_n C dX6_resize_55 rfl 0 rfl ?_
    exact J_zret C RT dX6_resize_56
  · refine J_aload_n C dX6_resize_42 rfl 2 rfl ?_
    refine J_getr C fk2_0 W1_166 h1 dX6_resize_43 ?_
    refine J_aload_n C dX6_resize_46 rfl 1 rfl ?_
    refine J_getr C fk6_1 W2_16 h0 dX6_resize_47 ?_
    refine J_iconst C dX6_resize_50 kci_0 ?_
    refine J_aload_ C (tl_6_1 h0) dX6_resize_51 ?_
    refine J_puti C fk4_0 W1_45 fp4_0 (tl_2_0 h1) dX6_resize_52 ?_
    refine J_mlet (fun M3 => ?_)
    refine J_iload_n C dX6_resize_55 rfl 0 rfl ?_
    exact J_zret C RT dX6_resize_56
def s6_resize_36 (n : Nat) (o0 : Nat) (o1 : Nat) (M : Mem) : Option Res := s6_resize_37 n o0 o1 (0 : Int32) M
set_option maxRecDepth 100000 in
set_option maxHeartbeats 4000000 in
theorem b6_resize_36 {w : WE} {g : GT} (C : CT w g RX6 cX6_resize rm6_resize 3) (RT : RTi w g cX6_resize .boolean) (n : Nat) (o0 : Nat) (h0 : typ o0 = 6) (o1 : Nat) (h1 : typ o1 = 2) (M : Mem) : J w g (s6_resize_36 n o0 o1 M) M 36 [(0, .ref (wa w o0)), (1, .ref (wa w o1))] [] := by
  rw [s6_resize_36]
  refine J_iconst C dX6_resize_36 kci_0 ?_
  exact b6_resize_37 C RT n o0 h0 o1 h1 (0 : Int32) M
def s6_resize (n : Nat) (o0 : Nat) (o1 : Nat) (M : Mem) : Option Res := if inB (0 : Int32) (alen (link o0 1)) then cb (s8_whyNotWithin (M (link o0 1) (0 : Int32).toNatClampNeg) (4 : Int32) (60 : Int32) M) (fun r2 M1 => if r2 = 0 then (if (M1 (link o1 0) 1) = 0 then (if (M1 o1 5) = 0 then (s6_resize_37 n o0 o1 (1 : Int32) M1) else (s6_resize_36 n o0 o1 M1)) else (s6_resize_36 n o0 o1 M1)) else (s6_resize_36 n o0 o1 M1)) else none
set_option maxRecDepth 100000 in
set_option maxHeartbeats 4000000 in
theorem b6_resize {w : WE} {g : GT} (C : CT w g RX6 cX6_resize rm6_resize 3) (RT : RTi w g cX6_resize .boolean) (n : Nat) (o0 : Nat) (h0 : typ o0 = 6) (o1 : Nat) (h1 : typ o1 = 2) (M : Mem) : J w g (s6_resize n o0 o1 M) M 0 [(0, .ref (wa w o0)), (1, .ref (wa w o1))] [] := by
  rw [s6_resize]
  refine J_aload_n C dX6_resize_0 rfl 0 rfl ?_
  refine J_getr C fk6_1 W2_16 h0 dX6_resize_1 ?_
  refine J_iconst C dX6_resize_4 kci_0 ?_
  refine J_aload_ C (tl_6_1 h0) dX6_resize_5 ?_
  refine J_iconst C dX6_resize_6 kci_4 ?_
  refine J_bipush C dX6_resize_7 kcb_60 ?_
  refine J_cni (As := [.int (M (link o0 1) (0 : Int32).toNatClampNeg), .int (4 : Int32), .int (60 : Int32)]) (dm := 0) C (c8_whyNotWithin (gl g) w (M (link o0 1) (0 : Int32).toNatClampNeg) (4 : Int32) (60 : Int32) M) (gd_z W2_204) rfl (by decide) (hdX8_whyNotWithin.2) rfl (by decide) W1_1 W2_203 rfl (Nat.le_of_ble_eq_true rfl) dX6_resize_9 rfl (fun r2 M1 => ?_)
  refine J_if_ne (tgt := 36) C dX6_resize_12 (by decide) (fun _ => ?_) (fun _ => ?_)
  · exact b6_resize_36 C RT n o0 h0 o1 h1 M1
  · refine J_aload_n C dX6_resize_15 rfl 1 rfl ?_
    refine J_getr C fk2_0 W1_166 h1 dX6_resize_16 ?_
    refine J_geti C fk4_1 W1_51 (tl_2_0 h1) dX6_resize_19 ?_
    refine J_if_ne (tgt := 36) C dX6_resize_22 (by decide) (fun _ => ?_) (fun _ => ?_)
    · exact b6_resize_36 C RT n o0 h0 o1 h1 M1
    · refine J_aload_n C dX6_resize_25 rfl 1 rfl ?_
      refine J_geti C fk2_5 W1_181 h1 dX6_resize_26 ?_
      refine J_if_ne (tgt := 36) C dX6_resize_29 (by decide) (fun _ => ?_) (fun _ => ?_)
      · exact b6_resize_36 C RT n o0 h0 o1 h1 M1
      · refine J_iconst C dX6_resize_32 kci_1 ?_
        refine J_goto (tgt := 37) C dX6_resize_33 (by decide) ?_
        exact b6_resize_37 C RT n o0 h0 o1 h1 (1 : Int32) M1
theorem c6_resize (l : Launch) (w : WE) (n : Nat) (o0 : Nat) (h0 : typ o0 = 6) (o1 : Nat) (h1 : typ o1 = 2) (M : Mem) : MC l w yX6_resize (wz yX6_resize cX6_resize 3 (some .boolean)) rm6_resize [.ref (wa w o0), .ref (wa w o1)] (s6_resize n o0 o1 M) M :=
  mc_of_J (own := RX6) rfl (by decide) rfl rfl (Nat.le_of_ble_eq_true rfl) (fun _ _ C RT => b6_resize C RT n o0 h0 o1 h1 M)
theorem hdX6_resize : yX6_resize.cls = RX6 ∧ yOK yX6_resize 1 := ⟨rfl, by decide, by decide, by decide⟩
abbrev rm4_isPlace : Room := { frames := 0, cells := 0, slots := 0, locals := 0 }
def s4_isPlace (o0 : Nat) (x1 : Int32) (M : Mem) : Option Res := if x1 < 0 then (some ((0 : Int32), M)) else (if (M o0 0) ≤ x1 then (some ((0 : Int32), M)) else (some ((1 : Int32), M)))
set_option maxRecDepth 100000 in
set_option maxHeartbeats 4000000 in
theorem b4_isPlace {w : WE} {g : GT} (C : CT w g RX4 cX4_isPlace rm4_isPlace 2) (RT : RTi w g cX4_isPlace .boolean) (o0 : Nat) (h0 : typ o0 = 4) (x1 : Int32) (M : Mem) : J w g (s4_isPlace o0 x1 M) M 0 [(0, .ref (wa w o0)), (1, .int x1)] [] := by
  rw [s4_isPlace]
  refine J_iload_n C dX4_isPlace_0 rfl 1 rfl ?_
  refine J_if_lt (tgt := 16) C dX4_isPlace_1 (by decide) (fun _ => ?_) (fun _ => ?_)
  · refine J_iconst C dX4_isPlace_16 kci_0 ?_
    exact J_iret C RT (by decide) dX4_isPlace_17
  · refine J_iload_n C dX4_isPlace_4 rfl 1 rfl ?_
    refine J_aload_n C dX4_isPlace_5 rfl 0 rfl ?_
    refine J_geti C fk4_0 W1_44 h0 dX4_isPlace_6 ?_
    refine J_icmp_ge (tgt := 16) C dX4_isPlace_9 (by decide) (fun _ => ?_) (fun _ => ?_)
    · refine J_iconst C dX4_isPlace_16 kci_0 ?_
      exact J_iret C RT (by decide) dX4_isPlace_17
    · refine J_iconst C dX4_isPlace_12 kci_1 ?_
      refine J_goto (tgt := 17) C dX4_isPlace_13 (by decide) ?_
      exact J_iret C RT (by decide) dX4_isPlace_17
theorem c4_isPlace (l : Launch) (w : WE) (o0 : Nat) (h0 : typ o0 = 4) (x1 : Int32) (M : Mem) : MC l w yX4_isPlace (wz yX4_isPlace cX4_isPlace 2 (some .boolean)) rm4_isPlace [.ref (wa w o0), .int x1] (s4_isPlace o0 x1 M) M :=
  mc_of_J (own := RX4) rfl (by decide) rfl rfl (Nat.le_of_ble_eq_true rfl) (fun _ _ C RT => b4_isPlace C RT o0 h0 x1 M)
theorem hdX4_isPlace : yX4_isPlace.cls = RX4 ∧ yOK yX4_isPlace 1 := ⟨rfl, by decide, by decide, by decide⟩
abbrev rm4_hasChair : Room := { frames := 0, cells := 0, slots := 0, locals := 0 }
def s4_hasChair (o0 : Nat) (x1 : Int32) (M : Mem) : Option Res := if x1 < 0 then (some ((0 : Int32), M)) else (if (60 : Int32) ≤ x1 then (some ((0 : Int32), M)) else (if inB x1 (alen (link o0 3)) then if (M (link o0 3) x1.toNatClampNeg) = 0 then (some ((0 : Int32), M)) else (some ((1 : Int32), M)) else none))
set_option maxRecDepth 100000 in
set_option maxHeartbeats 4000000 in
theorem b4_hasChair {w : WE} {g : GT} (C : CT w g RX4 cX4_hasChair rm4_hasChair 2) (RT : RTi w g cX4_hasChair .boolean) (o0 : Nat) (h0 : typ o0 = 4) (x1 : Int32) (M : Mem) : J w g (s4_hasChair o0 x1 M) M 0 [(0, .ref (wa w o0)), (1, .int x1)] [] := by
  rw [s4_hasChair]
  refine J_iload_n C dX4_hasChair_0 rfl 1 rfl ?_
  refine J_if_lt (tgt := 23) C dX4_hasChair_1 (by decide) (fun _ => ?_) (fun _ => ?_)
  · refine J_iconst C dX4_hasChair_23 kci_0 ?_
    exact J_iret C RT (by decide) dX4_hasChair_24
  · refine J_iload_n C dX4_hasChair_4 rfl 1 rfl ?_
    refine J_bipush C dX4_hasChair_5 kcb_60 ?_
    refine J_icmp_ge (tgt := 23) C dX4_hasChair_7 (by decide) (fun _ => ?_) (fun _ => ?_)
    · refine J_iconst C dX4_hasChair_23 kci_0 ?_
      exact J_iret C RT (by decide) dX4_hasChair_24
    · refine J_aload_n C dX4_hasChair_10 rfl 0 rfl ?_
      refine J_getr C fk4_3 W1_54 h0 dX4_hasChair_11 ?_
      refine J_iload_n C dX4_hasChair_14 rfl 1 rfl ?_
      refine J_zaload C (tl_4_3 h0) dX4_hasChair_15 ?_
      refine J_if_eq (tgt := 23) C dX4_hasChair_16 (by decide) (fun _ => ?_) (fun _ => ?_)
      · refine J_iconst C dX4_hasChair_23 kci_0 ?_
        exact J_iret C RT (by decide) dX4_hasChair_24
      · refine J_iconst C dX4_hasChair_19 kci_1 ?_
        refine J_goto (tgt := 24) C dX4_hasChair_20 (by decide) ?_
        exact J_iret C RT (by decide) dX4_hasChair_24
theorem c4_hasChair (l : Launch) (w : WE) (o0 : Nat) (h0 : typ o0 = 4) (x1 : Int32) (M : Mem) : MC l w yX4_hasChair (wz yX4_hasChair cX4_hasChair 2 (some .boolean)) rm4_hasChair [.ref (wa w o0), .int x1] (s4_hasChair o0 x1 M) M :=
  mc_of_J (own := RX4) rfl (by decide) rfl rfl (Nat.le_of_ble_eq_true rfl) (fun _ _ C RT => b4_hasChair C RT o0 h0 x1 M)
theorem hdX4_hasChair : yX4_hasChair.cls = RX4 ∧ yOK yX4_hasChair 1 := ⟨rfl, by decide, by decide, by decide⟩
abbrev rm2_whyNoChair : Room := { frames := 1, cells := 0, slots := 0, locals := 21 }
def s2_whyNoChair (o0 : Nat) (x1 : Int32) (M : Mem) : Option Res := cb (s4_isPlace (link o0 0) x1 M) (fun r2 M1 => if r2 = 0 then (some ((1 : Int32), M1)) else (cb (s4_hasChair (link o0 0) x1 M1) (fun r4 M3 => if r4 = 0 then (if (M3 (link o0 0) 1) < (11 : Int32) then (some ((0 : Int32), M3)) else (some ((6 : Int32), M3))) else (some ((3 : Int32), M3)))))
set_option maxRecDepth 100000 in
set_option maxHeartbeats 4000000 in
theorem b2_whyNoChair {w : WE} {g : GT} (C : CT w g RX2 cX2_whyNoChair rm2_whyNoChair 2) (RT : RTi w g cX2_whyNoChair .int) (o0 : Nat) (h0 : typ o0 = 2) (x1 : Int32) (M : Mem) : J w g (s2_whyNoChair o0 x1 M) M 0 [(0, .ref (wa w o0)), (1, .int x1)] [] := by
  rw [s2_whyNoChair]
  refine J_aload_n C dX2_whyNoChair_0 rfl 0 rfl ?_
  refine J_getr C fk2_0 W1_162 h0 dX2_whyNoChair_1 ?_
  refine J_iload_n C dX2_whyNoChair_4 rfl 1 rfl ?_
  refine J_cvi (As := [.int x1]) C (c4_isPlace (gl g) w (link o0 0) (tl_2_0 h0) x1 M) (gd_v W2_213 W2_214 W2_215 W1_4 W2_216) rfl (by decide) (hdX4_isPlace) (tl_2_0 h0) (by decide) (cl_4) rfl (Nat.le_of_ble_eq_true rfl) dX2_whyNoChair_5 rfl (fun r2 M1 => ?_)
  refine J_if_ne (tgt := 13) C dX2_whyNoChair_8 (by decide) (fun _ => ?_) (fun _ => ?_)
  · refine J_aload_n C dX2_whyNoChair_13 rfl 0 rfl ?_
    refine J_getr C fk2_0 W1_162 h0 dX2_whyNoChair_14 ?_
    refine J_iload_n C dX2_whyNoChair_17 rfl 1 rfl ?_
    refine J_cvi (As := [.int x1]) C (c4_hasChair (gl g) w (link o0 0) (tl_2_0 h0) x1 M1) (gd_v W2_217 W2_218 W2_219 W1_4 W2_220) rfl (by decide) (hdX4_hasChair) (tl_2_0 h0) (by decide) (cl_4) rfl (Nat.le_of_ble_eq_true rfl) dX2_whyNoChair_18 rfl (fun r4 M3 => ?_)
    refine J_if_eq (tgt := 26) C dX2_whyNoChair_21 (by decide) (fun _ => ?_) (fun _ => ?_)
    · refine J_aload_n C dX2_whyNoChair_26 rfl 0 rfl ?_
      refine J_getr C fk2_0 W1_162 h0 dX2_whyNoChair_27 ?_
      refine J_geti C fk4_1 W1_50 (tl_2_0 h0) dX2_whyNoChair_30 ?_
      refine J_bipush C dX2_whyNoChair_33 kcb_11 ?_
      refine J_icmp_lt (tgt := 43) C dX2_whyNoChair_35 (by decide) (fun _ => ?_) (fun _ => ?_)
      · refine J_iconst C dX2_whyNoChair_43 kci_0 ?_
        exact J_iret C RT rfl dX2_whyNoChair_44
      · refine J_bipush C dX2_whyNoChair_38 kcb_6 ?_
        refine J_goto (tgt := 44) C dX2_whyNoChair_40 (by decide) ?_
        exact J_iret C RT rfl dX2_whyNoChair_44
    · refine J_iconst C dX2_whyNoChair_24 kci_3 ?_
      exact J_iret C RT rfl dX2_whyNoChair_25
  · refine J_iconst C dX2_whyNoChair_11 kci_1 ?_
    exact J_iret C RT rfl dX2_whyNoChair_12
theorem c2_whyNoChair (l : Launch) (w : WE) (o0 : Nat) (h0 : typ o0 = 2) (x1 : Int32) (M : Mem) : MC l w yX2_whyNoChair (wz yX2_whyNoChair cX2_whyNoChair 2 (some .int)) rm2_whyNoChair [.ref (wa w o0), .int x1] (s2_whyNoChair o0 x1 M) M :=
  mc_of_J (own := RX2) rfl (by decide) rfl rfl (Nat.le_of_ble_eq_true rfl) (fun _ _ C RT => b2_whyNoChair C RT o0 h0 x1 M)
theorem hdX2_whyNoChair : yX2_whyNoChair.cls = RX2 ∧ yOK yX2_whyNoChair 1 := ⟨rfl, by decide, by decide, by decide⟩
abbrev rm4_putChair : Room := { frames := 0, cells := 0, slots := 0, locals := 0 }
def s4_putChair_61 (n : Nat) (o0 : Nat) (x1 : Int32) (x2 : Int32) (M : Mem) : Option Res := if inB x2 (alen (link o0 2)) then mlet (mset M (link o0 2) x2.toNatClampNeg x1) (fun M2 => if inB x1 (alen (link o0 3)) then mlet (mset M2 (link o0 3) x1.toNatClampNeg (vp_nar .boolean (1 : Int32))) (fun M3 => mlet (mset M3 o0 1 ((M3 o0 1) + (1 : Int32))) (fun M4 => some (0, M4))) else none) else none
set_option maxRecDepth 100000 in
set_option maxHeartbeats 4000000 in
theorem b4_putChair_61 {w : WE} {g : GT} (C : CT w g RX4 cX4_putChair rm4_putChair 3) (RT : RTv w g cX4_putChair) (n : Nat) (o0 : Nat) (h0 : typ o0 = 4) (x1 : Int32) (x2 : Int32) (M : Mem) : J w g (s4_putChair_61 n o0 x1 x2 M) M 61 [(0, .ref (wa w o0)), (1, .int x1), (2, .int x2)] [] := by
  rw [s4_putChair_61]
  refine J_aload_n C dX4_putChair_61 rfl 0 rfl ?_
  refine J_getr C fk4_2 W1_53 h0 dX4_putChair_62 ?_
  refine J_iload_n C dX4_putChair_65 rfl 2 rfl ?_
  refine J_iload_n C dX4_putChair_66 rfl 1 rfl ?_
  refine J_iastore C (tl_4_2 h0) dX4_putChair_67 ?_
  refine J_mlet (fun M2 => ?_)
  refine J_aload_n C dX4_putChair_68 rfl 0 rfl ?_
  refine J_getr C fk4_3 W1_54 h0 dX4_putChair_69 ?_
  refine J_iload_n C dX4_putChair_72 rfl 1 rfl ?_
  refine J_iconst C dX4_putChair_73 kci_1 ?_
  refine J_zastore C (tl_4_3 h0) dX4_putChair_74 ?_
  refine J_mlet (fun M3 => ?_)
  refine J_aload_n C dX4_putChair_75 rfl 0 rfl ?_
  refine J_dup C rfl dX4_putChair_76 ?_
  refine J_geti C fk4_1 W1_48 h0 dX4_putChair_77 ?_
  refine J_iconst C dX4_putChair_80 kci_1 ?_
  refine J_iadd C dX4_putChair_81 ?_
  refine J_puti C fk4_1 W1_48 fp4_1 h0 dX4_putChair_82 ?_
  refine J_mlet (fun M4 => ?_)
  exact J_vret C RT dX4_putChair_85
def s4_putChair_25 (n : Nat) (o0 : Nat) (x1 : Int32) : Nat → Int32 → Mem → Option Res
  | 0, _, _ => none
  | f + 1, x2, M => if x2 ≤ 0 then (s4_putChair_61 n o0 x1 x2 M) else (if inB (x2 - (1 : Int32)) (alen (link o0 2)) then if (M (link o0 2) (x2 - (1 : Int32)).toNatClampNeg) ≤ x1 then (s4_putChair_61 n o0 x1 x2 M) else (if inB (x2 - (1 : Int32)) (alen (link o0 2)) then if inB x2 (alen (link o0 2)) then mlet (mset M (link o0 2) x2.toNatClampNeg (M (link o0 2) (x2 - (1 : Int32)).toNatClampNeg)) (fun M5 => ilet (x2 + (-1)) (fun v6 => s4_putChair_25 n o0 x1 f v6 M5)) else none else none) else none)
set_option maxRecDepth 100000 in
set_option maxHeartbeats 4000000 in
theorem b4_putChair_25 {w : WE} {g : GT} (C : CT w g RX4 cX4_putChair rm4_putChair 3) (RT : RTv w g cX4_putChair) (n : Nat) (o0 : Nat) (h0 : typ o0 = 4) (x1 : Int32) : ∀ (f : Nat) (x2 : Int32) (M : Mem), J w g (s4_putChair_25 n o0 x1 f x2 M) M 25 [(0, .ref (wa w o0)), (1, .int x1), (2, .int x2)] [] := by
  intro f
  induction f with
  | zero =>
    intro x2 M
    rw [s4_putChair_25]
    exact J_none
  | succ f ih =>
    intro x2 M
    rw [s4_putChair_25]
    refine J_iload_n C dX4_putChair_25 rfl 2 rfl ?_
    refine J_if_le (tgt := 61) C dX4_putChair_26 (by decide) (fun _ => ?_) (fun _ => ?_)
    · exact b4_putChair_61 C RT n o0 h0 x1 x2 M
    · refine J_aload_n C dX4_putChair_29 rfl 0 rfl ?_
      refine J_getr C fk4_2 W1_53 h0 dX4_putChair_30 ?_
      refine J_iload_n C dX4_putChair_33 rfl 2 rfl ?_
      refine J_iconst C dX4_putChair_34 kci_1 ?_
      refine J_isub C dX4_putChair_35 ?_
      refine J_aload_ C (tl_4_2 h0) dX4_putChair_36 ?_
      refine J_iload_n C dX4_putChair_37 rfl 1 rfl ?_
      refine J_icmp_le (tgt := 61) C dX4_putChair_38 (by decide) (fun _ => ?_) (fun _ => ?_)
      · exact b4_putChair_61 C RT n o0 h0 x1 x2 M
      · refine J_aload_n C dX4_putChair_41 rfl 0 rfl ?_
        refine J_getr C fk4_2 W1_53 h0 dX4_putChair_42 ?_
        refine J_iload_n C dX4_putChair_45 rfl 2 rfl ?_
        refine J_aload_n C dX4_putChair_46 rfl 0 rfl ?_
        refine J_getr C fk4_2 W1_53 h0 dX4_putChair_47 ?_
        refine J_iload_n C dX4_putChair_50 rfl 2 rfl ?_
        refine J_iconst C dX4_putChair_51 kci_1 ?_
        refine J_isub C dX4_putChair_52 ?_
        refine J_aload_ C (tl_4_2 h0) dX4_putChair_53 ?_
        refine J_iastore C (tl_4_2 h0) dX4_putChair_54 ?_
        refine J_mlet (fun M5 => ?_)
        refine J_iinc (lw := fun v6 => [(2, .int v6), (0, .ref (wa w o0)), (1, .int x1)]) (X := x2 + (-1)) C dX4_putChair_55 (q := 2) rfl (by rw [kci_m1]) (by decide) (fun _ => rfl) (fun v6 => ?_)
        refine J_goto (tgt := 25) C dX4_putChair_58 (by decide) ?_
        refine J_lv [1, 2, 0] rfl ?_
        exact ih v6 M5
def s4_putChair (n : Nat) (o0 : Nat) (x1 : Int32) (M : Mem) : Option Res := if (11 : Int32) ≤ (M o0 1) then (some (0, M)) else (if x1 < 0 then (some (0, M)) else (if x1 < (60 : Int32) then (ilet (M o0 1) (fun v1 => s4_putChair_25 n o0 x1 n v1 M)) else (some (0, M))))
set_option maxRecDepth 100000 in
set_option maxHeartbeats 4000000 in
theorem b4_putChair {w : WE} {g : GT} (C : CT w g RX4 cX4_putChair rm4_putChair 3) (RT : RTv w g cX4_putChair) (n : Nat) (o0 : Nat) (h0 : typ o0 = 4) (x1 : Int32) (M : Mem) : J w g (s4_putChair n o0 x1 M) M 0 [(0, .ref (wa w o0)), (1, .int x1)] [] := by
  rw [s4_putChair]
  refine J_aload_n C dX4_putChair_0 rfl 0 rfl ?_
  refine J_geti C fk4_1 W1_48 h0 dX4_putChair_1 ?_
  refine J_bipush C dX4_putChair_4 kcb_11 ?_
  refine J_icmp_ge (tgt := 19) C dX4_putChair_6 (by decide) (fun _ => ?_) (fun _ => ?_)
  · exact J_vret C RT dX4_putChair_19
  · refine J_iload_n C dX4_putChair_9 rfl 1 rfl ?_
    refine J_if_lt (tgt := 19) C dX4_putChair_10 (by decide) (fun _ => ?_) (fun _ => ?_)
    · exact J_vret C RT dX4_putChair_19
    · refine J_iload_n C dX4_putChair_13 rfl 1 rfl ?_
      refine J_bipush C dX4_putChair_14 kcb_60 ?_
      refine J_icmp_lt (tgt := 20) C dX4_putChair_16 (by decide) (fun _ => ?_) (fun _ => ?_)
      · refine J_aload_n C dX4_putChair_20 rfl 0 rfl ?_
        refine J_geti C fk4_1 W1_48 h0 dX4_putChair_21 ?_
        refine J_ilet (fun v1 => ?_)
        refine J_istore_n (lv' := [(2, .int v1), (0, .ref (wa w o0)), (1, .int x1)]) C dX4_putChair_24 rfl (by decide) rfl ?_
        refine J_lv [1, 2, 0] rfl ?_
        exact b4_putChair_25 C RT n o0 h0 x1 n v1 M
      · exact J_vret C RT dX4_putChair_19
theorem c4_putChair (l : Launch) (w : WE) (n : Nat) (o0 : Nat) (h0 : typ o0 = 4) (x1 : Int32) (M : Mem) : MV l w yX4_putChair (wz yX4_putChair cX4_putChair 3 none) rm4_putChair [.ref (wa w o0), .int x1] (s4_putChair n o0 x1 M) M :=
  mv_of_J (own := RX4) rfl (by decide) rfl rfl (Nat.le_of_ble_eq_true rfl) (fun _ _ C RT => b4_putChair C RT n o0 h0 x1 M)
theorem hdX4_putChair : yX4_putChair.cls = RX4 ∧ yOK yX4_putChair 1 := ⟨rfl, by decide, by decide, by decide⟩
