abbrev rm9_judges : Room := { frames := 2, cells := 0, slots := 0, locals := 47 }
def s9_judges_2 (n : Nat) (o0 : Nat) (x1 : Int32) : Nat → Int32 → Mem → Option Res
  | 0, _, _ => none
  | f + 1, x2, M => if (M o0 12) ≤ x2 then (some (0, M)) else (if inB x2 (alen (link o0 4)) then if (M (link o0 4) x2.toNatClampNeg) = 0 then (ilet (x2 + 1) (fun v1 => s9_judges_2 n o0 x1 f v1 M)) else (if inB x2 (alen (link o0 33)) then if 0 ≤ (M (link o0 33) x2.toNatClampNeg) then (ilet (x2 + 1) (fun v2 => s9_judges_2 n o0 x1 f v2 M)) else (if inB x1 (alen (link o0 33)) then cb (s9_mayReach n o0 x2 (M (link o0 33) x1.toNatClampNeg) M) (fun r4 M3 => if r4 = 0 then (ilet (x2 + 1) (fun v5 => s9_judges_2 n o0 x1 f v5 M3)) else (if inB x1 (alen (link o0 33)) then cb (s9_hasteOf n o0 x2 (M3 (link o0 33) x1.toNatClampNeg) M3) (fun r7 M6 => if inB x1 (alen (link o0 33)) then cb (s9_hasteOf n o0 x1 (M6 (link o0 33) x1.toNatClampNeg) M6) (fun r9 M8 => if r7 ≤ r9 then (if inB x1 (alen (link o0 33)) then if inB x2 (alen (link o0 33)) then mlet (mset M8 (link o0 33) x2.toNatClampNeg (M8 (link o0 33) x1.toNatClampNeg)) (fun M10 => if inB x1 (alen (link o0 33)) then mlet (mset M10 (link o0 33) x1.toNatClampNeg (-1 : Int32)) (fun M11 => some (0, M11)) else none) else none else none) else (ilet (x2 + 1) (fun v12 => s9_judges_2 n o0 x1 f v12 M8))) else none) else none)) else none) else none) else none)
set_option maxRecDepth 100000 in
set_option maxHeartbeats 4000000 in
theorem b9_judges_2 {w : WE} {g : GT} (C : CT w g RX9 cX9_judges rm9_judges 3) (RT : RTv w g cX9_judges) (n : Nat) (o0 : Nat) (h0 : typ o0 = 9) (x1 : Int32) : ∀ (f : Nat) (x2 : Int32) (M : Mem), J w g (s9_judges_2 n o0 x1 f x2 M) M 2 [(0, .ref (wa w o0)), (1, .int x1), (2, .int x2)] [] := by
  intro f
  induction f with
  | zero =>
    intro x2 M
    rw [s9_judges_2]
    exact J_none
  | succ f ih =>
    intro x2 M
    rw [s9_judges_2]
    refine J_iload_n C dX9_judges_2 rfl 2 rfl ?_
    refine J_aload_n C dX9_judges_3 rfl 0 rfl ?_
    refine J_geti C fk9_12 W4_189 h0 dX9_judges_4 ?_
    refine J_icmp_ge (tgt := 96) C dX9_judges_7 (by decide) (fun _ => ?_) (fun _ => ?_)
    · exact J_vret C RT dX9_judges_96
    · refine J_aload_n C dX9_judges_10 rfl 0 rfl ?_
      refine J_getr C fk9_4 W4_181 h0 dX9_judges_11 ?_
      refine J_iload_n C dX9_judges_14 rfl 2 rfl ?_
      refine J_aload_ C (tl_9_4 h0) dX9_judges_15 ?_
      refine J_if_eq (tgt := 90) C dX9_judges_16 (by decide) (fun _ => ?_) (fun _ => ?_)
      · refine J_iinc (lw := fun v1 => [(2, .int v1), (0, .ref (wa w o0)), (1, .int x1)]) (X := x2 + 1) C dX9_judges_90 (q := 2) rfl (by rw [kci_1]) (by decide) (fun _ => rfl) (fun v1 => ?_)
        refine J_goto (tgt := 2) C dX9_judges_93 (by decide) ?_
        refine J_lv [1, 2, 0] rfl ?_
        exact ih v1 M
      · refine J_aload_n C dX9_judges_19 rfl 0 rfl ?_
        refine J_getr C fk9_33 W4_210 h0 dX9_judges_20 ?_
        refine J_iload_n C dX9_judges_23 rfl 2 rfl ?_
        refine J_aload_ C (tl_9_33 h0) dX9_judges_24 ?_
        refine J_if_ge (tgt := 90) C dX9_judges_25 (by decide) (fun _ => ?_) (fun _ => ?_)
        · refine J_iinc (lw := fun v2 => [(2, .int v2), (0, .ref (wa w o0)), (1, .int x1)]) (X := x2 + 1) C dX9_judges_90 (q := 2) rfl (by rw [kci_1]) (by decide) (fun _ => rfl) (fun v2 => ?_)
          refine J_goto (tgt := 2) C dX9_judges_93 (by decide) ?_
          refine J_lv [1, 2, 0] rfl ?_
          exact ih v2 M
        · refine J_aload_n C dX9_judges_28 rfl 0 rfl ?_
          refine J_iload_n C dX9_judges_29 rfl 2 rfl ?_
          refine J_aload_n C dX9_judges_30 rfl 0 rfl ?_
          refine J_getr C fk9_33 W4_210 h0 dX9_judges_31 ?_
          refine J_iload_n C dX9_judges_34 rfl 1 rfl ?_
          refine J_aload_ C (tl_9_33 h0) dX9_judges_35 ?_
          refine J_cvi (As := [.int x2, .int (M (link o0 33) x1.toNatClampNeg)]) C (c9_mayReach (gl g) w n o0 h0 x2 (M (link o0 33) x1.toNatClampNeg) M) (gd_v W5_232 W5_234 WP_51 W1_10 W5_235) rfl (by decide) (hdX9_mayReach) h0 (by decide) (cl_9) rfl (Nat.le_of_ble_eq_true rfl) dX9_judges_36 rfl (fun r4 M3 => ?_)
          refine J_if_eq (tgt := 90) C dX9_judges_39 (by decide) (fun _ => ?_) (fun _ => ?_)
          · refine J_iinc (lw := fun v5 => [(2, .int v5), (0, .ref (wa w o0)), (1, .int x1)]) (X := x2 + 1) C dX9_judges_90 (q := 2) rfl (by rw [kci_1]) (by decide) (fun _ => rfl) (fun v5 => ?_)
            refine J_goto (tgt := 2) C dX9_judges_93 (by decide) ?_
            refine J_lv [1, 2, 0] rfl ?_
            exact ih v5 M3
          · refine J_aload_n C dX9_judges_42 rfl 0 rfl ?_
            refine J_iload_n C dX9_judges_43 rfl 2 rfl ?_
            refine J_aload_n C dX9_judges_44 rfl 0 rfl ?_
            refine J_getr C fk9_33 W4_210 h0 dX9_judges_45 ?_
            refine J_iload_n C dX9_judges_48 rfl 1 rfl ?_
            refine J_aload_ C (tl_9_33 h0) dX9_judges_49 ?_
            refine J_cvi (As := [.int x2, .int (M3 (link o0 33) x1.toNatClampNeg)]) C (c9_hasteOf (gl g) w n o0 h0 x2 (M3 (link o0 33) x1.toNatClampNeg) M3) (gd_v W5_140 W5_142 WP_32 W1_10 W5_143) rfl (by decide) (hdX9_hasteOf) h0 (by decide) (cl_9) rfl (Nat.le_of_ble_eq_true rfl) dX9_judges_50 rfl (fun r7 M6 => ?_)
            refine J_aload_n C dX9_judges_53 rfl 0 rfl ?_
            refine J_iload_n C dX9_judges_54 rfl 1 rfl ?_
            refine J_aload_n C dX9_judges_55 rfl 0 rfl ?_
            refine J_getr C fk9_33 W4_210 h0 dX9_judges_56 ?_
            refine J_iload_n C dX9_judges_59 rfl 1 rfl ?_
            refine J_aload_ C (tl_9_33 h0) dX9_judges_60 ?_
            refine J_cvi (As := [.int x1, .int (M6 (link o0 33) x1.toNatClampNeg)]) C (c9_hasteOf (gl g) w n o0 h0 x1 (M6 (link o0 33) x1.toNatClampNeg) M6) (gd_v W5_140 W5_142 WP_32 W1_10 W5_143) rfl (by decide) (hdX9_hasteOf) h0 (by decide) (cl_9) rfl (Nat.le_of_ble_eq_true rfl) dX9_judges_61 rfl (fun r9 M8 => ?_)
            refine J_icmp_le (tgt := 70) C dX9_judges_64 (by decide) (fun _ => ?_) (fun _ => ?_)
            · refine J_aload_n C dX9_judges_70 rfl 0 rfl ?_
              refine J_getr C fk9_33 W4_210 h0 dX9_judges_71 ?_
              refine J_iload_n C dX9_judges_74 rfl 2 rfl ?_
              refine J_aload_n C dX9_judges_75 rfl 0 rfl ?_
              refine J_getr C fk9_33 W4_210 h0 dX9_judges_76 ?_
              refine J_iload_n C dX9_judges_79 rfl 1 rfl ?_
              refine J_aload_ C (tl_9_33 h0) dX9_judges_80 ?_
              refine J_iastore C (tl_9_33 h0) dX9_judges_81 ?_
              refine J_mlet (fun M10 => ?_)
              refine J_aload_n C dX9_judges_82 rfl 0 rfl ?_
              refine J_getr C fk9_33 W4_210 h0 dX9_judges_83 ?_
              refine J_iload_n C dX9_judges_86 rfl 1 rfl ?_
              refine J_iconst C dX9_judges_87 kci_m1 ?_
              refine J_iastore C (tl_9_33 h0) dX9_judges_88 ?_
              refine J_mlet (fun M11 => ?_)
              exact J_vret C RT dX9_judges_89
            · refine J_goto (tgt := 90) C dX9_judges_67 (by decide) ?_
              refine J_iinc (lw := fun v12 => [(2, .int v12), (0, .ref (wa w o0)), (1, .int x1)]) (X := x2 + 1) C dX9_judges_90 (q := 2) rfl (by rw [kci_1]) (by decide) (fun _ => rfl) (fun v12 => ?_)
              refine J_goto (tgt := 2) C dX9_judges_93 (by decide) ?_
              refine J_lv [1, 2, 0] rfl ?_
              exact ih v12 M8
def s9_judges (n : Nat) (o0 : Nat) (x1 : Int32) (M : Mem) : Option Res := s9_judges_2 n o0 x1 n (0 : Int32) M
set_option maxRecDepth 100000 in
set_option maxHeartbeats 4000000 in
theorem b9_judges {w : WE} {g : GT} (C : CT w g RX9 cX9_judges rm9_judges 3) (RT : RTv w g cX9_judges) (n : Nat) (o0 : Nat) (h0 : typ o0 = 9) (x1 : Int32) (M : Mem) : J w g (s9_judges n o0 x1 M) M 0 [(0, .ref (wa w o0)), (1, .int x1)] [] := by
  rw [s9_judges]
  refine J_iconst C dX9_judges_0 kci_0 ?_
  refine J_istore_n (lv' := [(2, .int (0 : Int32)), (0, .ref (wa w o0)), (1, .int x1)]) C dX9_judges_1 rfl (by decide) rfl ?_
  refine J_lv [1, 2, 0] rfl ?_
  exact b9_judges_2 C RT n o0 h0 x1 n (0 : Int32) M
theorem c9_judges (l : Launch) (w : WE) (n : Nat) (o0 : Nat) (h0 : typ o0 = 9) (x1 : Int32) (M : Mem) : MV l w yX9_judges (wz yX9_judges cX9_judges 3 none) rm9_judges [.ref (wa w o0), .int x1] (s9_judges n o0 x1 M) M :=
  mv_of_J (own := RX9) rfl (by decide) rfl rfl (Nat.le_of_ble_eq_true rfl) (fun _ _ C RT => b9_judges C RT n o0 h0 x1 M)
theorem hdX9_judges : yX9_judges.cls = RX9 ∧ yOK yX9_judges 1 := ⟨rfl, by decide, by decide, by decide⟩
abbrev rm9_sit : Room := { frames := 3, cells := 0, slots := 0, locals := 71 }
def s9_sit_37 (n : Nat) (o0 : Nat) : Nat → Int32 → Mem → Option Res
  | 0, _, _ => none
  | f + 1, x2, M => if (M o0 12) ≤ x2 then (some (0, M)) else (if inB x2 (alen (link o0 4)) then if (M (link o0 4) x2.toNatClampNeg) = (1 : Int32) then (if inB x2 (alen (link o0 5)) then if (M (link o0 5) x2.toNatClampNeg) = (6 : Int32) then (if inB x2 (alen (link o0 33)) then if (M (link o0 33) x2.toNatClampNeg) < 0 then (ilet (x2 + 1) (fun v3 => s9_sit_37 n o0 f v3 M)) else (cb (s9_judges n o0 x2 M) (fun _ M4 => ilet (x2 + 1) (fun v6 => s9_sit_37 n o0 f v6 M4))) else none) else (ilet (x2 + 1) (fun v2 => s9_sit_37 n o0 f v2 M)) else none) else (ilet (x2 + 1) (fun v1 => s9_sit_37 n o0 f v1 M)) else none)
set_option maxRecDepth 100000 in
set_option maxHeartbeats 4000000 in
theorem b9_sit_37 {w : WE} {g : GT} (C : CT w g RX9 cX9_sit rm9_sit 3) (RT : RTv w g cX9_sit) (n : Nat) (o0 : Nat) (h0 : typ o0 = 9) : ∀ (f : Nat) (x2 : Int32) (M : Mem), J w g (s9_sit_37 n o0 f x2 M) M 37 [(0, .ref (wa w o0)), (2, .int x2)] [] := by
  intro f
  induction f with
  | zero =>
    intro x2 M
    rw [s9_sit_37]
    exact J_none
  | succ f ih =>
    intro x2 M
    rw [s9_sit_37]
    refine J_iload_n C dX9_sit_37 rfl 1 rfl ?_
    refine J_aload_n C dX9_sit_38 rfl 0 rfl ?_
    refine J_geti C fk9_12 W4_189 h0 dX9_sit_39 ?_
    refine J_icmp_ge (tgt := 86) C dX9_sit_42 (by decide) (fun _ => ?_) (fun _ => ?_)
    · exact J_vret C RT dX9_sit_86
    · refine J_aload_n C dX9_sit_45 rfl 0 rfl ?_
      refine J_getr C fk9_4 W4_181 h0 dX9_sit_46 ?_
      refine J_iload_n C dX9_sit_49 rfl 1 rfl ?_
      refine J_aload_ C (tl_9_4 h0) dX9_sit_50 ?_
      refine J_iconst C dX9_sit_51 kci_1 ?_
      refine J_icmp_ne (tgt := 80) C dX9_sit_52 (by decide) (fun _ => ?_) (fun _ => ?_)
      · refine J_iinc (lw := fun v1 => [(2, .int v1), (0, .ref (wa w o0))]) (X := x2 + 1) C dX9_sit_80 (q := 1) rfl (by rw [kci_1]) (by decide) (fun _ => rfl) (fun v1 => ?_)
        refine J_goto (tgt := 37) C dX9_sit_83 (by decide) ?_
        refine J_lv [1, 0] rfl ?_
        exact ih v1 M
      · refine J_aload_n C dX9_sit_55 rfl 0 rfl ?_
        refine J_getr C fk9_5 W4_182 h0 dX9_sit_56 ?_
        refine J_iload_n C dX9_sit_59 rfl 1 rfl ?_
        refine J_aload_ C (tl_9_5 h0) dX9_sit_60 ?_
        refine J_bipush C dX9_sit_61 kcb_6 ?_
        refine J_icmp_ne (tgt := 80) C dX9_sit_63 (by decide) (fun _ => ?_) (fun _ => ?_)
        · refine J_iinc (lw := fun v2 => [(2, .int v2), (0, .ref (wa w o0))]) (X := x2 + 1) C dX9_sit_80 (q := 1) rfl (by rw [kci_1]) (by decide) (fun _ => rfl) (fun v2 => ?_)
          refine J_goto (tgt := 37) C dX9_sit_83 (by decide) ?_
          refine J_lv [1, 0] rfl ?_
          exact ih v2 M
        · refine J_aload_n C dX9_sit_66 rfl 0 rfl ?_
          refine J_getr C fk9_33 W4_210 h0 dX9_sit_67 ?_
          refine J_iload_n C dX9_sit_70 rfl 1 rfl ?_
          refine J_aload_ C (tl_9_33 h0) dX9_sit_71 ?_
          refine J_if_lt (tgt := 80) C dX9_sit_72 (by decide) (fun _ => ?_) (fun _ => ?_)
          · refine J_iinc (lw := fun v3 => [(2, .int v3), (0, .ref (wa w o0))]) (X := x2 + 1) C dX9_sit_80 (q := 1) rfl (by rw [kci_1]) (by decide) (fun _ => rfl) (fun v3 => ?_)
            refine J_goto (tgt := 37) C dX9_sit_83 (by decide) ?_
            refine J_lv [1, 0] rfl ?_
            exact ih v3 M
          · refine J_aload_n C dX9_sit_75 rfl 0 rfl ?_
            refine J_iload_n C dX9_sit_76 rfl 1 rfl ?_
            refine J_cvv (As := [.int x2]) C (c9_judges (gl g) w n o0 h0 x2 M) (gd_v W5_236 W5_238 WP_52 W1_10 W5_239) rfl (by decide) (hdX9_judges) h0 (by decide) (cl_9) rfl (Nat.le_of_ble_eq_true rfl) dX9_sit_77 rfl (fun r5 M4 => ?_)
            refine J_iinc (lw := fun v6 => [(2, .int v6), (0, .ref (wa w o0))]) (X := x2 + 1) C dX9_sit_80 (q := 1) rfl (by rw [kci_1]) (by decide) (fun _ => rfl) (fun v6 => ?_)
            refine J_goto (tgt := 37) C dX9_sit_83 (by decide) ?_
            refine J_lv [1, 0] rfl ?_
            exact ih v6 M4
def s9_sit_23 (n : Nat) (o0 : Nat) : Nat → Int32 → Mem → Option Res
  | 0, _, _ => none
  | f + 1, x1, M => if x1 = 0 then (s9_sit_37 n o0 n (0 : Int32) M) else (cb (s9_seatsOne n o0 M) (fun r8 M7 => s9_sit_23 n o0 f r8 M7))
set_option maxRecDepth 100000 in
set_option maxHeartbeats 4000000 in
theorem b9_sit_23 {w : WE} {g : GT} (C : CT w g RX9 cX9_sit rm9_sit 3) (RT : RTv w g cX9_sit) (n : Nat) (o0 : Nat) (h0 : typ o0 = 9) : ∀ (f : Nat) (x1 : Int32) (M : Mem), J w g (s9_sit_23 n o0 f x1 M) M 23 [(0, .ref (wa w o0)), (1, .int x1)] [] := by
  intro f
  induction f with
  | zero =>
    intro x1 M
    rw [s9_sit_23]
    exact J_none
  | succ f ih =>
    intro x1 M
    rw [s9_sit_23]
    refine J_iload_n C dX9_sit_23 rfl 1 rfl ?_
    refine J_if_eq (tgt := 35) C dX9_sit_24 (by decide) (fun _ => ?_) (fun _ => ?_)
    · refine J_iconst C dX9_sit_35 kci_0 ?_
      refine J_istore_n (lv' := [(2, .int (0 : Int32)), (0, .ref (wa w o0)), (1, .int x1)]) C dX9_sit_36 rfl (by decide) rfl ?_
      refine J_lv [1, 0] rfl ?_
      exact b9_sit_37 C RT n o0 h0 n (0 : Int32) M
    · refine J_aload_n C dX9_sit_27 rfl 0 rfl ?_
      refine J_cvi (As := []) C (c9_seatsOne (gl g) w n o0 h0 M) (gd_v W5_224 W5_226 WP_49 W1_10 W5_227) rfl (by decide) (hdX9_seatsOne) h0 (by decide) (cl_9) rfl (Nat.le_of_ble_eq_true rfl) dX9_sit_28 rfl (fun r8 M7 => ?_)
      refine J_istore_n (lv' := [(1, .int r8), (0, .ref (wa w o0))]) C dX9_sit_31 rfl (by decide) rfl ?_
      refine J_goto (tgt := 23) C dX9_sit_32 (by decide) ?_
      refine J_lv [1, 0] rfl ?_
      exact ih r8 M7
def s9_sit_2 (n : Nat) (o0 : Nat) : Nat → Int32 → Mem → Option Res
  | 0, _, _ => none
  | f + 1, x1, M => if (12 : Int32) ≤ x1 then (s9_sit_23 n o0 n (1 : Int32) M) else (if inB x1 (alen (link o0 33)) then mlet (mset M (link o0 33) x1.toNatClampNeg (-1 : Int32)) (fun M9 => ilet (x1 + 1) (fun v10 => s9_sit_2 n o0 f v10 M9)) else none)
set_option maxRecDepth 100000 in
set_option maxHeartbeats 4000000 in
theorem b9_sit_2 {w : WE} {g : GT} (C : CT w g RX9 cX9_sit rm9_sit 3) (RT : RTv w g cX9_sit) (n : Nat) (o0 : Nat) (h0 : typ o0 = 9) : ∀ (f : Nat) (x1 : Int32) (M : Mem), J w g (s9_sit_2 n o0 f x1 M) M 2 [(0, .ref (wa w o0)), (1, .int x1)] [] := by
  intro f
  induction f with
  | zero =>
    intro x1 M
    rw [s9_sit_2]
    exact J_none
  | succ f ih =>
    intro x1 M
    rw [s9_sit_2]
    refine J_iload_n C dX9_sit_2 rfl 1 rfl ?_
    refine J_bipush C dX9_sit_3 kcb_12 ?_
    refine J_icmp_ge (tgt := 21) C dX9_sit_5 (by decide) (fun _ => ?_) (fun _ => ?_)
    · refine J_iconst C dX9_sit_21 kci_1 ?_
      refine J_istore_n (lv' := [(1, .int (1 : Int32)), (0, .ref (wa w o0))]) C dX9_sit_22 rfl (by decide) rfl ?_
      refine J_lv [1, 0] rfl ?_
      exact b9_sit_23 C RT n o0 h0 n (1 : Int32) M
    · refine J_aload_n C dX9_sit_8 rfl 0 rfl ?_
      refine J_getr C fk9_33 W4_210 h0 dX9_sit_9 ?_
      refine J_iload_n C dX9_sit_12 rfl 1 rfl ?_
      refine J_iconst C dX9_sit_13 kci_m1 ?_
      refine J_iastore C (tl_9_33 h0) dX9_sit_14 ?_
      refine J_mlet (fun M9 => ?_)
      refine J_iinc (lw := fun v10 => [(1, .int v10), (0, .ref (wa w o0))]) (X := x1 + 1) C dX9_sit_15 (q := 1) rfl (by rw [kci_1]) (by decide) (fun _ => rfl) (fun v10 => ?_)
      refine J_goto (tgt := 2) C dX9_sit_18 (by decide) ?_
      refine J_lv [1, 0] rfl ?_
      exact ih v10 M9
def s9_sit (n : Nat) (o0 : Nat) (M : Mem) : Option Res := s9_sit_2 n o0 n (0 : Int32) M
set_option maxRecDepth 100000 in
set_option maxHeartbeats 4000000 in
theorem b9_sit {w : WE} {g : GT} (C : CT w g RX9 cX9_sit rm9_sit 3) (RT : RTv w g cX9_sit) (n : Nat) (o0 : Nat) (h0 : typ o0 = 9) (M : Mem) : J w g (s9_sit n o0 M) M 0 [(0, .ref (wa w o0))] [] := by
  rw [s9_sit]
  refine J_iconst C dX9_sit_0 kci_0 ?_
  refine J_istore_n (lv' := [(1, .int (0 : Int32)), (0, .ref (wa w o0))]) C dX9_sit_1 rfl (by decide) rfl ?_
  refine J_lv [1, 0] rfl ?_
  exact b9_sit_2 C RT n o0 h0 n (0 : Int32) M
theorem c9_sit (l : Launch) (w : WE) (n : Nat) (o0 : Nat) (h0 : typ o0 = 9) (M : Mem) : MV l w yX9_sit (wz yX9_sit cX9_sit 3 none) rm9_sit [.ref (wa w o0)] (s9_sit n o0 M) M :=
  mv_of_J (own := RX9) rfl (by decide) rfl rfl (Nat.le_of_ble_eq_true rfl) (fun _ _ C RT => b9_sit C RT n o0 h0 M)
theorem hdX9_sit : yX9_sit.cls = RX9 ∧ yOK yX9_sit 0 := ⟨rfl, by decide, by decide, by decide⟩
abbrev rm9_nearest : Room := { frames := 1, cells := 0, slots := 0, locals := 23 }
def s9_nearest_5 (n : Nat) (o0 : Nat) (x1 : Int32) : Nat → Int32 → Int32 → Mem → Option Res
  | 0, _, _, _ => none
  | f + 1, x2, x3, M => if (M o0 11) ≤ x3 then (some (x2, M)) else (if inB x3 (alen (link o0 1)) then if (M (link o0 1) x3.toNatClampNeg) = (1 : Int32) then (if inB x1 (alen (link o0 2)) then cb (s9_far n o0 (M (link o0 2) x1.toNatClampNeg) x3 M) (fun r3 M2 => if x2 ≤ r3 then (ilet (x3 + 1) (fun v4 => s9_nearest_5 n o0 x1 f x2 v4 M2)) else (if inB x1 (alen (link o0 2)) then cb (s9_far n o0 (M2 (link o0 2) x1.toNatClampNeg) x3 M2) (fun r6 M5 => ilet (x3 + 1) (fun v7 => s9_nearest_5 n o0 x1 f r6 v7 M5)) else none)) else none) else (ilet (x3 + 1) (fun v1 => s9_nearest_5 n o0 x1 f x2 v1 M)) else none)
set_option maxRecDepth 100000 in
set_option maxHeartbeats 4000000 in
theorem b9_nearest_5 {w : WE} {g : GT} (C : CT w g RX9 cX9_nearest rm9_nearest 4) (RT : RTi w g cX9_nearest .int) (n : Nat) (o0 : Nat) (h0 : typ o0 = 9) (x1 : Int32) : ∀ (f : Nat) (x2 : Int32) (x3 : Int32) (M : Mem), J w g (s9_nearest_5 n o0 x1 f x2 x3 M) M 5 [(0, .ref (wa w o0)), (1, .int x1), (2, .int x2), (3, .int x3)] [] := by
  intro f
  induction f with
  | zero =>
    intro x2 x3 M
    rw [s9_nearest_5]
    exact J_none
  | succ f ih =>
    intro x2 x3 M
    rw [s9_nearest_5]
    refine J_iload_n C dX9_nearest_5 rfl 3 rfl ?_
    refine J_aload_n C dX9_nearest_6 rfl 0 rfl ?_
    refine J_geti C fk9_11 W4_188 h0 dX9_nearest_7 ?_
    refine J_icmp_ge (tgt := 60) C dX9_nearest_10 (by decide) (fun _ => ?_) (fun _ => ?_)
    · refine J_iload_n C dX9_nearest_60 rfl 2 rfl ?_
      exact J_iret C RT rfl dX9_nearest_61
    · refine J_aload_n C dX9_nearest_13 rfl 0 rfl ?_
      refine J_getr C fk9_1 W4_178 h0 dX9_nearest_14 ?_
      refine J_iload_n C dX9_nearest_17 rfl 3 rfl ?_
      refine J_aload_ C (tl_9_1 h0) dX9_nearest_18 ?_
      refine J_iconst C dX9_nearest_19 kci_1 ?_
      refine J_icmp_ne (tgt := 52) C dX9_nearest_20 (by decide) (fun _ => ?_) (fun _ => ?_)
      · refine J_iload_n C dX9_nearest_52 rfl 2 rfl ?_
        refine J_istore_n (lv' := [(2, .int x2), (0, .ref (wa w o0)), (1, .int x1), (3, .int x3)]) C dX9_nearest_53 rfl (by decide) rfl ?_
        refine J_iinc (lw := fun v1 => [(3, .int v1), (2, .int x2), (0, .ref (wa w o0)), (1, .int x1)]) (X := x3 + 1) C dX9_nearest_54 (q := 3) rfl (by rw [kci_1]) (by decide) (fun _ => rfl) (fun v1 => ?_)
        refine J_goto (tgt := 5) C dX9_nearest_57 (by decide) ?_
        refine J_lv [2, 3, 1, 0] rfl ?_
        exact ih x2 v1 M
      · refine J_aload_n C dX9_nearest_23 rfl 0 rfl ?_
        refine J_aload_n C dX9_nearest_24 rfl 0 rfl ?_
        refine J_getr C fk9_2 W4_179 h0 dX9_nearest_25 ?_
        refine J_iload_n C dX9_nearest_28 rfl 1 rfl ?_
        refine J_aload_ C (tl_9_2 h0) dX9_nearest_29 ?_
        refine J_iload_n C dX9_nearest_30 rfl 3 rfl ?_
        refine J_cvi (As := [.int (M (link o0 2) x1.toNatClampNeg), .int x3]) C (c9_far (gl g) w n o0 h0 (M (link o0 2) x1.toNatClampNeg) x3 M) (gd_v W5_144 W5_146 WP_33 W1_10 W5_147) rfl (by decide) (hdX9_far) h0 (by decide) (cl_9) rfl (Nat.le_of_ble_eq_true rfl) dX9_nearest_31 rfl (fun r3 M2 => ?_)
        refine J_iload_n C dX9_nearest_34 rfl 2 rfl ?_
        refine J_icmp_ge (tgt := 52) C dX9_nearest_35 (by decide) (fun _ => ?_) (fun _ => ?_)
        · refine J_iload_n C dX9_nearest_52 rfl 2 rfl ?_
          refine J_istore_n (lv' := [(2, .int x2), (0, .ref (wa w o0)), (1, .int x1), (3, .int x3)]) C dX9_nearest_53 rfl (by decide) rfl ?_
          refine J_iinc (lw := fun v4 => [(3, .int v4), (2, .int x2), (0, .ref (wa w o0)), (1, .int x1)]) (X := x3 + 1) C dX9_nearest_54 (q := 3) rfl (by rw [kci_1]) (by decide) (fun _ => rfl) (fun v4 => ?_)
          refine J_goto (tgt := 5) C dX9_nearest_57 (by decide) ?_
          refine J_lv [2, 3, 1, 0] rfl ?_
          exact ih x2 v4 M2
        · refine J_aload_n C dX9_nearest_38 rfl 0 rfl ?_
          refine J_aload_n C dX9_nearest_39 rfl 0 rfl ?_
          refine J_getr C fk9_2 W4_179 h0 dX9_nearest_40 ?_
          refine J_iload_n C dX9_nearest_43 rfl 1 rfl ?_
          refine J_aload_ C (tl_9_2 h0) dX9_nearest_44 ?_
          refine J_iload_n C dX9_nearest_45 rfl 3 rfl ?_
          refine J_cvi (As := [.int (M2 (link o0 2) x1.toNatClampNeg), .int x3]) C (c9_far (gl g) w n o0 h0 (M2 (link o0 2) x1.toNatClampNeg) x3 M2) (gd_v W5_144 W5_146 WP_33 W1_10 W5_147) rfl (by decide) (hdX9_far) h0 (by decide) (cl_9) rfl (Nat.le_of_ble_eq_true rfl) dX9_nearest_46 rfl (fun r6 M5 => ?_)
          refine J_goto (tgt := 53) C dX9_nearest_49 (by decide) ?_
          refine J_istore_n (lv' := [(2, .int r6), (0, .ref (wa w o0)), (1, .int x1), (3, .int x3)]) C dX9_nearest_53 rfl (by decide) rfl ?_
          refine J_iinc (lw := fun v7 => [(3, .int v7), (2, .int r6), (0, .ref (wa w o0)), (1, .int x1)]) (X := x3 + 1) C dX9_nearest_54 (q := 3) rfl (by rw [kci_1]) (by decide) (fun _ => rfl) (fun v7 => ?_)
          refine J_goto (tgt := 5) C dX9_nearest_57 (by decide) ?_
          refine J_lv [2, 3, 1, 0] rfl ?_
          exact ih r6 v7 M5
def s9_nearest (n : Nat) (o0 : Nat) (x1 : Int32) (M : Mem) : Option Res := s9_nearest_5 n o0 x1 n (60 : Int32) (0 : Int32) M
set_option maxRecDepth 100000 in
set_option maxHeartbeats 4000000 in
theorem b9_nearest {w : WE} {g : GT} (C : CT w g RX9 cX9_nearest rm9_nearest 4) (RT : RTi w g cX9_nearest .int) (n : Nat) (o0 : Nat) (h0 : typ o0 = 9) (x1 : Int32) (M : Mem) : J w g (s9_nearest n o0 x1 M) M 0 [(0, .ref (wa w o0)), (1, .int x1)] [] := by
  rw [s9_nearest]
  refine J_bipush C dX9_nearest_0 kcb_60 ?_
  refine J_istore_n (lv' := [(2, .int (60 : Int32)), (0, .ref (wa w o0)), (1, .int x1)]) C dX9_nearest_2 rfl (by decide) rfl ?_
  refine J_iconst C dX9_nearest_3 kci_0 ?_
  refine J_istore_n (lv' := [(3, .int (0 : Int32)), (2, .int (60 : Int32)), (0, .ref (wa w o0)), (1, .int x1)]) C dX9_nearest_4 rfl (by decide) rfl ?_
  refine J_lv [2, 3, 1, 0] rfl ?_
  exact b9_nearest_5 C RT n o0 h0 x1 n (60 : Int32) (0 : Int32) M
theorem c9_nearest (l : Launch) (w : WE) (n : Nat) (o0 : Nat) (h0 : typ o0 = 9) (x1 : Int32) (M : Mem) : MC l w yX9_nearest (wz yX9_nearest cX9_nearest 4 (some .int)) rm9_nearest [.ref (wa w o0), .int x1] (s9_nearest n o0 x1 M) M :=
  mc_of_J (own := RX9) rfl (by decide) rfl rfl (Nat.le_of_ble_eq_true rfl) (fun _ _ C RT => b9_nearest C RT n o0 h0 x1 M)
theorem hdX9_nearest : yX9_nearest.cls = RX9 ∧ yOK yX9_nearest 1 := ⟨rfl, by decide, by decide, by decide⟩
abbrev rm9_goer : Room := { frames := 2, cells := 0, slots := 0, locals := 46 }
def s9_goer_5 (n : Nat) (o0 : Nat) : Nat → Int32 → Int32 → Mem → Option Res
  | 0, _, _, _ => none
  | f + 1, x1, x2, M => if (M o0 12) ≤ x2 then (some (x1, M)) else (if inB x2 (alen (link o0 4)) then if (M (link o0 4) x2.toNatClampNeg) = (1 : Int32) then (if inB x2 (alen (link o0 33)) then if 0 ≤ (M (link o0 33) x2.toNatClampNeg) then (ilet (x2 + 1) (fun v2 => s9_goer_5 n o0 f x1 v2 M)) else (if x1 < 0 then (ilet (x2 + 1) (fun v3 => s9_goer_5 n o0 f x2 v3 M)) else (cb (s9_nearest n o0 x2 M) (fun r5 M4 => cb (s9_nearest n o0 x1 M4) (fun r7 M6 => if r5 < r7 then (ilet (x2 + 1) (fun v8 => s9_goer_5 n o0 f x1 v8 M6)) else (ilet (x2 + 1) (fun v9 => s9_goer_5 n o0 f x2 v9 M6)))))) else none) else (ilet (x2 + 1) (fun v1 => s9_goer_5 n o0 f x1 v1 M)) else none)
set_option maxRecDepth 100000 in
set_option maxHeartbeats 4000000 in
theorem b9_goer_5 {w : WE} {g : GT} (C : CT w g RX9 cX9_goer rm9_goer 3) (RT : RTi w g cX9_goer .int) (n : Nat) (o0 : Nat) (h0 : typ o0 = 9) : ∀ (f : Nat) (x1 : Int32) (x2 : Int32) (M : Mem), J w g (s9_goer_5 n o0 f x1 x2 M) M 5 [(0, .ref (wa w o0)), (1, .int x1), (2, .int x2)] [] := by
  intro f
  induction f with
  | zero =>
    intro x1 x2 M
    rw [s9_goer_5]
    exact J_none
  | succ f ih =>
    intro x1 x2 M
    rw [s9_goer_5]
    refine J_iload_n C dX9_goer_5 rfl 2 rfl ?_
    refine J_aload_n C dX9_goer_6 rfl 0 rfl ?_
    refine J_geti C fk9_12 W4_189 h0 dX9_goer_7 ?_
    refine J_icmp_ge (tgt := 57) C dX9_goer_10 (by decide) (fun _ => ?_) (fun _ => ?_)
    · refine J_iload_n C dX9_goer_57 rfl 1 rfl ?_
      exact J_iret C RT rfl dX9_goer_58
    · refine J_aload_n C dX9_goer_13 rfl 0 rfl ?_
      refine J_getr C fk9_4 W4_181 h0 dX9_goer_14 ?_
      refine J_iload_n C dX9_goer_17 rfl 2 rfl ?_
      refine J_aload_ C (tl_9_4 h0) dX9_goer_18 ?_
      refine J_iconst C dX9_goer_19 kci_1 ?_
      refine J_icmp_ne (tgt := 51) C dX9_goer_20 (by decide) (fun _ => ?_) (fun _ => ?_)
      · refine J_iinc (lw := fun v1 => [(2, .int v1), (0, .ref (wa w o0)), (1, .int x1)]) (X := x2 + 1) C dX9_goer_51 (q := 2) rfl (by rw [kci_1]) (by decide) (fun _ => rfl) (fun v1 => ?_)
        refine J_goto (tgt := 5) C dX9_goer_54 (by decide) ?_
        refine J_lv [1, 2, 0] rfl ?_
        exact ih x1 v1 M
      · refine J_aload_n C dX9_goer_23 rfl 0 rfl ?_
        refine J_getr C fk9_33 W4_210 h0 dX9_goer_24 ?_
        refine J_iload_n C dX9_goer_27 rfl 2 rfl ?_
        refine J_aload_ C (tl_9_33 h0) dX9_goer_28 ?_
        refine J_if_ge (tgt := 51) C dX9_goer_29 (by decide) (fun _ => ?_) (fun _ => ?_)
        · refine J_iinc (lw := fun v2 => [(2, .int v2), (0, .ref (wa w o0)), (1, .int x1)]) (X := x2 + 1) C dX9_goer_51 (q := 2) rfl (by rw [kci_1]) (by decide) (fun _ => rfl) (fun v2 => ?_)
          refine J_goto (tgt := 5) C dX9_goer_54 (by decide) ?_
          refine J_lv [1, 2, 0] rfl ?_
          exact ih x1 v2 M
        · refine J_iload_n C dX9_goer_32 rfl 1 rfl ?_
          refine J_if_lt (tgt := 49) C dX9_goer_33 (by decide) (fun _ => ?_) (fun _ => ?_)
          · refine J_iload_n C dX9_goer_49 rfl 2 rfl ?_
            refine J_istore_n (lv' := [(1, .int x2), (0, .ref (wa w o0)), (2, .int x2)]) C dX9_goer_50 rfl (by decide) rfl ?_
            refine J_iinc (lw := fun v3 => [(2, .int v3), (1, .int x2), (0, .ref (wa w o0))]) (X := x2 + 1) C dX9_goer_51 (q := 2) rfl (by rw [kci_1]) (by decide) (fun _ => rfl) (fun v3 => ?_)
            refine J_goto (tgt := 5) C dX9_goer_54 (by decide) ?_
            refine J_lv [2, 1, 0] rfl ?_
            exact ih x2 v3 M
          · refine J_aload_n C dX9_goer_36 rfl 0 rfl ?_
            refine J_iload_n C dX9_goer_37 rfl 2 rfl ?_
            refine J_cvi (As := [.int x2]) C (c9_nearest (gl g) w n o0 h0 x2 M) (gd_v W6_4 W6_6 WP_54 W1_10 W6_7) rfl (by decide) (hdX9_nearest) h0 (by decide) (cl_9) rfl (Nat.le_of_ble_eq_true rfl) dX9_goer_38 rfl (fun r5 M4 => ?_)
            refine J_aload_n C dX9_goer_41 rfl 0 rfl ?_
            refine J_iload_n C dX9_goer_42 rfl 1 rfl ?_
            refine J_cvi (As := [.int x1]) C (c9_nearest (gl g) w n o0 h0 x1 M4) (gd_v W6_4 W6_6 WP_54 W1_10 W6_7) rfl (by decide) (hdX9_nearest) h0 (by decide) (cl_9) rfl (Nat.le_of_ble_eq_true rfl) dX9_goer_43 rfl (fun r7 M6 => ?_)
            refine J_icmp_lt (tgt := 51) C dX9_goer_46 (by decide) (fun _ => ?_) (fun _ => ?_)
            · refine J_iinc (lw := fun v8 => [(2, .int v8), (0, .ref (wa w o0)), (1, .int x1)]) (X := x2 + 1) C dX9_goer_51 (q := 2) rfl (by rw [kci_1]) (by decide) (fun _ => rfl) (fun v8 => ?_)
              refine J_goto (tgt := 5) C dX9_goer_54 (by decide) ?_
              refine J_lv [1, 2, 0] rfl ?_
              exact ih x1 v8 M6
            · refine J_iload_n C dX9_goer_49 rfl 2 rfl ?_
              refine J_istore_n (lv' := [(1, .int x2), (0, .ref (wa w o0)), (2, .int x2)]) C dX9_goer_50 rfl (by decide) rfl ?_
              refine J_iinc (lw := fun v9 => [(2, .int v9), (1, .int x2), (0, .ref (wa w o0))]) (X := x2 + 1) C dX9_goer_51 (q := 2) rfl (by rw [kci_1]) (by decide) (fun _ => rfl) (fun v9 => ?_)
              refine J_goto (tgt := 5) C dX9_goer_54 (by decide) ?_
              refine J_lv [2, 1, 0] rfl ?_
              exact ih x2 v9 M6
def s9_goer (n : Nat) (o0 : Nat) (M : Mem) : Option Res := s9_goer_5 n o0 n (-9 : Int32) (0 : Int32) M
set_option maxRecDepth 100000 in
set_option maxHeartbeats 4000000 in
theorem b9_goer {w : WE} {g : GT} (C : CT w g RX9 cX9_goer rm9_goer 3) (RT : RTi w g cX9_goer .int) (n : Nat) (o0 : Nat) (h0 : typ o0 = 9) (M : Mem) : J w g (s9_goer n o0 M) M 0 [(0, .ref (wa w o0))] [] := by
  rw [s9_goer]
  refine J_bipush C dX9_goer_0 kcb_m9 ?_
  refine J_istore_n (lv' := [(1, .int (-9 : Int32)), (0, .ref (wa w o0))]) C dX9_goer_2 rfl (by decide) rfl ?_
  refine J_iconst C dX9_goer_3 kci_0 ?_
  refine J_istore_n (lv' := [(2, .int (0 : Int32)), (1, .int (-9 : Int32)), (0, .ref (wa w o0))]) C dX9_goer_4 rfl (by decide) rfl ?_
  refine J_lv [2, 1, 0] rfl ?_
  exact b9_goer_5 C RT n o0 h0 n (-9 : Int32) (0 : Int32) M
theorem c9_goer (l : Launch) (w : WE) (n : Nat) (o0 : Nat) (h0 : typ o0 = 9) (M : Mem) : MC l w yX9_goer (wz yX9_goer cX9_goer 3 (some .int)) rm9_goer [.ref (wa w o0)] (s9_goer n o0 M) M :=
  mc_of_J (own := RX9) rfl (by decide) rfl rfl (Nat.le_of_ble_eq_true rfl) (fun _ _ C RT => b9_goer C RT n o0 h0 M)
theorem hdX9_goer : yX9_goer.cls = RX9 ∧ yOK yX9_goer 0 := ⟨rfl, by decide, by decide, by decide⟩
abbrev rm9_ways : Room := { frames := 0, cells := 0, slots := 0, locals := 0 }
def s9_ways_26 (n : Nat) (o0 : Nat) (x1 : Int32) (x2 : Int32) : Nat → Int32 → Mem → Option Res
  | 0, _, _ => none
  | f + 1, x3, M => if (M o0 11) = 0 then none else if inB (((x1 - x3) + (M o0 11)) - ((x1 - x3) + (M o0 11)) / (M o0 11) * (M o0 11)) (alen (link o0 1)) then if (M (link o0 1) (((x1 - x3) + (M o0 11)) - ((x1 - x3) + (M o0 11)) / (M o0 11) * (M o0 11)).toNatClampNeg) = 0 then (ilet (x3 + 1) (fun v1 => s9_ways_26 n o0 x1 x2 f v1 M)) else (some (x2 + x3, M)) else none
set_option maxRecDepth 100000 in
set_option maxHeartbeats 4000000 in
theorem b9_ways_26 {w : WE} {g : GT} (C : CT w g RX9 cX9_ways rm9_ways 4) (RT : RTi w g cX9_ways .int) (n : Nat) (o0 : Nat) (h0 : typ o0 = 9) (x1 : Int32) (x2 : Int32) : ∀ (f : Nat) (x3 : Int32) (M : Mem), J w g (s9_ways_26 n o0 x1 x2 f x3 M) M 26 [(0, .ref (wa w o0)), (1, .int x1), (2, .int x2), (3, .int x3)] [] := by
  intro f
  induction f with
  | zero =>
    intro x3 M
    rw [s9_ways_26]
    exact J_none
  | succ f ih =>
    intro x3 M
    rw [s9_ways_26]
    refine J_aload_n C dX9_ways_26 rfl 0 rfl ?_
    refine J_getr C fk9_1 W4_178 h0 dX9_ways_27 ?_
    refine J_iload_n C dX9_ways_30 rfl 1 rfl ?_
    refine J_iload_n C dX9_ways_31 rfl 3 rfl ?_
    refine J_isub C dX9_ways_32 ?_
    refine J_aload_n C dX9_ways_33 rfl 0 rfl ?_
    refine J_geti C fk9_11 W4_188 h0 dX9_ways_34 ?_
    refine J_iadd C dX9_ways_37 ?_
    refine J_aload_n C dX9_ways_38 rfl 0 rfl ?_
    refine J_geti C fk9_11 W4_188 h0 dX9_ways_39 ?_
    refine J_irem C dX9_ways_42 ?_
    refine J_aload_ C (tl_9_1 h0) dX9_ways_43 ?_
    refine J_if_ne (tgt := 53) C dX9_ways_44 (by decide) (fun _ => ?_) (fun _ => ?_)
    · refine J_iload_n C dX9_ways_53 rfl 2 rfl ?_
      refine J_iload_n C dX9_ways_54 rfl 3 rfl ?_
      refine J_iadd C dX9_ways_55 ?_
      exact J_iret C RT rfl dX9_ways_56
    · refine J_iinc (lw := fun v1 => [(3, .int v1), (0, .ref (wa w o0)), (1, .int x1), (2, .int x2)]) (X := x3 + 1) C dX9_ways_47 (q := 3) rfl (by rw [kci_1]) (by decide) (fun _ => rfl) (fun v1 => ?_)
      refine J_goto (tgt := 26) C dX9_ways_50 (by decide) ?_
      refine J_lv [1, 2, 3, 0] rfl ?_
      exact ih v1 M
def s9_ways_2 (n : Nat) (o0 : Nat) (x1 : Int32) : Nat → Int32 → Mem → Option Res
  | 0, _, _ => none
  | f + 1, x2, M => if (M o0 11) = 0 then none else if inB ((x1 + x2) - (x1 + x2) / (M o0 11) * (M o0 11)) (alen (link o0 1)) then if (M (link o0 1) ((x1 + x2) - (x1 + x2) / (M o0 11) * (M o0 11)).toNatClampNeg) = 0 then (ilet (x2 + 1) (fun v2 => s9_ways_2 n o0 x1 f v2 M)) else (s9_ways_26 n o0 x1 x2 n (1 : Int32) M) else none
set_option maxRecDepth 100000 in
set_option maxHeartbeats 4000000 in
theorem b9_ways_2 {w : WE} {g : GT} (C : CT w g RX9 cX9_ways rm9_ways 4) (RT : RTi w g cX9_ways .int) (n : Nat) (o0 : Nat) (h0 : typ o0 = 9) (x1 : Int32) : ∀ (f : Nat) (x2 : Int32) (M : Mem), J w g (s9_ways_2 n o0 x1 f x2 M) M 2 [(0, .ref (wa w o0)), (1, .int x1), (2, .int x2)] [] := by
  intro f
  induction f with
  | zero =>
    intro x2 M
    rw [s9_ways_2]
    exact J_none
  | succ f ih =>
    intro x2 M
    rw [s9_ways_2]
    refine J_aload_n C dX9_ways_2 rfl 0 rfl ?_
    refine J_getr C fk9_1 W4_178 h0 dX9_ways_3 ?_
    refine J_iload_n C dX9_ways_6 rfl 1 rfl ?_
    refine J_iload_n C dX9_ways_7 rfl 2 rfl ?_
    refine J_iadd C dX9_ways_8 ?_
    refine J_aload_n C dX9_ways_9 rfl 0 rfl ?_
    refine J_geti C fk9_11 W4_188 h0 dX9_ways_10 ?_
    refine J_irem C dX9_ways_13 ?_
    refine J_aload_ C (tl_9_1 h0) dX9_ways_14 ?_
    refine J_if_ne (tgt := 24) C dX9_ways_15 (by decide) (fun _ => ?_) (fun _ => ?_)
    · refine J_iconst C dX9_ways_24 kci_1 ?_
      refine J_istore_n (lv' := [(3, .int (1 : Int32)), (0, .ref (wa w o0)), (1, .int x1), (2, .int x2)]) C dX9_ways_25 rfl (by decide) rfl ?_
      refine J_lv [1, 2, 3, 0] rfl ?_
      exact b9_ways_26 C RT n o0 h0 x1 x2 n (1 : Int32) M
    · refine J_iinc (lw := fun v2 => [(2, .int v2), (0, .ref (wa w o0)), (1, .int x1)]) (X := x2 + 1) C dX9_ways_18 (q := 2) rfl (by rw [kci_1]) (by decide) (fun _ => rfl) (fun v2 => ?_)
      refine J_goto (tgt := 2) C dX9_ways_21 (by decide) ?_
      refine J_lv [1, 2, 0] rfl ?_
      exact ih v2 M
def s9_ways (n : Nat) (o0 : Nat) (x1 : Int32) (M : Mem) : Option Res := s9_ways_2 n o0 x1 n (1 : Int32) M
set_option maxRecDepth 100000 in
set_option maxHeartbeats 4000000 in
theorem b9_ways {w : WE} {g : GT} (C : CT w g RX9 cX9_ways rm9_ways 4) (RT : RTi w g cX9_ways .int) (n : Nat) (o0 : Nat) (h0 : typ o0 = 9) (x1 : Int32) (M : Mem) : J w g (s9_ways n o0 x1 M) M 0 [(0, .ref (wa w o0)), (1, .int x1)] [] := by
  rw [s9_ways]
  refine J_iconst C dX9_ways_0 kci_1 ?_
  refine J_istore_n (lv' := [(2, .int (1 : Int32)), (0, .ref (wa w o0)), (1, .int x1)]) C dX9_ways_1 rfl (by decide) rfl ?_
  refine J_lv [1, 2, 0] rfl ?_
  exact b9_ways_2 C RT n o0 h0 x1 n (1 : Int32) M
theorem c9_ways (l : Launch) (w : WE) (n : Nat) (o0 : Nat) (h0 : typ o0 = 9) (x1 : Int32) (M : Mem) : MC l w yX9_ways (wz yX9_ways cX9_ways 4 (some .int)) rm9_ways [.ref (wa w o0), .int x1] (s9_ways n o0 x1 M) M :=
  mc_of_J (own := RX9) rfl (by decide) rfl rfl (Nat.le_of_ble_eq_true rfl) (fun _ _ C RT => b9_ways C RT n o0 h0 x1 M)
theorem hdX9_ways : yX9_ways.cls = RX9 ∧ yOK yX9_ways 1 := ⟨rfl, by decide, by decide, by decide⟩
abbrev rm9_leaver : Room := { frames := 1, cells := 0, slots := 0, locals := 23 }
def s9_leaver_5 (n : Nat) (o0 : Nat) : Nat → Int32 → Int32 → Mem → Option Res
  | 0, _, _, _ => none
  | f + 1, x1, x2, M => if (M o0 11) ≤ x2 then (some (x1, M)) else (if inB x2 (alen (link o0 1)) then if (M (link o0 1) x2.toNatClampNeg) = 0 then (ilet (x2 + 1) (fun v10 => s9_leaver_5 n o0 f x1 v10 M)) else (if x1 < 0 then (ilet (x2 + 1) (fun v1 => s9_leaver_5 n o0 f x2 v1 M)) else (if (M o0 15) = (1 : Int32) then (ilet (x2 + 1) (fun v2 => s9_leaver_5 n o0 f x2 v2 M)) else (if (M o0 15) = (2 : Int32) then (cb (s9_ways n o0 x2 M) (fun r5 M4 => cb (s9_ways n o0 x1 M4) (fun r7 M6 => if r7 ≤ r5 then (ilet (x2 + 1) (fun v8 => s9_leaver_5 n o0 f x1 v8 M6)) else (ilet (x2 + 1) (fun v9 => s9_leaver_5 n o0 f x2 v9 M6))))) else (ilet (x2 + 1) (fun v3 => s9_leaver_5 n o0 f x1 v3 M))))) else none)
set_option maxRecDepth 100000 in
set_option maxHeartbeats 4000000 in
theorem b9_leaver_5 {w : WE} {g : GT} (C : CT w g RX9 cX9_leaver rm9_leaver 3) (RT : RTi w g cX9_leaver .int) (n : Nat) (o0 : Nat) (h0 : typ o0 = 9) : ∀ (f : Nat) (x1 : Int32) (x2 : Int32) (M : Mem), J w g (s9_leaver_5 n o0 f x1 x2 M) M 5 [(0, .ref (wa w o0)), (1, .int x1), (2, .int x2)] [] := by
  intro f
  induction f with
  | zero =>
    intro x1 x2 M
    rw [s9_leaver_5]
    exact J_none
  | succ f ih =>
    intro x1 x2 M
    rw [s9_leaver_5]
    refine J_iload_n C dX9_leaver_5 rfl 2 rfl ?_
    refine J_aload_n C dX9_leaver_6 rfl 0 rfl ?_
    refine J_geti C fk9_11 W4_188 h0 dX9_leaver_7 ?_
    refine J_icmp_ge (tgt := 66) C dX9_leaver_10 (by decide) (fun _ => ?_) (fun _ => ?_)
    · refine J_iload_n C dX9_leaver_66 rfl 1 rfl ?_
      exact J_iret C RT rfl dX9_leaver_67
    · refine J_aload_n C dX9_leaver_13 rfl 0 rfl ?_
      refine J_getr C fk9_1 W4_178 h0 dX9_leaver_14 ?_
      refine J_iload_n C dX9_leaver_17 rfl 2 rfl ?_
      refine J_aload_ C (tl_9_1 h0) dX9_leaver_18 ?_
      refine J_if_ne (tgt := 25) C dX9_leaver_19 (by decide) (fun _ => ?_) (fun _ => ?_)
      · refine J_iload_n C dX9_leaver_25 rfl 1 rfl ?_
        refine J_if_lt (tgt := 58) C dX9_leaver_26 (by decide) (fun _ => ?_) (fun _ => ?_)
        · refine J_iload_n C dX9_leaver_58 rfl 2 rfl ?_
          refine J_istore_n (lv' := [(1, .int x2), (0, .ref (wa w o0)), (2, .int x2)]) C dX9_leaver_59 rfl (by decide) rfl ?_
          refine J_iinc (lw := fun v1 => [(2, .int v1), (1, .int x2), (0, .ref (wa w o0))]) (X := x2 + 1) C dX9_leaver_60 (q := 2) rfl (by rw [kci_1]) (by decide) (fun _ => rfl) (fun v1 => ?_)
          refine J_goto (tgt := 5) C dX9_leaver_63 (by decide) ?_
          refine J_lv [2, 1, 0] rfl ?_
          exact ih x2 v1 M
        · refine J_aload_n C dX9_leaver_29 rfl 0 rfl ?_
          refine J_geti C fk9_15 W4_192 h0 dX9_leaver_30 ?_
          refine J_iconst C dX9_leaver_33 kci_1 ?_
          refine J_icmp_eq (tgt := 58) C dX9_leaver_34 (by decide) (fun _ => ?_) (fun _ => ?_)
          · refine J_iload_n C dX9_leaver_58 rfl 2 rfl ?_
            refine J_istore_n (lv' := [(1, .int x2), (0, .ref (wa w o0)), (2, .int x2)]) C dX9_leaver_59 rfl (by decide) rfl ?_
            refine J_iinc (lw := fun v2 => [(2, .int v2), (1, .int x2), (0, .ref (wa w o0))]) (X := x2 + 1) C dX9_leaver_60 (q := 2) rfl (by rw [kci_1]) (by decide) (fun _ => rfl) (fun v2 => ?_)
            refine J_goto (tgt := 5) C dX9_leaver_63 (by decide) ?_
            refine J_lv [2, 1, 0] rfl ?_
            exact ih x2 v2 M
          · refine J_aload_n C dX9_leaver_37 rfl 0 rfl ?_
            refine J_geti C fk9_15 W4_192 h0 dX9_leaver_38 ?_
            refine J_iconst C dX9_leaver_41 kci_2 ?_
            refine J_icmp_ne (tgt := 60) C dX9_leaver_42 (by decide) (fun _ => ?_) (fun _ => ?_)
            · refine J_iinc (lw := fun v3 => [(2, .int v3), (0, .ref (wa w o0)), (1, .int x1)]) (X := x2 + 1) C dX9_leaver_60 (q := 2) rfl (by rw [kci_1]) (by decide) (fun _ => rfl) (fun v3 => ?_)
              refine J_goto (tgt := 5) C dX9_leaver_63 (by decide) ?_
              refine J_lv [1, 2, 0] rfl ?_
              exact ih x1 v3 M
            · refine J_aload_n C dX9_leaver_45 rfl 0 rfl ?_
              refine J_iload_n C dX9_leaver_46 rfl 2 rfl ?_
              refine J_cvi (As := [.int x2]) C (c9_ways (gl g) w n o0 h0 x2 M) (gd_v W6_12 W6_14 WP_56 W1_10 W6_15) rfl (by decide) (hdX9_ways) h0 (by decide) (cl_9) rfl (Nat.le_of_ble_eq_true rfl) dX9_leaver_47 rfl (fun r5 M4 => ?_)
              refine J_aload_n C dX9_leaver_50 rfl 0 rfl ?_
              refine J_iload_n C dX9_leaver_51 rfl 1 rfl ?_
              refine J_cvi (As := [.int x1]) C (c9_ways (gl g) w n o0 h0 x1 M4) (gd_v W6_12 W6_14 WP_56 W1_10 W6_15) rfl (by decide) (hdX9_ways) h0 (by decide) (cl_9) rfl (Nat.le_of_ble_eq_true rfl) dX9_leaver_52 rfl (fun r7 M6 => ?_)
              refine J_icmp_ge (tgt := 60) C dX9_leaver_55 (by decide) (fun _ => ?_) (fun _ => ?_)
              · refine J_iinc (lw := fun v8 => [(2, .int v8), (0, .ref (wa w o0)), (1, .int x1)]) (X := x2 + 1) C dX9_leaver_60 (q := 2) rfl (by rw [kci_1]) (by decide) (fun _ => rfl) (fun v8 => ?_)
                refine J_goto (tgt := 5) C dX9_leaver_63 (by decide) ?_
                refine J_lv [1, 2, 0] rfl ?_
                exact ih x1 v8 M6
              · refine J_iload_n C dX9_leaver_58 rfl 2 rfl ?_
                refine J_istore_n (lv' := [(1, .int x2), (0, .ref (wa w o0)), (2, .int x2)]) C dX9_leaver_59 rfl (by decide) rfl ?_
                refine J_iinc (lw := fun v9 => [(2, .int v9), (1, .int x2), (0, .ref (wa w o0))]) (X := x2 + 1) C dX9_leaver_60 (q := 2) rfl (by rw [kci_1]) (by decide) (fun _ => rfl) (fun v9 => ?_)
                refine J_goto (tgt := 5) C dX9_leaver_63 (by decide) ?_
                refine J_lv [2, 1, 0] rfl ?_
                exact ih x2 v9 M6
      · refine J_goto (tgt := 60) C dX9_leaver_22 (by decide) ?_
        refine J_iinc (lw := fun v10 => [(2, .int v10), (0, .ref (wa w o0)), (1, .int x1)]) (X := x2 + 1) C dX9_leaver_60 (q := 2) rfl (by rw [kci_1]) (by decide) (fun _ => rfl) (fun v10 => ?_)
        refine J_goto (tgt := 5) C dX9_leaver_63 (by decide) ?_
        refine J_lv [1, 2, 0] rfl ?_
        exact ih x1 v10 M
def s9_leaver (n : Nat) (o0 : Nat) (M : Mem) : Option Res := s9_leaver_5 n o0 n (-9 : Int32) (0 : Int32) M
set_option maxRecDepth 100000 in
set_option maxHeartbeats 4000000 in
theorem b9_leaver {w : WE} {g : GT} (C : CT w g RX9 cX9_leaver rm9_leaver 3) (RT : RTi w g cX9_leaver .int) (n : Nat) (o0 : Nat) (h0 : typ o0 = 9) (M : Mem) : J w g (s9_leaver n o0 M) M 0 [(0, .ref (wa w o0))] [] := by
  rw [s9_leaver]
  refine J_bipush C dX9_leaver_0 kcb_m9 ?_
  refine J_istore_n (lv' := [(1, .int (-9 : Int32)), (0, .ref (wa w o0))]) C dX9_leaver_2 rfl (by decide) rfl ?_
  refine J_iconst C dX9_leaver_3 kci_0 ?_
  refine J_istore_n (lv' := [(2, .int (0 : Int32)), (1, .int (-9 : Int32)), (0, .ref (wa w o0))]) C dX9_leaver_4 rfl (by decide) rfl ?_
  refine J_lv [2, 1, 0] rfl ?_
  exact b9_leaver_5 C RT n o0 h0 n (-9 : Int32) (0 : Int32) M
theorem c9_leaver (l : Launch) (w : WE) (n : Nat) (o0 : Nat) (h0 : typ o0 = 9) (M : Mem) : MC l w yX9_leaver (wz yX9_leaver cX9_leaver 3 (some .int)) rm9_leaver [.ref (wa w o0)] (s9_leaver n o0 M) M :=
  mc_of_J (own := RX9) rfl (by decide) rfl rfl (Nat.le_of_ble_eq_true rfl) (fun _ _ C RT => b9_leaver C RT n o0 h0 M)
theorem hdX9_leaver : yX9_leaver.cls = RX9 ∧ yOK yX9_leaver 0 := ⟨rfl, by decide, by decide, by decide⟩
abbrev rm9_stops : Room := { frames := 4, cells := 0, slots := 0, locals := 93 }
def s9_stops_38 (n : Nat) (o0 : Nat) (x1 : Int32) (M : Mem) : Option Res := mlet (mset M o0 18 ((M o0 18) + (1 : Int32))) (fun M5 => mlet (mset M5 o0 17 (0 : Int32)) (fun M6 => if x1 < 0 then (mlet (mset M6 o0 19 (1 : Int32)) (fun M7 => some (x1, M7))) else (cb (s9_ins n o0 M6) (fun r9 M8 => if r9 = (1 : Int32) then (mlet (mset M8 o0 19 (1 : Int32)) (fun M10 => some (x1, M10))) else (some (x1, M8))))))
set_option maxRecDepth 100000 in
set_option maxHeartbeats 4000000 in
theorem b9_stops_38 {w : WE} {g : GT} (C : CT w g RX9 cX9_stops rm9_stops 2) (RT : RTi w g cX9_stops .int) (n : Nat) (o0 : Nat) (h0 : typ o0 = 9) (x1 : Int32) (M : Mem) : J w g (s9_stops_38 n o0 x1 M) M 38 [(0, .ref (wa w o0)), (1, .int x1)] [] := by
  rw [s9_stops_38]
  refine J_aload_n C dX9_stops_38 rfl 0 rfl ?_
  refine J_dup C rfl dX9_stops_39 ?_
  refine J_geti C fk9_18 W4_195 h0 dX9_stops_40 ?_
  refine J_iconst C dX9_stops_43 kci_1 ?_
  refine J_iadd C dX9_stops_44 ?_
  refine J_puti C fk9_18 W4_195 fp9_18 h0 dX9_stops_45 ?_
  refine J_mlet (fun M5 => ?_)
  refine J_aload_n C dX9_stops_48 rfl 0 rfl ?_
  refine J_iconst C dX9_stops_49 kci_0 ?_
  refine J_puti C fk9_17 W4_194 fp9_17 h0 dX9_stops_50 ?_
  refine J_mlet (fun M6 => ?_)
  refine J_iload_n C dX9_stops_53 rfl 1 rfl ?_
  refine J_if_lt (tgt := 65) C dX9_stops_54 (by decide) (fun _ => ?_) (fun _ => ?_)
  · refine J_aload_n C dX9_stops_65 rfl 0 rfl ?_
    refine J_iconst C dX9_stops_66 kci_1 ?_
    refine J_puti C fk9_19 W4_196 fp9_19 h0 dX9_stops_67 ?_
    refine J_mlet (fun M7 => ?_)
    refine J_iload_n C dX9_stops_70 rfl 1 rfl ?_
    exact J_iret C RT rfl dX9_stops_71
  · refine J_aload_n C dX9_stops_57 rfl 0 rfl ?_
    refine J_cvi (As := []) C (c9_ins (gl g) w n o0 h0 M6) (gd_v W5_197 W5_199 WP_43 W1_10 W5_200) rfl (by decide) (hdX9_ins) h0 (by decide) (cl_9) rfl (Nat.le_of_ble_eq_true rfl) dX9_stops_58 rfl (fun r9 M8 => ?_)
    refine J_iconst C dX9_stops_61 kci_1 ?_
    refine J_icmp_ne (tgt := 70) C dX9_stops_62 (by decide) (fun _ => ?_) (fun _ => ?_)
    · refine J_iload_n C dX9_stops_70 rfl 1 rfl ?_
      exact J_iret C RT rfl dX9_stops_71
    · refine J_aload_n C dX9_stops_65 rfl 0 rfl ?_
      refine J_iconst C dX9_stops_66 kci_1 ?_
      refine J_puti C fk9_19 W4_196 fp9_19 h0 dX9_stops_67 ?_
      refine J_mlet (fun M10 => ?_)
      refine J_iload_n C dX9_stops_70 rfl 1 rfl ?_
      exact J_iret C RT rfl dX9_stops_71
def s9_stops (n : Nat) (o0 : Nat) (M : Mem) : Option Res := cb (s9_sit n o0 M) (fun _ M1 => cb (s9_goer n o0 M1) (fun r4 M3 => if r4 < 0 then (s9_stops_38 n o0 r4 M3) else (if inB r4 (alen (link o0 4)) then mlet (mset M3 (link o0 4) r4.toNatClampNeg (0 : Int32)) (fun M11 => cb (s9_chairs n o0 M11) (fun r13 M12 => if r13 ≤ (1 : Int32) then (s9_stops_38 n o0 r4 M12) else (cb (s9_leaver n o0 M12) (fun r15 M14 => if inB r15 (alen (link o0 1)) then mlet (mset M14 (link o0 1) r15.toNatClampNeg (0 : Int32)) (fun M16 => s9_stops_38 n o0 r4 M16) else none)))) else none)))
set_option maxRecDepth 100000 in
set_option maxHeartbeats 4000000 in
theorem b9_stops {w : WE} {g : GT} (C : CT w g RX9 cX9_stops rm9_stops 2) (RT : RTi w g cX9_stops .int) (n : Nat) (o0 : Nat) (h0 : typ o0 = 9) (M : Mem) : J w g (s9_stops n o0 M) M 0 [(0, .ref (wa w o0))] [] := by
  rw [s9_stops]
  refine J_aload_n C dX9_stops_0 rfl 0 rfl ?_
  refine J_cvv (As := []) C (c9_sit (gl g) w n o0 h0 M) (gd_v W5_220 W5_222 WP_48 W1_10 W5_223) rfl (by decide) (hdX9_sit) h0 (by decide) (cl_9) rfl (Nat.le_of_ble_eq_true rfl) dX9_stops_1 rfl (fun r2 M1 => ?_)
  refine J_aload_n C dX9_stops_4 rfl 0 rfl ?_
  refine J_cvi (As := []) C (c9_goer (gl g) w n o0 h0 M1) (gd_v W6_0 W6_2 WP_53 W1_10 W6_3) rfl (by decide) (hdX9_goer) h0 (by decide) (cl_9) rfl (Nat.le_of_ble_eq_true rfl) dX9_stops_5 rfl (fun r4 M3 => ?_)
  refine J_istore_n (lv' := [(1, .int r4), (0, .ref (wa w o0))]) C dX9_stops_8 rfl (by decide) rfl ?_
  refine J_iload_n C dX9_stops_9 rfl 0 rfl ?_
  refine J_if_lt (tgt := 38) C dX9_stops_10 (by decide) (fun _ => ?_) (fun _ => ?_)
  · refine J_lv [1, 0] rfl ?_
    exact b9_stops_38 C RT n o0 h0 r4 M3
  · refine J_aload_n C dX9_stops_13 rfl 1 rfl ?_
    refine J_getr C fk9_4 W4_181 h0 dX9_stops_14 ?_
    refine J_iload_n C dX9_stops_17 rfl 0 rfl ?_
    refine J_iconst C dX9_stops_18 kci_0 ?_
    refine J_iastore C (tl_9_4 h0) dX9_stops_19 ?_
    refine J_mlet (fun M11 => ?_)
    refine J_aload_n C dX9_stops_20 rfl 1 rfl ?_
    refine J_cvi (As := []) C (c9_chairs (gl g) w n o0 h0 M11) (gd_v W5_82 W5_84 WP_27 W1_10 W5_85) rfl (by decide) (hdX9_chairs) h0 (by decide) (cl_9) rfl (Nat.le_of_ble_eq_true rfl) dX9_stops_21 rfl (fun r13 M12 => ?_)
    refine J_iconst C dX9_stops_24 kci_1 ?_
    refine J_icmp_le (tgt := 38) C dX9_stops_25 (by decide) (fun _ => ?_) (fun _ => ?_)
    · refine J_lv [1, 0] rfl ?_
      exact b9_stops_38 C RT n o0 h0 r4 M12
    · refine J_aload_n C dX9_stops_28 rfl 1 rfl ?_
      refine J_getr C fk9_1 W4_178 h0 dX9_stops_29 ?_
      refine J_aload_n C dX9_stops_32 rfl 1 rfl ?_
      refine J_cvi (As := []) C (c9_leaver (gl g) w n o0 h0 M12) (gd_v W6_8 W6_10 WP_55 W1_10 W6_11) rfl (by decide) (hdX9_leaver) h0 (by decide) (cl_9) rfl (Nat.le_of_ble_eq_true rfl) dX9_stops_33 rfl (fun r15 M14 => ?_)
      refine J_iconst C dX9_stops_36 kci_0 ?_
      refine J_iastore C (tl_9_1 h0) dX9_stops_37 ?_
      refine J_mlet (fun M16 => ?_)
      refine J_lv [1, 0] rfl ?_
      exact b9_stops_38 C RT n o0 h0 r4 M16
theorem c9_stops (l : Launch) (w : WE) (n : Nat) (o0 : Nat) (h0 : typ o0 = 9) (M : Mem) : MC l w yX9_stops (wz yX9_stops cX9_stops 2 (some .int)) rm9_stops [.ref (wa w o0)] (s9_stops n o0 M) M :=
  mc_of_J (own := RX9) rfl (by decide) rfl rfl (Nat.le_of_ble_eq_true rfl) (fun _ _ C RT => b9_stops C RT n o0 h0 M)
theorem hdX9_stops : yX9_stops.cls = RX9 ∧ yOK yX9_stops 0 := ⟨rfl, by decide, by decide, by decide⟩
abbrev rm9_doesStop : Room := { frames := 0, cells := 0, slots := 0, locals := 0 }
def s9_doesStop (o0 : Nat) (M : Mem) : Option Res := mlet (mset M o0 16 (((M o0 16) * (1103515245 : Int32)) + (12345 : Int32))) (fun M1 => ilet ((((M1 o0 16) &&& (2147483647 : Int32)) / (65536 : Int32)) - (((M1 o0 16) &&& (2147483647 : Int32)) / (65536 : Int32)) / (100 : Int32) * (100 : Int32)) (fun v2 => if (M1 o0 17) < (300 : Int32) then (if (M1 o0 13) = 1 then (if (M1 o0 14) ≤ v2 then (some ((0 : Int32), M1)) else (if ((M1 o0 17) - (M1 o0 17) / (8 : Int32) * (8 : Int32)) = 0 then (some ((1 : Int32), M1)) else (some ((0 : Int32), M1)))) else (if (M1 o0 13) = 2 then (if (M1 o0 14) ≤ v2 then (some ((0 : Int32), M1)) else (if (M1 o0 17) < (M1 o0 14) then (some ((0 : Int32), M1)) else (some ((1 : Int32), M1)))) else (if (M1 o0 13) = 3 then (if (M1 o0 12) = 0 then none else ilet ((M1 o0 14) - (M1 o0 14) / (M1 o0 12) * (M1 o0 12)) (fun v3 => if inB v3 (alen (link o0 4)) then if (M1 (link o0 4) v3.toNatClampNeg) = (1 : Int32) then (if inB v3 (alen (link o0 2)) then if inB (M1 (link o0 2) v3.toNatClampNeg) (alen (link o0 1)) then if (M1 (link o0 1) (M1 (link o0 2) v3.toNatClampNeg).toNatClampNeg) = (1 : Int32) then (some ((1 : Int32), M1)) else (some ((0 : Int32), M1)) else none else none) else (some ((0 : Int32), M1)) else none)) else (if (M1 o0 13) = 4 then (if (M1 o0 17) = (M1 o0 14) then (some ((1 : Int32), M1)) else (some ((0 : Int32), M1))) else (if (M1 o0 14) ≤ v2 then (some ((0 : Int32), M1)) else (some ((1 : Int32), M1))))))) else (some ((1 : Int32), M1))))
set_option maxRecDepth 100000 in
set_option maxHeartbeats 4000000 in
theorem b9_doesStop {w : WE} {g : GT} (C : CT w g RX9 cX9_doesStop rm9_doesStop 3) (RT : RTi w g cX9_doesStop .boolean) (o0 : Nat) (h0 : typ o0 = 9) (M : Mem) : J w g (s9_doesStop o0 M) M 0 [(0, .ref (wa w o0))] [] := by
  rw [s9_doesStop]
  refine J_aload_n C dX9_doesStop_0 rfl 0 rfl ?_
  refine J_aload_n C dX9_doesStop_1 rfl 0 rfl ?_
  refine J_geti C fk9_16 W4_193 h0 dX9_doesStop_2 ?_
  refine J_ldc C W5_213 dX9_doesStop_5 ?_
  refine J_imul C dX9_doesStop_7 ?_
  refine J_sipush C dX9_doesStop_8 kcs_12345 ?_
  refine J_iadd C dX9_doesStop_11 ?_
  refine J_puti C fk9_16 W4_193 fp9_16 h0 dX9_doesStop_12 ?_
  refine J_mlet (fun M1 => ?_)
  refine J_aload_n C dX9_doesStop_15 rfl 0 rfl ?_
  refine J_geti C fk9_16 W4_193 h0 dX9_doesStop_16 ?_
  refine J_ldc C W5_214 dX9_doesStop_19 ?_
  refine J_iand C dX9_doesStop_21 ?_
  refine J_ldc C W5_215 dX9_doesStop_22 ?_
  refine J_idiv_c C (by decide) dX9_doesStop_24 ?_
  refine J_bipush C dX9_doesStop_25 kcb_100 ?_
  refine J_irem_c C (by decide) dX9_doesStop_27 ?_
  refine J_ilet (fun v2 => ?_)
  refine J_istore_n (lv' := [(1, .int v2), (0, .ref (wa w o0))]) C dX9_doesStop_28 rfl (by decide) rfl ?_
  refine J_aload_n C dX9_doesStop_29 rfl 1 rfl ?_
  refine J_geti C fk9_17 W4_194 h0 dX9_doesStop_30 ?_
  refine J_sipush C dX9_doesStop_33 kcs_300 ?_
  refine J_icmp_lt (tgt := 41) C dX9_doesStop_36 (by decide) (fun _ => ?_) (fun _ => ?_)
  · refine J_aload_n C dX9_doesStop_41 rfl 1 rfl ?_
    refine J_geti C fk9_13 W4_190 h0 dX9_doesStop_42 ?_
    refine J_ite (fun hc0 => ?_) (fun hc0 => ?_)
    · refine J_tsin (tgt := 76) C dX9_doesStop_45 (by rw [hc0]; decide) (by rw [hc0]; decide) (off := 31) (by rw [hc0]; rfl) (by decide) ?_
      refine J_iload_n C dX9_doesStop_76 rfl 0 rfl ?_
      refine J_aload_n C dX9_doesStop_77 rfl 1 rfl ?_
      refine J_geti C fk9_14 W4_191 h0 dX9_doesStop_78 ?_
      refine J_icmp_ge (tgt := 98) C dX9_doesStop_81 (by decide) (fun _ => ?_) (fun _ => ?_)
      · refine J_iconst C dX9_doesStop_98 kci_0 ?_
        exact J_iret C RT (by decide) dX9_doesStop_99
      · refine J_aload_n C dX9_doesStop_84 rfl 1 rfl ?_
        refine J_geti C fk9_17 W4_194 h0 dX9_doesStop_85 ?_
        refine J_bipush C dX9_doesStop_88 kcb_8 ?_
        refine J_irem_c C (by decide) dX9_doesStop_90 ?_
        refine J_if_ne (tgt := 98) C dX9_doesStop_91 (by decide) (fun _ => ?_) (fun _ => ?_)
        · refine J_iconst C dX9_doesStop_98 kci_0 ?_
          exact J_iret C RT (by decide) dX9_doesStop_99
        · refine J_iconst C dX9_doesStop_94 kci_1 ?_
          refine J_goto (tgt := 99) C dX9_doesStop_95 (by decide) ?_
          exact J_iret C RT (by decide) dX9_doesStop_99
    · refine J_ite (fun hc1 => ?_) (fun hc1 => ?_)
      · refine J_tsin (tgt := 100) C dX9_doesStop_45 (by rw [hc1]; decide) (by rw [hc1]; decide) (off := 55) (by rw [hc1]; rfl) (by decide) ?_
        refine J_iload_n C dX9_doesStop_100 rfl 0 rfl ?_
        refine J_aload_n C dX9_doesStop_101 rfl 1 rfl ?_
        refine J_geti C fk9_14 W4_191 h0 dX9_doesStop_102 ?_
        refine J_icmp_ge (tgt := 123) C dX9_doesStop_105 (by decide) (fun _ => ?_) (fun _ => ?_)
        · refine J_iconst C dX9_doesStop_123 kci_0 ?_
          exact J_iret C RT (by decide) dX9_doesStop_124
        · refine J_aload_n C dX9_doesStop_108 rfl 1 rfl ?_
          refine J_geti C fk9_17 W4_194 h0 dX9_doesStop_109 ?_
          refine J_aload_n C dX9_doesStop_112 rfl 1 rfl ?_
          refine J_geti C fk9_14 W4_191 h0 dX9_doesStop_113 ?_
          refine J_icmp_lt (tgt := 123) C dX9_doesStop_116 (by decide) (fun _ => ?_) (fun _ => ?_)
          · refine J_iconst C dX9_doesStop_123 kci_0 ?_
            exact J_iret C RT (by decide) dX9_doesStop_124
          · refine J_iconst C dX9_doesStop_119 kci_1 ?_
            refine J_goto (tgt := 124) C dX9_doesStop_120 (by decide) ?_
            exact J_iret C RT (by decide) dX9_doesStop_124
      · refine J_ite (fun hc2 => ?_) (fun hc2 => ?_)
        · refine J_tsin (tgt := 125) C dX9_doesStop_45 (by rw [hc2]; decide) (by rw [hc2]; decide) (off := 80) (by rw [hc2]; rfl) (by decide) ?_
          refine J_aload_n C dX9_doesStop_125 rfl 1 rfl ?_
          refine J_geti C fk9_14 W4_191 h0 dX9_doesStop_126 ?_
          refine J_aload_n C dX9_doesStop_129 rfl 1 rfl ?_
          refine J_geti C fk9_12 W4_189 h0 dX9_doesStop_130 ?_
          refine J_irem C dX9_doesStop_133 ?_
          refine J_ilet (fun v3 => ?_)
          refine J_istore_n (lv' := [(2, .int v3), (1, .int v2), (0, .ref (wa w o0))]) C dX9_doesStop_134 rfl (by decide) rfl ?_
          refine J_aload_n C dX9_doesStop_135 rfl 2 rfl ?_
          refine J_getr C fk9_4 W4_181 h0 dX9_doesStop_136 ?_
          refine J_iload_n C dX9_doesStop_139 rfl 0 rfl ?_
          refine J_aload_ C (tl_9_4 h0) dX9_doesStop_140 ?_
          refine J_iconst C dX9_doesStop_141 kci_1 ?_
          refine J_icmp_ne (tgt := 164) C dX9_doesStop_142 (by decide) (fun _ => ?_) (fun _ => ?_)
          · refine J_iconst C dX9_doesStop_164 kci_0 ?_
            exact J_iret C RT (by decide) dX9_doesStop_165
          · refine J_aload_n C dX9_doesStop_145 rfl 2 rfl ?_
            refine J_getr C fk9_1 W4_178 h0 dX9_doesStop_146 ?_
            refine J_aload_n C dX9_doesStop_149 rfl 2 rfl ?_
            refine J_getr C fk9_2 W4_179 h0 dX9_doesStop_150 ?_
            refine J_iload_n C dX9_doesStop_153 rfl 0 rfl ?_
            refine J_aload_ C (tl_9_2 h0) dX9_doesStop_154 ?_
            refine J_aload_ C (tl_9_1 h0) dX9_doesStop_155 ?_
            refine J_iconst C dX9_doesStop_156 kci_1 ?_
            refine J_icmp_ne (tgt := 164) C dX9_doesStop_157 (by decide) (fun _ => ?_) (fun _ => ?_)
            · refine J_iconst C dX9_doesStop_164 kci_0 ?_
              exact J_iret C RT (by decide) dX9_doesStop_165
            · refine J_iconst C dX9_doesStop_160 kci_1 ?_
              refine J_goto (tgt := 165) C dX9_doesStop_161 (by decide) ?_
              exact J_iret C RT (by decide) dX9_doesStop_165
        · refine J_ite (fun hc3 => ?_) (fun hc3 => ?_)
          · refine J_tsin (tgt := 166) C dX9_doesStop_45 (by rw [hc3]; decide) (by rw [hc3]; decide) (off := 121) (by rw [hc3]; rfl) (by decide) ?_
            refine J_aload_n C dX9_doesStop_166 rfl 1 rfl ?_
            refine J_geti C fk9_17 W4_194 h0 dX9_doesStop_167 ?_
            refine J_aload_n C dX9_doesStop_170 rfl 1 rfl ?_
            refine J_geti C fk9_14 W4_191 h0 dX9_doesStop_171 ?_
            refine J_icmp_ne (tgt := 181) C dX9_doesStop_174 (by decide) (fun _ => ?_) (fun _ => ?_)
            · refine J_iconst C dX9_doesStop_181 kci_0 ?_
              exact J_iret C RT (by decide) dX9_doesStop_182
            · refine J_iconst C dX9_doesStop_177 kci_1 ?_
              refine J_goto (tgt := 182) C dX9_doesStop_178 (by decide) ?_
              exact J_iret C RT (by decide) dX9_doesStop_182
          · refine J_tsout (tgt := 183) C dX9_doesStop_45 (by have q0 := lv_neT hc0 (a := 1) rfl; have q1 := lv_neT hc1 (a := 2) rfl; have q2 := lv_neT hc2 (a := 3) rfl; have q3 := lv_neT hc3 (a := 4) rfl; omega) (by decide) ?_
            refine J_iload_n C dX9_doesStop_183 rfl 0 rfl ?_
            refine J_aload_n C dX9_doesStop_184 rfl 1 rfl ?_
            refine J_geti C fk9_14 W4_191 h0 dX9_doesStop_185 ?_
            refine J_icmp_ge (tgt := 195) C dX9_doesStop_188 (by decide) (fun _ => ?_) (fun _ => ?_)
            · refine J_iconst C dX9_doesStop_195 kci_0 ?_
              exact J_iret C RT (by decide) dX9_doesStop_196
            · refine J_iconst C dX9_doesStop_191 kci_1 ?_
              refine J_goto (tgt := 196) C dX9_doesStop_192 (by decide) ?_
              exact J_iret C RT (by decide) dX9_doesStop_196
  · refine J_iconst C dX9_doesStop_39 kci_1 ?_
    exact J_iret C RT (by decide) dX9_doesStop_40
theorem c9_doesStop (l : Launch) (w : WE) (o0 : Nat) (h0 : typ o0 = 9) (M : Mem) : MC l w yX9_doesStop (wz yX9_doesStop cX9_doesStop 3 (some .boolean)) rm9_doesStop [.ref (wa w o0)] (s9_doesStop o0 M) M :=
  mc_of_J (own := RX9) rfl (by decide) rfl rfl (Nat.le_of_ble_eq_true rfl) (fun _ _ C RT => b9_doesStop C RT o0 h0 M)
theorem hdX9_doesStop : yX9_doesStop.cls = RX9 ∧ yOK yX9_doesStop 0 := ⟨rfl, by decide, by decide, by decide⟩
