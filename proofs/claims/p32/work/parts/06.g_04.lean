abbrev rm0_countSeatedTimes : Room := { frames := 4, cells := 0, slots := 0, locals := 92 }
def s0_countSeatedTimes_45 (n : Nat) (k34 : Int32 → Mem → Option Res) (o0 : Nat) (x1 : Int32) (x2 : Int32) : Nat → Int32 → Mem → Option Res
  | 0, _, _ => none
  | f + 1, x3, M => if (12 : Int32) ≤ x3 then (ilet (x2 + 1) (fun v5 => k34 v5 M)) else (if inB x3 (alen (link o0 2)) then cb (s5_isSeated (link (link o0 1) 2) x3 M) (fun r7 M6 => if r7 = 0 then (if inB x3 (alen (link o0 2)) then mlet (mset M6 (link o0 2) x3.toNatClampNeg ((M (link o0 2) x3.toNatClampNeg) + (0 : Int32))) (fun M8 => ilet (x3 + 1) (fun v9 => s0_countSeatedTimes_45 n k34 o0 x1 x2 f v9 M8)) else none) else (if inB x3 (alen (link o0 2)) then mlet (mset M6 (link o0 2) x3.toNatClampNeg ((M (link o0 2) x3.toNatClampNeg) + (1 : Int32))) (fun M10 => ilet (x3 + 1) (fun v11 => s0_countSeatedTimes_45 n k34 o0 x1 x2 f v11 M10)) else none)) else none)
set_option maxRecDepth 100000 in
set_option maxHeartbeats 4000000 in
theorem b0_countSeatedTimes_45 {w : WE} {g : GT} (C : CT w g RX0 cX0_countSeatedTimes rm0_countSeatedTimes 4) (RT : RTv w g cX0_countSeatedTimes) (n : Nat) (k34 : Int32 → Mem → Option Res) (o0 : Nat) (h0 : typ o0 = 0) (x1 : Int32) (x2 : Int32) (hk34 : ∀ (z2 : Int32) (M : Mem), J w g (k34 z2 M) M 34 [(0, .ref (wa w o0)), (1, .int x1), (2, .int z2)] []) : ∀ (f : Nat) (x3 : Int32) (M : Mem), J w g (s0_countSeatedTimes_45 n k34 o0 x1 x2 f x3 M) M 45 [(0, .ref (wa w o0)), (1, .int x1), (2, .int x2), (3, .int x3)] [] := by
  intro f
  induction f with
  | zero =>
    intro x3 M
    rw [s0_countSeatedTimes_45]
    exact J_none
  | succ f ih =>
    intro x3 M
    rw [s0_countSeatedTimes_45]
    refine J_iload_n C dX0_countSeatedTimes_45 rfl 3 rfl ?_
    refine J_bipush C dX0_countSeatedTimes_46 kcb_12 ?_
    refine J_icmp_ge (tgt := 85) C dX0_countSeatedTimes_48 (by decide) (fun _ => ?_) (fun _ => ?_)
    · refine J_iinc (lw := fun v5 => [(2, .int v5), (0, .ref (wa w o0)), (1, .int x1), (3, .int x3)]) (X := x2 + 1) C dX0_countSeatedTimes_85 (q := 2) rfl (by rw [kci_1]) (by decide) (fun _ => rfl) (fun v5 => ?_)
      refine J_goto (tgt := 34) C dX0_countSeatedTimes_88 (by decide) ?_
      refine J_lv [1, 2, 0] rfl ?_
      exact hk34 v5 M
    · refine J_aload_n C dX0_countSeatedTimes_51 rfl 0 rfl ?_
      refine J_getr C fk0_2 W1_218 h0 dX0_countSeatedTimes_52 ?_
      refine J_iload_n C dX0_countSeatedTimes_55 rfl 3 rfl ?_
      refine J_dup2 C rfl rfl dX0_countSeatedTimes_56 ?_
      refine J_aload_ C (tl_0_2 h0) dX0_countSeatedTimes_57 ?_
      refine J_aload_n C dX0_countSeatedTimes_58 rfl 0 rfl ?_
      refine J_getr C fk0_1 W1_217 h0 dX0_countSeatedTimes_59 ?_
      refine J_getr C fk2_2 W1_172 (tl_0_1 h0) dX0_countSeatedTimes_62 ?_
      refine J_iload_n C dX0_countSeatedTimes_65 rfl 3 rfl ?_
      refine J_cvi (As := [.int x3]) C (c5_isSeated (gl g) w (link (link o0 1) 2) (tl_2_2 (tl_0_1 h0)) x3 M) (gd_v W4_1 W3_172 W3_173 W1_6 W3_174) rfl (by decide) (hdX5_isSeated) (tl_2_2 (tl_0_1 h0)) (by decide) (cl_5) rfl (Nat.le_of_ble_eq_true rfl) dX0_countSeatedTimes_66 rfl (fun r7 M6 => ?_)
      refine J_if_eq (tgt := 76) C dX0_countSeatedTimes_69 (by decide) (fun _ => ?_) (fun _ => ?_)
      · refine J_iconst C dX0_countSeatedTimes_76 kci_0 ?_
        refine J_iadd C dX0_countSeatedTimes_77 ?_
        refine J_iastore C (tl_0_2 h0) dX0_countSeatedTimes_78 ?_
        refine J_mlet (fun M8 => ?_)
        refine J_iinc (lw := fun v9 => [(3, .int v9), (0, .ref (wa w o0)), (1, .int x1), (2, .int x2)]) (X := x3 + 1) C dX0_countSeatedTimes_79 (q := 3) rfl (by rw [kci_1]) (by decide) (fun _ => rfl) (fun v9 => ?_)
        refine J_goto (tgt := 45) C dX0_countSeatedTimes_82 (by decide) ?_
        refine J_lv [1, 2, 3, 0] rfl ?_
        exact ih v9 M8
      · refine J_iconst C dX0_countSeatedTimes_72 kci_1 ?_
        refine J_goto (tgt := 77) C dX0_countSeatedTimes_73 (by decide) ?_
        refine J_iadd C dX0_countSeatedTimes_77 ?_
        refine J_iastore C (tl_0_2 h0) dX0_countSeatedTimes_78 ?_
        refine J_mlet (fun M10 => ?_)
        refine J_iinc (lw := fun v11 => [(3, .int v11), (0, .ref (wa w o0)), (1, .int x1), (2, .int x2)]) (X := x3 + 1) C dX0_countSeatedTimes_79 (q := 3) rfl (by rw [kci_1]) (by decide) (fun _ => rfl) (fun v11 => ?_)
        refine J_goto (tgt := 45) C dX0_countSeatedTimes_82 (by decide) ?_
        refine J_lv [1, 2, 3, 0] rfl ?_
        exact ih v11 M10
def s0_countSeatedTimes_34 (n : Nat) (o0 : Nat) (x1 : Int32) : Nat → Int32 → Mem → Option Res
  | 0, _, _ => none
  | f + 1, x2, M => if x1 ≤ x2 then (some (0, M)) else (cb (s0_seatBehindTenth n o0 M) (fun _ M3 => s0_countSeatedTimes_45 n (s0_countSeatedTimes_34 n o0 x1 f) o0 x1 x2 n (0 : Int32) M3))
set_option maxRecDepth 100000 in
set_option maxHeartbeats 4000000 in
theorem b0_countSeatedTimes_34 {w : WE} {g : GT} (C : CT w g RX0 cX0_countSeatedTimes rm0_countSeatedTimes 4) (RT : RTv w g cX0_countSeatedTimes) (n : Nat) (o0 : Nat) (h0 : typ o0 = 0) (x1 : Int32) : ∀ (f : Nat) (x2 : Int32) (M : Mem), J w g (s0_countSeatedTimes_34 n o0 x1 f x2 M) M 34 [(0, .ref (wa w o0)), (1, .int x1), (2, .int x2)] [] := by
  intro f
  induction f with
  | zero =>
    intro x2 M
    rw [s0_countSeatedTimes_34]
    exact J_none
  | succ f ih =>
    intro x2 M
    rw [s0_countSeatedTimes_34]
    refine J_iload_n C dX0_countSeatedTimes_34 rfl 2 rfl ?_
    refine J_iload_n C dX0_countSeatedTimes_35 rfl 1 rfl ?_
    refine J_icmp_ge (tgt := 91) C dX0_countSeatedTimes_36 (by decide) (fun _ => ?_) (fun _ => ?_)
    · exact J_vret C RT dX0_countSeatedTimes_91
    · refine J_aload_n C dX0_countSeatedTimes_39 rfl 0 rfl ?_
      refine J_cvv (As := []) C (c0_seatBehindTenth (gl g) w n o0 h0 M) (gd_v W3_235 W3_237 WP_20 W1_2 W3_238) rfl (by decide) (hdX0_seatBehindTenth) h0 (by decide) (cl_0) rfl (Nat.le_of_ble_eq_true rfl) dX0_countSeatedTimes_40 rfl (fun r4 M3 => ?_)
      refine J_iconst C dX0_countSeatedTimes_43 kci_0 ?_
      refine J_istore_n (lv' := [(3, .int (0 : Int32)), (0, .ref (wa w o0)), (1, .int x1), (2, .int x2)]) C dX0_countSeatedTimes_44 rfl (by decide) rfl ?_
      refine J_lv [1, 2, 3, 0] rfl ?_
      exact b0_countSeatedTimes_45 C RT n (s0_countSeatedTimes_34 n o0 x1 f) o0 h0 x1 x2 ih n (0 : Int32) M3
def s0_countSeatedTimes_13 (n : Nat) (o0 : Nat) (x1 : Int32) : Nat → Int32 → Mem → Option Res
  | 0, _, _ => none
  | f + 1, x2, M => if (12 : Int32) ≤ x2 then (s0_countSeatedTimes_34 n o0 x1 n (0 : Int32) M) else (if inB x2 (alen (link o0 2)) then mlet (mset M (link o0 2) x2.toNatClampNeg (0 : Int32)) (fun M12 => ilet (x2 + 1) (fun v13 => s0_countSeatedTimes_13 n o0 x1 f v13 M12)) else none)
set_option maxRecDepth 100000 in
set_option maxHeartbeats 4000000 in
theorem b0_countSeatedTimes_13 {w : WE} {g : GT} (C : CT w g RX0 cX0_countSeatedTimes rm0_countSeatedTimes 4) (RT : RTv w g cX0_countSeatedTimes) (n : Nat) (o0 : Nat) (h0 : typ o0 = 0) (x1 : Int32) : ∀ (f : Nat) (x2 : Int32) (M : Mem), J w g (s0_countSeatedTimes_13 n o0 x1 f x2 M) M 13 [(0, .ref (wa w o0)), (1, .int x1), (2, .int x2)] [] := by
  intro f
  induction f with
  | zero =>
    intro x2 M
    rw [s0_countSeatedTimes_13]
    exact J_none
  | succ f ih =>
    intro x2 M
    rw [s0_countSeatedTimes_13]
    refine J_iload_n C dX0_countSeatedTimes_13 rfl 2 rfl ?_
    refine J_bipush C dX0_countSeatedTimes_14 kcb_12 ?_
    refine J_icmp_ge (tgt := 32) C dX0_countSeatedTimes_16 (by decide) (fun _ => ?_) (fun _ => ?_)
    · refine J_iconst C dX0_countSeatedTimes_32 kci_0 ?_
      refine J_istore_n (lv' := [(2, .int (0 : Int32)), (0, .ref (wa w o0)), (1, .int x1)]) C dX0_countSeatedTimes_33 rfl (by decide) rfl ?_
      refine J_lv [1, 2, 0] rfl ?_
      exact b0_countSeatedTimes_34 C RT n o0 h0 x1 n (0 : Int32) M
    · refine J_aload_n C dX0_countSeatedTimes_19 rfl 0 rfl ?_
      refine J_getr C fk0_2 W1_218 h0 dX0_countSeatedTimes_20 ?_
      refine J_iload_n C dX0_countSeatedTimes_23 rfl 2 rfl ?_
      refine J_iconst C dX0_countSeatedTimes_24 kci_0 ?_
      refine J_iastore C (tl_0_2 h0) dX0_countSeatedTimes_25 ?_
      refine J_mlet (fun M12 => ?_)
      refine J_iinc (lw := fun v13 => [(2, .int v13), (0, .ref (wa w o0)), (1, .int x1)]) (X := x2 + 1) C dX0_countSeatedTimes_26 (q := 2) rfl (by rw [kci_1]) (by decide) (fun _ => rfl) (fun v13 => ?_)
      refine J_goto (tgt := 13) C dX0_countSeatedTimes_29 (by decide) ?_
      refine J_lv [1, 2, 0] rfl ?_
      exact ih v13 M12
def s0_countSeatedTimes (n : Nat) (o0 : Nat) (x1 : Int32) (M : Mem) : Option Res := cb (s2_become n (link o0 1) (link o0 0) M) (fun _ M1 => s0_countSeatedTimes_13 n o0 x1 n (0 : Int32) M1)
set_option maxRecDepth 100000 in
set_option maxHeartbeats 4000000 in
theorem b0_countSeatedTimes {w : WE} {g : GT} (C : CT w g RX0 cX0_countSeatedTimes rm0_countSeatedTimes 4) (RT : RTv w g cX0_countSeatedTimes) (n : Nat) (o0 : Nat) (h0 : typ o0 = 0) (x1 : Int32) (M : Mem) : J w g (s0_countSeatedTimes n o0 x1 M) M 0 [(0, .ref (wa w o0)), (1, .int x1)] [] := by
  rw [s0_countSeatedTimes]
  refine J_aload_n C dX0_countSeatedTimes_0 rfl 0 rfl ?_
  refine J_getr C fk0_1 W1_217 h0 dX0_countSeatedTimes_1 ?_
  refine J_aload_n C dX0_countSeatedTimes_4 rfl 0 rfl ?_
  refine J_getr C fk0_0 W1_215 h0 dX0_countSeatedTimes_5 ?_
  refine J_cvv (As := [.ref (wa w (link o0 0))]) C (c2_become (gl g) w n (link o0 1) (tl_0_1 h0) (link o0 0) (tl_0_0 h0) M) (gd_v W2_170 W2_171 W2_172 W1_3 W2_173) rfl (by decide) (hdX2_become) (tl_0_1 h0) (by decide) (cl_2) rfl (Nat.le_of_ble_eq_true rfl) dX0_countSeatedTimes_8 rfl (fun r2 M1 => ?_)
  refine J_iconst C dX0_countSeatedTimes_11 kci_0 ?_
  refine J_istore_n (lv' := [(2, .int (0 : Int32)), (0, .ref (wa w o0)), (1, .int x1)]) C dX0_countSeatedTimes_12 rfl (by decide) rfl ?_
  refine J_lv [1, 2, 0] rfl ?_
  exact b0_countSeatedTimes_13 C RT n o0 h0 x1 n (0 : Int32) M1
theorem c0_countSeatedTimes (l : Launch) (w : WE) (n : Nat) (o0 : Nat) (h0 : typ o0 = 0) (x1 : Int32) (M : Mem) : MV l w yX0_countSeatedTimes (wz yX0_countSeatedTimes cX0_countSeatedTimes 4 none) rm0_countSeatedTimes [.ref (wa w o0), .int x1] (s0_countSeatedTimes n o0 x1 M) M :=
  mv_of_J (own := RX0) rfl (by decide) rfl rfl (Nat.le_of_ble_eq_true rfl) (fun _ _ C RT => b0_countSeatedTimes C RT n o0 h0 x1 M)
theorem hdX0_countSeatedTimes : yX0_countSeatedTimes.cls = RX0 ∧ yOK yX0_countSeatedTimes 1 := ⟨rfl, by decide, by decide, by decide⟩
abbrev rm0_unfairness : Room := { frames := 5, cells := 0, slots := 0, locals := 115 }
def s0_unfairness_12 (n : Nat) (o0 : Nat) : Nat → Int32 → Int32 → Int32 → Mem → Option Res
  | 0, _, _, _, _ => none
  | f + 1, x2, x3, x4, M => if (12 : Int32) ≤ x4 then (some ((if (0 : Int32) < (x2 - x3) then (x2 - x3) else (0 : Int32)), M)) else (cb (s2_knowsIn (link o0 0) x4 M) (fun r4 M3 => if r4 = 0 then (ilet (x4 + 1) (fun v5 => s0_unfairness_12 n o0 f x2 x3 v5 M3)) else (if inB x4 (alen (link o0 2)) then ilet (if x2 < (M3 (link o0 2) x4.toNatClampNeg) then (M3 (link o0 2) x4.toNatClampNeg) else x2) (fun v6 => if inB x4 (alen (link o0 2)) then ilet (if (M3 (link o0 2) x4.toNatClampNeg) < x3 then (M3 (link o0 2) x4.toNatClampNeg) else x3) (fun v7 => ilet (x4 + 1) (fun v8 => s0_unfairness_12 n o0 f v6 v7 v8 M3)) else none) else none)))
set_option maxRecDepth 100000 in
set_option maxHeartbeats 4000000 in
theorem b0_unfairness_12 {w : WE} {g : GT} (C : CT w g RX0 cX0_unfairness rm0_unfairness 5) (RT : RTi w g cX0_unfairness .int) (n : Nat) (o0 : Nat) (h0 : typ o0 = 0) : ∀ (f : Nat) (x2 : Int32) (x3 : Int32) (x4 : Int32) (M : Mem), J w g (s0_unfairness_12 n o0 f x2 x3 x4 M) M 12 [(0, .ref (wa w o0)), (2, .int x2), (3, .int x3), (4, .int x4)] [] := by
  intro f
  induction f with
  | zero =>
    intro x2 x3 x4 M
    rw [s0_unfairness_12]
    exact J_none
  | succ f ih =>
    intro x2 x3 x4 M
    rw [s0_unfairness_12]
    refine J_iload C dX0_unfairness_12 3 rfl ?_
    refine J_bipush C dX0_unfairness_14 kcb_12 ?_
    refine J_icmp_ge (tgt := 61) C dX0_unfairness_16 (by decide) (fun _ => ?_) (fun _ => ?_)
    · refine J_iconst C dX0_unfairness_61 kci_0 ?_
      refine J_iload_n C dX0_unfairness_62 rfl 1 rfl ?_
      refine J_iload_n C dX0_unfairness_63 rfl 2 rfl ?_
      refine J_isub C dX0_unfairness_64 ?_
      refine J_mmax C W4_14 W4_15 W1_16 W4_16 ⟨by decide, by decide⟩ (Nat.le_of_ble_eq_true rfl) dX0_unfairness_65 ?_
      exact J_iret C RT rfl dX0_unfairness_68
    · refine J_aload_n C dX0_unfairness_19 rfl 0 rfl ?_
      refine J_getr C fk0_0 W1_215 h0 dX0_unfairness_20 ?_
      refine J_iload C dX0_unfairness_23 3 rfl ?_
      refine J_cvi (As := [.int x4]) C (c2_knowsIn (gl g) w (link o0 0) (tl_0_0 h0) x4 M) (gd_v W3_234 W3_110 W3_111 W1_3 W3_112) rfl (by decide) (hdX2_knowsIn) (tl_0_0 h0) (by decide) (cl_2) rfl (Nat.le_of_ble_eq_true rfl) dX0_unfairness_25 rfl (fun r4 M3 => ?_)
      refine J_if_eq (tgt := 55) C dX0_unfairness_28 (by decide) (fun _ => ?_) (fun _ => ?_)
      · refine J_iinc (lw := fun v5 => [(4, .int v5), (0, .ref (wa w o0)), (2, .int x2), (3, .int x3)]) (X := x4 + 1) C dX0_unfairness_55 (q := 3) rfl (by rw [kci_1]) (by decide) (fun _ => rfl) (fun v5 => ?_)
        refine J_goto (tgt := 12) C dX0_unfairness_58 (by decide) ?_
        refine J_lv [1, 2, 3, 0] rfl ?_
        exact ih x2 x3 v5 M3
      · refine J_iload_n C dX0_unfairness_31 rfl 1 rfl ?_
        refine J_aload_n C dX0_unfairness_32 rfl 0 rfl ?_
        refine J_getr C fk0_2 W1_218 h0 dX0_unfairness_33 ?_
        refine J_iload C dX0_unfairness_36 3 rfl ?_
        refine J_aload_ C (tl_0_2 h0) dX0_unfairness_38 ?_
        refine J_mmax C W4_14 W4_15 W1_16 W4_16 ⟨by decide, by decide⟩ (Nat.le_of_ble_eq_true rfl) dX0_unfairness_39 ?_
        refine J_ilet (fun v6 => ?_)
        refine J_istore_n (lv' := [(2, .int v6), (0, .ref (wa w o0)), (3, .int x3), (4, .int x4)]) C dX0_unfairness_42 rfl (by decide) rfl ?_
        refine J_iload_n C dX0_unfairness_43 rfl 2 rfl ?_
        refine J_aload_n C dX0_unfairness_44 rfl 1 rfl ?_
        refine J_getr C fk0_2 W1_218 h0 dX0_unfairness_45 ?_
        refine J_iload C dX0_unfairness_48 3 rfl ?_
        refine J_aload_ C (tl_0_2 h0) dX0_unfairness_50 ?_
        refine J_mmin C W4_17 W4_18 W1_16 W4_19 ⟨by decide, by decide⟩ (Nat.le_of_ble_eq_true rfl) dX0_unfairness_51 ?_
        refine J_ilet (fun v7 => ?_)
        refine J_istore_n (lv' := [(3, .int v7), (2, .int v6), (0, .ref (wa w o0)), (4, .int x4)]) C dX0_unfairness_54 rfl (by decide) rfl ?_
        refine J_iinc (lw := fun v8 => [(4, .int v8), (3, .int v7), (2, .int v6), (0, .ref (wa w o0))]) (X := x4 + 1) C dX0_unfairness_55 (q := 3) rfl (by rw [kci_1]) (by decide) (fun _ => rfl) (fun v8 => ?_)
        refine J_goto (tgt := 12) C dX0_unfairness_58 (by decide) ?_
        refine J_lv [3, 2, 1, 0] rfl ?_
        exact ih v6 v7 v8 M3
def s0_unfairness (n : Nat) (o0 : Nat) (x1 : Int32) (M : Mem) : Option Res := cb (s0_countSeatedTimes n o0 x1 M) (fun _ M1 => s0_unfairness_12 n o0 n (0 : Int32) x1 (0 : Int32) M1)
set_option maxRecDepth 100000 in
set_option maxHeartbeats 4000000 in
theorem b0_unfairness {w : WE} {g : GT} (C : CT w g RX0 cX0_unfairness rm0_unfairness 5) (RT : RTi w g cX0_unfairness .int) (n : Nat) (o0 : Nat) (h0 : typ o0 = 0) (x1 : Int32) (M : Mem) : J w g (s0_unfairness n o0 x1 M) M 0 [(0, .ref (wa w o0)), (1, .int x1)] [] := by
  rw [s0_unfairness]
  refine J_aload_n C dX0_unfairness_0 rfl 0 rfl ?_
  refine J_iload_n C dX0_unfairness_1 rfl 1 rfl ?_
  refine J_cvv (As := [.int x1]) C (c0_countSeatedTimes (gl g) w n o0 h0 x1 M) (gd_v W4_10 W4_12 WP_21 W1_2 W4_13) rfl (by decide) (hdX0_countSeatedTimes) h0 (by decide) (cl_0) rfl (Nat.le_of_ble_eq_true rfl) dX0_unfairness_2 rfl (fun r2 M1 => ?_)
  refine J_iconst C dX0_unfairness_5 kci_0 ?_
  refine J_istore_n (lv' := [(2, .int (0 : Int32)), (0, .ref (wa w o0)), (1, .int x1)]) C dX0_unfairness_6 rfl (by decide) rfl ?_
  refine J_iload_n C dX0_unfairness_7 rfl 2 rfl ?_
  refine J_istore_n (lv' := [(3, .int x1), (2, .int (0 : Int32)), (0, .ref (wa w o0)), (1, .int x1)]) C dX0_unfairness_8 rfl (by decide) rfl ?_
  refine J_iconst C dX0_unfairness_9 kci_0 ?_
  refine J_istore (lv' := [(4, .int (0 : Int32)), (3, .int x1), (2, .int (0 : Int32)), (0, .ref (wa w o0)), (1, .int x1)]) C dX0_unfairness_10 (by decide) rfl ?_
  refine J_lv [3, 2, 1, 0] rfl ?_
  exact b0_unfairness_12 C RT n o0 h0 n (0 : Int32) x1 (0 : Int32) M1
theorem c0_unfairness (l : Launch) (w : WE) (n : Nat) (o0 : Nat) (h0 : typ o0 = 0) (x1 : Int32) (M : Mem) : MC l w yX0_unfairness (wz yX0_unfairness cX0_unfairness 5 (some .int)) rm0_unfairness [.ref (wa w o0), .int x1] (s0_unfairness n o0 x1 M) M :=
  mc_of_J (own := RX0) rfl (by decide) rfl rfl (Nat.le_of_ble_eq_true rfl) (fun _ _ C RT => b0_unfairness C RT n o0 h0 x1 M)
theorem hdX0_unfairness : yX0_unfairness.cls = RX0 ∧ yOK yX0_unfairness 1 := ⟨rfl, by decide, by decide, by decide⟩
abbrev rm0_slowOfGreatestOdds : Room := { frames := 5, cells := 0, slots := 0, locals := 117 }
def s0_slowOfGreatestOdds_10 (n : Nat) (o0 : Nat) (x1 : Int32) (x2 : Int32) : Nat → Int32 → Int32 → Int32 → Mem → Option Res
  | 0, _, _, _, _ => none
  | f + 1, x3, x4, x5, M => if (90 : Int32) < x5 then (some (x3, M)) else (cb (s0_oddsAt n o0 x1 x2 x5 M) (fun r2 M1 => if r2 ≤ x4 then (ilet (x5 + 10) (fun v3 => s0_slowOfGreatestOdds_10 n o0 x1 x2 f x3 x4 v3 M1)) else (ilet (x5 + 10) (fun v4 => s0_slowOfGreatestOdds_10 n o0 x1 x2 f x5 r2 v4 M1))))
set_option maxRecDepth 100000 in
set_option maxHeartbeats 4000000 in
theorem b0_slowOfGreatestOdds_10 {w : WE} {g : GT} (C : CT w g RX0 cX0_slowOfGreatestOdds rm0_slowOfGreatestOdds 7) (RT : RTi w g cX0_slowOfGreatestOdds .int) (n : Nat) (o0 : Nat) (h0 : typ o0 = 0) (x1 : Int32) (x2 : Int32) : ∀ (f : Nat) (x3 : Int32) (x4 : Int32) (x5 : Int32) (M : Mem), J w g (s0_slowOfGreatestOdds_10 n o0 x1 x2 f x3 x4 x5 M) M 10 [(0, .ref (wa w o0)), (1, .int x1), (2, .int x2), (3, .int x3), (4, .int x4), (5, .int x5)] [] := by
  intro f
  induction f with
  | zero =>
    intro x3 x4 x5 M
    rw [s0_slowOfGreatestOdds_10]
    exact J_none
  | succ f ih =>
    intro x3 x4 x5 M
    rw [s0_slowOfGreatestOdds_10]
    refine J_iload C dX0_slowOfGreatestOdds_10 5 rfl ?_
    refine J_bipush C dX0_slowOfGreatestOdds_12 kcb_90 ?_
    refine J_icmp_gt (tgt := 47) C dX0_slowOfGreatestOdds_14 (by decide) (fun _ => ?_) (fun _ => ?_)
    · refine J_iload_n C dX0_slowOfGreatestOdds_47 rfl 3 rfl ?_
      exact J_iret C RT rfl dX0_slowOfGreatestOdds_48
    · refine J_aload_n C dX0_slowOfGreatestOdds_17 rfl 0 rfl ?_
      refine J_iload_n C dX0_slowOfGreatestOdds_18 rfl 1 rfl ?_
      refine J_iload_n C dX0_slowOfGreatestOdds_19 rfl 2 rfl ?_
      refine J_iload C dX0_slowOfGreatestOdds_20 5 rfl ?_
      refine J_cvi (As := [.int x1, .int x2, .int x5]) C (c0_oddsAt (gl g) w n o0 h0 x1 x2 x5 M) (gd_v W4_28 W3_231 W3_232 W1_2 W3_233) rfl (by decide) (hdX0_oddsAt) h0 (by decide) (cl_0) rfl (Nat.le_of_ble_eq_true rfl) dX0_slowOfGreatestOdds_22 rfl (fun r2 M1 => ?_)
      refine J_istore (lv' := [(6, .int r2), (0, .ref (wa w o0)), (1, .int x1), (2, .int x2), (3, .int x3), (4, .int x4), (5, .int x5)]) C dX0_slowOfGreatestOdds_25 (by decide) rfl ?_
      refine J_iload C dX0_slowOfGreatestOdds_27 0 rfl ?_
      refine J_iload C dX0_slowOfGreatestOdds_29 5 rfl ?_
      refine J_icmp_le (tgt := 41) C dX0_slowOfGreatestOdds_31 (by decide) (fun _ => ?_) (fun _ => ?_)
      · refine J_iinc (lw := fun v3 => [(5, .int v3), (6, .int r2), (0, .ref (wa w o0)), (1, .int x1), (2, .int x2), (3, .int x3), (4, .int x4)]) (X := x5 + 10) C dX0_slowOfGreatestOdds_41 (q := 6) rfl (by rw [kci_10]) (by decide) (fun _ => rfl) (fun v3 => ?_)
        refine J_goto (tgt := 10) C dX0_slowOfGreatestOdds_44 (by decide) ?_
        refine J_lv [2, 3, 4, 5, 6, 0] rfl ?_
        exact ih x3 x4 v3 M1
      · refine J_iload C dX0_slowOfGreatestOdds_34 0 rfl ?_
        refine J_istore (lv' := [(4, .int r2), (6, .int r2), (0, .ref (wa w o0)), (1, .int x1), (2, .int x2), (3, .int x3), (5, .int x5)]) C dX0_slowOfGreatestOdds_36 (by decide) rfl ?_
        refine J_iload C dX0_slowOfGreatestOdds_38 6 rfl ?_
        refine J_istore_n (lv' := [(3, .int x5), (4, .int r2), (6, .int r2), (0, .ref (wa w o0)), (1, .int x1), (2, .int x2), (5, .int x5)]) C dX0_slowOfGreatestOdds_40 rfl (by decide) rfl ?_
        refine J_iinc (lw := fun v4 => [(5, .int v4), (3, .int x5), (4, .int r2), (6, .int r2), (0, .ref (wa w o0)), (1, .int x1), (2, .int x2)]) (X := x5 + 10) C dX0_slowOfGreatestOdds_41 (q := 6) rfl (by rw [kci_10]) (by decide) (fun _ => rfl) (fun v4 => ?_)
        refine J_goto (tgt := 10) C dX0_slowOfGreatestOdds_44 (by decide) ?_
        refine J_lv [4, 5, 6, 1, 2, 0] rfl ?_
        exact ih x5 r2 v4 M1
def s0_slowOfGreatestOdds (n : Nat) (o0 : Nat) (x1 : Int32) (x2 : Int32) (M : Mem) : Option Res := s0_slowOfGreatestOdds_10 n o0 x1 x2 n (10 : Int32) (-1 : Int32) (10 : Int32) M
set_option maxRecDepth 100000 in
set_option maxHeartbeats 4000000 in
theorem b0_slowOfGreatestOdds {w : WE} {g : GT} (C : CT w g RX0 cX0_slowOfGreatestOdds rm0_slowOfGreatestOdds 7) (RT : RTi w g cX0_slowOfGreatestOdds .int) (n : Nat) (o0 : Nat) (h0 : typ o0 = 0) (x1 : Int32) (x2 : Int32) (M : Mem) : J w g (s0_slowOfGreatestOdds n o0 x1 x2 M) M 0 [(0, .ref (wa w o0)), (1, .int x1), (2, .int x2)] [] := by
  rw [s0_slowOfGreatestOdds]
  refine J_bipush C dX0_slowOfGreatestOdds_0 kcb_10 ?_
  refine J_istore_n (lv' := [(3, .int (10 : Int32)), (0, .ref (wa w o0)), (1, .int x1), (2, .int x2)]) C dX0_slowOfGreatestOdds_2 rfl (by decide) rfl ?_
  refine J_iconst C dX0_slowOfGreatestOdds_3 kci_m1 ?_
  refine J_istore (lv' := [(4, .int (-1 : Int32)), (3, .int (10 : Int32)), (0, .ref (wa w o0)), (1, .int x1), (2, .int x2)]) C dX0_slowOfGreatestOdds_4 (by decide) rfl ?_
  refine J_bipush C dX0_slowOfGreatestOdds_6 kcb_10 ?_
  refine J_istore (lv' := [(5, .int (10 : Int32)), (4, .int (-1 : Int32)), (3, .int (10 : Int32)), (0, .ref (wa w o0)), (1, .int x1), (2, .int x2)]) C dX0_slowOfGreatestOdds_8 (by decide) rfl ?_
  refine J_lv [3, 4, 5, 2, 1, 0] rfl ?_
  exact b0_slowOfGreatestOdds_10 C RT n o0 h0 x1 x2 n (10 : Int32) (-1 : Int32) (10 : Int32) M
theorem c0_slowOfGreatestOdds (l : Launch) (w : WE) (n : Nat) (o0 : Nat) (h0 : typ o0 = 0) (x1 : Int32) (x2 : Int32) (M : Mem) : MC l w yX0_slowOfGreatestOdds (wz yX0_slowOfGreatestOdds cX0_slowOfGreatestOdds 7 (some .int)) rm0_slowOfGreatestOdds [.ref (wa w o0), .int x1, .int x2] (s0_slowOfGreatestOdds n o0 x1 x2 M) M :=
  mc_of_J (own := RX0) rfl (by decide) rfl rfl (Nat.le_of_ble_eq_true rfl) (fun _ _ C RT => b0_slowOfGreatestOdds C RT n o0 h0 x1 x2 M)
theorem hdX0_slowOfGreatestOdds : yX0_slowOfGreatestOdds.cls = RX0 ∧ yOK yX0_slowOfGreatestOdds 2 := ⟨rfl, by decide, by decide, by decide⟩
abbrev rm0_gainOfCheating : Room := { frames := 5, cells := 0, slots := 0, locals := 117 }
def s0_gainOfCheating_35 (n : Nat) (o0 : Nat) (x1 : Int32) (x2 : Int32) (x3 : Int32) : Nat → Int32 → Mem → Option Res
  | 0, _, _ => none
  | f + 1, x4, M => if (91 : Int32) < x4 then (some ((0 : Int32), M)) else (if x2 ≤ x3 then (some ((0 : Int32), M)) else (cb (s0_oddsAt n o0 x1 x2 x4 M) (fun r7 M6 => if r7 ≤ x3 then (ilet (x4 + 10) (fun v8 => s0_gainOfCheating_35 n o0 x1 x2 x3 f v8 M6)) else (some (r7 - x3, M6)))))
set_option maxRecDepth 100000 in
set_option maxHeartbeats 4000000 in
theorem b0_gainOfCheating_35 {w : WE} {g : GT} (C : CT w g RX0 cX0_gainOfCheating rm0_gainOfCheating 6) (RT : RTi w g cX0_gainOfCheating .int) (n : Nat) (o0 : Nat) (h0 : typ o0 = 0) (x1 : Int32) (x2 : Int32) (x3 : Int32) : ∀ (f : Nat) (x4 : Int32) (M : Mem), J w g (s0_gainOfCheating_35 n o0 x1 x2 x3 f x4 M) M 35 [(0, .ref (wa w o0)), (1, .int x1), (2, .int x2), (3, .int x3), (4, .int x4)] [] := by
  intro f
  induction f with
  | zero =>
    intro x4 M
    rw [s0_gainOfCheating_35]
    exact J_none
  | succ f ih =>
    intro x4 M
    rw [s0_gainOfCheating_35]
    refine J_iload C dX0_gainOfCheating_35 4 rfl ?_
    refine J_bipush C dX0_gainOfCheating_37 kcb_91 ?_
    refine J_icmp_gt (tgt := 74) C dX0_gainOfCheating_39 (by decide) (fun _ => ?_) (fun _ => ?_)
    · refine J_iconst C dX0_gainOfCheating_74 kci_0 ?_
      exact J_iret C RT rfl dX0_gainOfCheating_75
    · refine J_iload_n C dX0_gainOfCheating_42 rfl 3 rfl ?_
      refine J_iload_n C dX0_gainOfCheating_43 rfl 2 rfl ?_
      refine J_icmp_ge (tgt := 74) C dX0_gainOfCheating_44 (by decide) (fun _ => ?_) (fun _ => ?_)
      · refine J_iconst C dX0_gainOfCheating_74 kci_0 ?_
        exact J_iret C RT rfl dX0_gainOfCheating_75
      · refine J_aload_n C dX0_gainOfCheating_47 rfl 0 rfl ?_
        refine J_iload_n C dX0_gainOfCheating_48 rfl 1 rfl ?_
        refine J_iload_n C dX0_gainOfCheating_49 rfl 2 rfl ?_
        refine J_iload C dX0_gainOfCheating_50 4 rfl ?_
        refine J_cvi (As := [.int x1, .int x2, .int x4]) C (c0_oddsAt (gl g) w n o0 h0 x1 x2 x4 M) (gd_v W4_28 W3_231 W3_232 W1_2 W3_233) rfl (by decide) (hdX0_oddsAt) h0 (by decide) (cl_0) rfl (Nat.le_of_ble_eq_true rfl) dX0_gainOfCheating_52 rfl (fun r7 M6 => ?_)
        refine J_istore (lv' := [(5, .int r7), (0, .ref (wa w o0)), (1, .int x1), (2, .int x2), (3, .int x3), (4, .int x4)]) C dX0_gainOfCheating_55 (by decide) rfl ?_
        refine J_iload C dX0_gainOfCheating_57 0 rfl ?_
        refine J_iload_n C dX0_gainOfCheating_59 rfl 4 rfl ?_
        refine J_icmp_le (tgt := 68) C dX0_gainOfCheating_60 (by decide) (fun _ => ?_) (fun _ => ?_)
        · refine J_iinc (lw := fun v8 => [(4, .int v8), (5, .int r7), (0, .ref (wa w o0)), (1, .int x1), (2, .int x2), (3, .int x3)]) (X := x4 + 10) C dX0_gainOfCheating_68 (q := 5) rfl (by rw [kci_10]) (by decide) (fun _ => rfl) (fun v8 => ?_)
          refine J_goto (tgt := 35) C dX0_gainOfCheating_71 (by decide) ?_
          refine J_lv [2, 3, 4, 5, 0] rfl ?_
          exact ih v8 M6
        · refine J_iload C dX0_gainOfCheating_63 0 rfl ?_
          refine J_iload_n C dX0_gainOfCheating_65 rfl 4 rfl ?_
          refine J_isub C dX0_gainOfCheating_66 ?_
          exact J_iret C RT rfl dX0_gainOfCheating_67
def s0_gainOfCheating (n : Nat) (o0 : Nat) (x1 : Int32) (x2 : Int32) (M : Mem) : Option Res := cb (s2_knowsIn (link o0 0) x1 M) (fun r2 M1 => if r2 = 0 then (some ((0 : Int32), M1)) else (if inB x1 (alen (link (link o0 0) 3)) then cb (s0_oddsAt n o0 x1 x2 (M1 (link (link (link o0 0) 3) x1.toNatClampNeg) 5) M1) (fun r5 M4 => s0_gainOfCheating_35 n o0 x1 x2 r5 n (1 : Int32) M4) else none))
set_option maxRecDepth 100000 in
set_option maxHeartbeats 4000000 in
theorem b0_gainOfCheating {w : WE} {g : GT} (C : CT w g RX0 cX0_gainOfCheating rm0_gainOfCheating 6) (RT : RTi w g cX0_gainOfCheating .int) (n : Nat) (o0 : Nat) (h0 : typ o0 = 0) (x1 : Int32) (x2 : Int32) (M : Mem) : J w g (s0_gainOfCheating n o0 x1 x2 M) M 0 [(0, .ref (wa w o0)), (1, .int x1), (2, .int x2)] [] := by
  rw [s0_gainOfCheating]
  refine J_aload_n C dX0_gainOfCheating_0 rfl 0 rfl ?_
  refine J_getr C fk0_0 W1_215 h0 dX0_gainOfCheating_1 ?_
  refine J_iload_n C dX0_gainOfCheating_4 rfl 1 rfl ?_
  refine J_cvi (As := [.int x1]) C (c2_knowsIn (gl g) w (link o0 0) (tl_0_0 h0) x1 M) (gd_v W3_234 W3_110 W3_111 W1_3 W3_112) rfl (by decide) (hdX2_knowsIn) (tl_0_0 h0) (by decide) (cl_2) rfl (Nat.le_of_ble_eq_true rfl) dX0_gainOfCheating_5 rfl (fun r2 M1 => ?_)
  refine J_if_ne (tgt := 13) C dX0_gainOfCheating_8 (by decide) (fun _ => ?_) (fun _ => ?_)
  · refine J_aload_n C dX0_gainOfCheating_13 rfl 0 rfl ?_
    refine J_iload_n C dX0_gainOfCheating_14 rfl 1 rfl ?_
    refine J_iload_n C dX0_gainOfCheating_15 rfl 2 rfl ?_
    refine J_aload_n C dX0_gainOfCheating_16 rfl 0 rfl ?_
    refine J_getr C fk0_0 W1_215 h0 dX0_gainOfCheating_17 ?_
    refine J_getr C fk2_3 W1_176 (tl_0_0 h0) dX0_gainOfCheating_20 ?_
    refine J_iload_n C dX0_gainOfCheating_23 rfl 1 rfl ?_
    refine J_aaload C (tl_2_3 (tl_0_0 h0)) dX0_gainOfCheating_24 (fun hb3 => ?_)
    refine J_geti C fk7_5 W1_135 (t_wk (tl_2_3 (tl_0_0 h0)) hb3) dX0_gainOfCheating_25 ?_
    refine J_cvi (As := [.int x1, .int x2, .int (M1 (link (link (link o0 0) 3) x1.toNatClampNeg) 5)]) C (c0_oddsAt (gl g) w n o0 h0 x1 x2 (M1 (link (link (link o0 0) 3) x1.toNatClampNeg) 5) M1) (gd_v W4_28 W3_231 W3_232 W1_2 W3_233) rfl (by decide) (hdX0_oddsAt) h0 (by decide) (cl_0) rfl (Nat.le_of_ble_eq_true rfl) dX0_gainOfCheating_28 rfl (fun r5 M4 => ?_)
    refine J_istore_n (lv' := [(3, .int r5), (0, .ref (wa w o0)), (1, .int x1), (2, .int x2)]) C dX0_gainOfCheating_31 rfl (by decide) rfl ?_
    refine J_iconst C dX0_gainOfCheating_32 kci_1 ?_
    refine J_istore (lv' := [(4, .int (1 : Int32)), (3, .int r5), (0, .ref (wa w o0)), (1, .int x1), (2, .int x2)]) C dX0_gainOfCheating_33 (by decide) rfl ?_
    refine J_lv [2, 3, 4, 1, 0] rfl ?_
    exact b0_gainOfCheating_35 C RT n o0 h0 x1 x2 r5 n (1 : Int32) M4
  · refine J_iconst C dX0_gainOfCheating_11 kci_0 ?_
    exact J_iret C RT rfl dX0_gainOfCheating_12
theorem c0_gainOfCheating (l : Launch) (w : WE) (n : Nat) (o0 : Nat) (h0 : typ o0 = 0) (x1 : Int32) (x2 : Int32) (M : Mem) : MC l w yX0_gainOfCheating (wz yX0_gainOfCheating cX0_gainOfCheating 6 (some .int)) rm0_gainOfCheating [.ref (wa w o0), .int x1, .int x2] (s0_gainOfCheating n o0 x1 x2 M) M :=
  mc_of_J (own := RX0) rfl (by decide) rfl rfl (Nat.le_of_ble_eq_true rfl) (fun _ _ C RT => b0_gainOfCheating C RT n o0 h0 x1 x2 M)
theorem hdX0_gainOfCheating : yX0_gainOfCheating.cls = RX0 ∧ yOK yX0_gainOfCheating 2 := ⟨rfl, by decide, by decide, by decide⟩
abbrev rm3_drawAgain : Room := { frames := 0, cells := 0, slots := 0, locals := 0 }
def s3_drawAgain (o0 : Nat) (M : Mem) : Option Res := mlet (mset M o0 2 (((M o0 2) * (1103515245 : Int32)) + (12345 : Int32))) (fun M1 => some ((((M1 o0 2) &&& (2147483647 : Int32)) / (65536 : Int32)) - (((M1 o0 2) &&& (2147483647 : Int32)) / (65536 : Int32)) / (100 : Int32) * (100 : Int32), M1))
set_option maxRecDepth 100000 in
set_option maxHeartbeats 4000000 in
theorem b3_drawAgain {w : WE} {g : GT} (C : CT w g RX3 cX3_drawAgain rm3_drawAgain 1) (RT : RTi w g cX3_drawAgain .int) (o0 : Nat) (h0 : typ o0 = 3) (M : Mem) : J w g (s3_drawAgain o0 M) M 0 [(0, .ref (wa w o0))] [] := by
  rw [s3_drawAgain]
  refine J_aload_n C dX3_drawAgain_0 rfl 0 rfl ?_
  refine J_aload_n C dX3_drawAgain_1 rfl 0 rfl ?_
  refine J_geti C fk3_2 W1_81 h0 dX3_drawAgain_2 ?_
  refine J_ldc C W3_129 dX3_drawAgain_5 ?_
  refine J_imul C dX3_drawAgain_7 ?_
  refine J_sipush C dX3_drawAgain_8 kcs_12345 ?_
  refine J_iadd C dX3_drawAgain_11 ?_
  refine J_puti C fk3_2 W1_81 fp3_2 h0 dX3_drawAgain_12 ?_
  refine J_mlet (fun M1 => ?_)
  refine J_aload_n C dX3_drawAgain_15 rfl 0 rfl ?_
  refine J_geti C fk3_2 W1_81 h0 dX3_drawAgain_16 ?_
  refine J_ldc C W3_130 dX3_drawAgain_19 ?_
  refine J_iand C dX3_drawAgain_21 ?_
  refine J_ldc C W3_131 dX3_drawAgain_22 ?_
  refine J_idiv_c C (by decide) dX3_drawAgain_24 ?_
  refine J_bipush C dX3_drawAgain_25 kcb_100 ?_
  refine J_irem_c C (by decide) dX3_drawAgain_27 ?_
  exact J_iret C RT rfl dX3_drawAgain_28
theorem c3_drawAgain (l : Launch) (w : WE) (o0 : Nat) (h0 : typ o0 = 3) (M : Mem) : MC l w yX3_drawAgain (wz yX3_drawAgain cX3_drawAgain 1 (some .int)) rm3_drawAgain [.ref (wa w o0)] (s3_drawAgain o0 M) M :=
  mc_of_J (own := RX3) rfl (by decide) rfl rfl (Nat.le_of_ble_eq_true rfl) (fun _ _ C RT => b3_drawAgain C RT o0 h0 M)
theorem hdX3_drawAgain : yX3_drawAgain.cls = RX3 ∧ yOK yX3_drawAgain 0 := ⟨rfl, by decide, by decide, by decide⟩
abbrev rm2_isLikedAtChair : Room := { frames := 1, cells := 0, slots := 0, locals := 21 }
def s2_isLikedAtChair_35 (n : Nat) (o0 : Nat) (t0 : Int32) (M : Mem) : Option Res := cb (s2_knowsIn o0 t0 M) (fun r2 M1 => if r2 = 0 then (some ((0 : Int32), M1)) else (if inB t0 (alen (link o0 3)) then cb (s4_hasChair (link o0 0) (M1 (link (link o0 3) t0.toNatClampNeg) 0) M1) (fun r5 M4 => if r5 = 0 then (some ((0 : Int32), M4)) else (some ((1 : Int32), M4))) else none))
set_option maxRecDepth 100000 in
set_option maxHeartbeats 4000000 in
theorem b2_isLikedAtChair_35 {w : WE} {g : GT} (C : CT w g RX2 cX2_isLikedAtChair rm2_isLikedAtChair 2) (RT : RTi w g cX2_isLikedAtChair .boolean) (n : Nat) (o0 : Nat) (h0 : typ o0 = 2) (t0 : Int32) (M : Mem) : J w g (s2_isLikedAtChair_35 n o0 t0 M) M 35 [(0, .ref (wa w o0))] [.int t0] := by
  rw [s2_isLikedAtChair_35]
  refine J_istore_n (lv' := [(1, .int t0), (0, .ref (wa w o0))]) C dX2_isLikedAtChair_35 rfl (by decide) rfl ?_
  refine J_aload_n C dX2_isLikedAtChair_36 rfl 1 rfl ?_
  refine J_iload_n C dX2_isLikedAtChair_37 rfl 0 rfl ?_
  refine J_cvi (As := [.int t0]) C (c2_knowsIn (gl g) w o0 h0 t0 M) (gd_v W3_109 W3_110 W3_111 W1_3 W3_112) rfl (by decide) (hdX2_knowsIn) h0 (by decide) (cl_2) rfl (Nat.le_of_ble_eq_true rfl) dX2_isLikedAtChair_38 rfl (fun r2 M1 => ?_)
  refine J_if_eq (tgt := 67) C dX2_isLikedAtChair_41 (by decide) (fun _ => ?_) (fun _ => ?_)
  · refine J_iconst C dX2_isLikedAtChair_67 kci_0 ?_
    exact J_iret C RT (by decide) dX2_isLikedAtChair_68
  · refine J_aload_n C dX2_isLikedAtChair_44 rfl 1 rfl ?_
    refine J_getr C fk2_0 W1_162 h0 dX2_isLikedAtChair_45 ?_
    refine J_aload_n C dX2_isLikedAtChair_48 rfl 1 rfl ?_
    refine J_getr C fk2_3 W1_174 h0 dX2_isLikedAtChair_49 ?_
    refine J_iload_n C dX2_isLikedAtChair_52 rfl 0 rfl ?_
    refine J_aaload C (tl_2_3 h0) dX2_isLikedAtChair_53 (fun hb3 => ?_)
    refine J_geti C fk7_0 W1_124 (t_wk (tl_2_3 h0) hb3) dX2_isLikedAtChair_54 ?_
    refine J_cvi (As := [.int (M1 (link (link o0 3) t0.toNatClampNeg) 0)]) C (c4_hasChair (gl g) w (link o0 0) (tl_2_0 h0) (M1 (link (link o0 3) t0.toNatClampNeg) 0) M1) (gd_v W2_217 W2_218 W2_219 W1_4 W2_220) rfl (by decide) (hdX4_hasChair) (tl_2_0 h0) (by decide) (cl_4) rfl (Nat.le_of_ble_eq_true rfl) dX2_isLikedAtChair_57 rfl (fun r5 M4 => ?_)
    refine J_if_eq (tgt := 67) C dX2_isLikedAtChair_60 (by decide) (fun _ => ?_) (fun _ => ?_)
    · refine J_iconst C dX2_isLikedAtChair_67 kci_0 ?_
      exact J_iret C RT (by decide) dX2_isLikedAtChair_68
    · refine J_iconst C dX2_isLikedAtChair_63 kci_1 ?_
      refine J_goto (tgt := 68) C dX2_isLikedAtChair_64 (by decide) ?_
      exact J_iret C RT (by decide) dX2_isLikedAtChair_68
def s2_isLikedAtChair_33 (n : Nat) (o0 : Nat) (M : Mem) : Option Res := s2_isLikedAtChair_35 n o0 (-9 : Int32) M
set_option maxRecDepth 100000 in
set_option maxHeartbeats 4000000 in
theorem b2_isLikedAtChair_33 {w : WE} {g : GT} (C : CT w g RX2 cX2_isLikedAtChair rm2_isLikedAtChair 2) (RT : RTi w g cX2_isLikedAtChair .boolean) (n : Nat) (o0 : Nat) (h0 : typ o0 = 2) (M : Mem) : J w g (s2_isLikedAtChair_33 n o0 M) M 33 [(0, .ref (wa w o0))] [] := by
  rw [s2_isLikedAtChair_33]
  refine J_bipush C dX2_isLikedAtChair_33 kcb_m9 ?_
  exact b2_isLikedAtChair_35 C RT n o0 h0 (-9 : Int32) M
def s2_isLikedAtChair (n : Nat) (o0 : Nat) (M : Mem) : Option Res := if (M (link o0 1) 0) = (3 : Int32) then (if (M o0 5) ≤ 0 then (s2_isLikedAtChair_33 n o0 M) else (if (M o0 5) = 0 then none else s2_isLikedAtChair_35 n o0 ((M (link o0 1) 1) - (M (link o0 1) 1) / (M o0 5) * (M o0 5)) M)) else (s2_isLikedAtChair_33 n o0 M)
set_option maxRecDepth 100000 in
set_option maxHeartbeats 4000000 in
theorem b2_isLikedAtChair {w : WE} {g : GT} (C : CT w g RX2 cX2_isLikedAtChair rm2_isLikedAtChair 2) (RT : RTi w g cX2_isLikedAtChair .boolean) (n : Nat) (o0 : Nat) (h0 : typ o0 = 2) (M : Mem) : J w g (s2_isLikedAtChair n o0 M) M 0 [(0, .ref (wa w o0))] [] := by
  rw [s2_isLikedAtChair]
  refine J_aload_n C dX2_isLikedAtChair_0 rfl 0 rfl ?_
  refine J_getr C fk2_1 W1_167 h0 dX2_isLikedAtChair_1 ?_
  refine J_geti C fk3_0 W1_75 (tl_2_1 h0) dX2_isLikedAtChair_4 ?_
  refine J_iconst C dX2_isLikedAtChair_7 kci_3 ?_
  refine J_icmp_ne (tgt := 33) C dX2_isLikedAtChair_8 (by decide) (fun _ => ?_) (fun _ => ?_)
  · exact b2_isLikedAtChair_33 C RT n o0 h0 M
  · refine J_aload_n C dX2_isLikedAtChair_11 rfl 0 rfl ?_
    refine J_geti C fk2_5 W1_179 h0 dX2_isLikedAtChair_12 ?_
    refine J_if_le (tgt := 33) C dX2_isLikedAtChair_15 (by decide) (fun _ => ?_) (fun _ => ?_)
    · exact b2_isLikedAtChair_33 C RT n o0 h0 M
    · refine J_aload_n C dX2_isLikedAtChair_18 rfl 0 rfl ?_
      refine J_getr C fk2_1 W1_167 h0 dX2_isLikedAtChair_19 ?_
      refine J_geti C fk3_1 W1_79 (tl_2_1 h0) dX2_isLikedAtChair_22 ?_
      refine J_aload_n C dX2_isLikedAtChair_25 rfl 0 rfl ?_
      refine J_geti C fk2_5 W1_179 h0 dX2_isLikedAtChair_26 ?_
      refine J_irem C dX2_isLikedAtChair_29 ?_
      refine J_goto (tgt := 35) C dX2_isLikedAtChair_30 (by decide) ?_
      exact b2_isLikedAtChair_35 C RT n o0 h0 ((M (link o0 1) 1) - (M (link o0 1) 1) / (M o0 5) * (M o0 5)) M
theorem c2_isLikedAtChair (l : Launch) (w : WE) (n : Nat) (o0 : Nat) (h0 : typ o0 = 2) (M : Mem) : MC l w yX2_isLikedAtChair (wz yX2_isLikedAtChair cX2_isLikedAtChair 2 (some .boolean)) rm2_isLikedAtChair [.ref (wa w o0)] (s2_isLikedAtChair n o0 M) M :=
  mc_of_J (own := RX2) rfl (by decide) rfl rfl (Nat.le_of_ble_eq_true rfl) (fun _ _ C RT => b2_isLikedAtChair C RT n o0 h0 M)
theorem hdX2_isLikedAtChair : yX2_isLikedAtChair.cls = RX2 ∧ yOK yX2_isLikedAtChair 0 := ⟨rfl, by decide, by decide, by decide⟩
abbrev rm3_stopsIn : Room := { frames := 0, cells := 0, slots := 0, locals := 0 }
def s3_stopsIn (o0 : Nat) (x1 : Int32) (x2 : Int32) (x3 : Int32) (M : Mem) : Option Res := if (M o0 0) = 0 then (if (M o0 1) ≤ x2 then (some ((0 : Int32), M)) else (some ((1 : Int32), M))) else (if (M o0 0) = 1 then (if (x1 - x1 / (8 : Int32) * (8 : Int32)) = 0 then (if (M o0 1) ≤ x2 then (some ((0 : Int32), M)) else (some ((1 : Int32), M))) else (some ((0 : Int32), M))) else (if (M o0 0) = 2 then (if x1 < (M o0 1) then (some ((0 : Int32), M)) else (if (M o0 1) ≤ x2 then (some ((0 : Int32), M)) else (some ((1 : Int32), M)))) else (if (M o0 0) = 3 then (if bz x3 then some (x3, M) else none) else (if x1 = (M o0 1) then (some ((1 : Int32), M)) else (some ((0 : Int32), M))))))
set_option maxRecDepth 100000 in
set_option maxHeartbeats 4000000 in
theorem b3_stopsIn {w : WE} {g : GT} (C : CT w g RX3 cX3_stopsIn rm3_stopsIn 4) (RT : RTi w g cX3_stopsIn .boolean) (o0 : Nat) (h0 : typ o0 = 3) (x1 : Int32) (x2 : Int32) (x3 : Int32) (M : Mem) : J w g (s3_stopsIn o0 x1 x2 x3 M) M 0 [(0, .ref (wa w o0)), (1, .int x1), (2, .int x2), (3, .int x3)] [] := by
  rw [s3_stopsIn]
  refine J_aload_n C dX3_stopsIn_0 rfl 0 rfl ?_
  refine J_geti C fk3_0 W1_72 h0 dX3_stopsIn_1 ?_
  refine J_ite (fun hc0 => ?_) (fun hc0 => ?_)
  · refine J_tsin (tgt := 36) C dX3_stopsIn_4 (by rw [hc0]; decide) (by rw [hc0]; decide) (off := 32) (by rw [hc0]; rfl) (by decide) ?_
    refine J_iload_n C dX3_stopsIn_36 rfl 2 rfl ?_
    refine J_aload_n C dX3_stopsIn_37 rfl 0 rfl ?_
    refine J_geti C fk3_1 W1_77 h0 dX3_stopsIn_38 ?_
    refine J_icmp_ge (tgt := 48) C dX3_stopsIn_41 (by decide) (fun _ => ?_) (fun _ => ?_)
    · refine J_iconst C dX3_stopsIn_48 kci_0 ?_
      exact J_iret C RT (by decide) dX3_stopsIn_49
    · refine J_iconst C dX3_stopsIn_44 kci_1 ?_
      refine J_goto (tgt := 49) C dX3_stopsIn_45 (by decide) ?_
      exact J_iret C RT (by decide) dX3_stopsIn_49
  · refine J_ite (fun hc1 => ?_) (fun hc1 => ?_)
    · refine J_tsin (tgt := 50) C dX3_stopsIn_4 (by rw [hc1]; decide) (by rw [hc1]; decide) (off := 46) (by rw [hc1]; rfl) (by decide) ?_
      refine J_iload_n C dX3_stopsIn_50 rfl 1 rfl ?_
      refine J_bipush C dX3_stopsIn_51 kcb_8 ?_
      refine J_irem_c C (by decide) dX3_stopsIn_53 ?_
      refine J_if_ne (tgt := 69) C dX3_stopsIn_54 (by decide) (fun _ => ?_) (fun _ => ?_)
      · refine J_iconst C dX3_stopsIn_69 kci_0 ?_
        exact J_iret C RT (by decide) dX3_stopsIn_70
      · refine J_iload_n C dX3_stopsIn_57 rfl 2 rfl ?_
        refine J_aload_n C dX3_stopsIn_58 rfl 0 rfl ?_
        refine J_geti C fk3_1 W1_77 h0 dX3_stopsIn_59 ?_
        refine J_icmp_ge (tgt := 69) C dX3_stopsIn_62 (by decide) (fun _ => ?_) (fun _ => ?_)
        · refine J_iconst C dX3_stopsIn_69 kci_0 ?_
          exact J_iret C RT (by decide) dX3_stopsIn_70
        · refine J_iconst C dX3_stopsIn_65 kci_1 ?_
          refine J_goto (tgt := 70) C dX3_stopsIn_66 (by decide) ?_
          exact J_iret C RT (by decide) dX3_stopsIn_70
    · refine J_ite (fun hc2 => ?_) (fun hc2 => ?_)
      · refine J_tsin (tgt := 71) C dX3_stopsIn_4 (by rw [hc2]; decide) (by rw [hc2]; decide) (off := 67) (by rw [hc2]; rfl) (by decide) ?_
        refine J_iload_n C dX3_stopsIn_71 rfl 1 rfl ?_
        refine J_aload_n C dX3_stopsIn_72 rfl 0 rfl ?_
        refine J_geti C fk3_1 W1_77 h0 dX3_stopsIn_73 ?_
        refine J_icmp_lt (tgt := 91) C dX3_stopsIn_76 (by decide) (fun _ => ?_) (fun _ => ?_)
        · refine J_iconst C dX3_stopsIn_91 kci_0 ?_
          exact J_iret C RT (by decide) dX3_stopsIn_92
        · refine J_iload_n C dX3_stopsIn_79 rfl 2 rfl ?_
          refine J_aload_n C dX3_stopsIn_80 rfl 0 rfl ?_
          refine J_geti C fk3_1 W1_77 h0 dX3_stopsIn_81 ?_
          refine J_icmp_ge (tgt := 91) C dX3_stopsIn_84 (by decide) (fun _ => ?_) (fun _ => ?_)
          · refine J_iconst C dX3_stopsIn_91 kci_0 ?_
            exact J_iret C RT (by decide) dX3_stopsIn_92
          · refine J_iconst C dX3_stopsIn_87 kci_1 ?_
            refine J_goto (tgt := 92) C dX3_stopsIn_88 (by decide) ?_
            exact J_iret C RT (by decide) dX3_stopsIn_92
      · refine J_ite (fun hc3 => ?_) (fun hc3 => ?_)
        · refine J_tsin (tgt := 93) C dX3_stopsIn_4 (by rw [hc3]; decide) (by rw [hc3]; decide) (off := 89) (by rw [hc3]; rfl) (by decide) ?_
          refine J_iload_n C dX3_stopsIn_93 rfl 3 rfl ?_
          exact J_zret C RT dX3_stopsIn_94
        · refine J_tsout (tgt := 95) C dX3_stopsIn_4 (by have q0 := lv_neT hc0 (a := 0) rfl; have q1 := lv_neT hc1 (a := 1) rfl; have q2 := lv_neT hc2 (a := 2) rfl; have q3 := lv_neT hc3 (a := 3) rfl; omega) (by decide) ?_
          refine J_iload_n C dX3_stopsIn_95 rfl 1 rfl ?_
          refine J_aload_n C dX3_stopsIn_96 rfl 0 rfl ?_
          refine J_geti C fk3_1 W1_77 h0 dX3_stopsIn_97 ?_
          refine J_icmp_ne (tgt := 107) C dX3_stopsIn_100 (by decide) (fun _ => ?_) (fun _ => ?_)
          · refine J_iconst C dX3_stopsIn_107 kci_0 ?_
            exact J_iret C RT (by decide) dX3_stopsIn_108
          · refine J_iconst C dX3_stopsIn_103 kci_1 ?_
            refine J_goto (tgt := 108) C dX3_stopsIn_104 (by decide) ?_
            exact J_iret C RT (by decide) dX3_stopsIn_108
theorem c3_stopsIn (l : Launch) (w : WE) (o0 : Nat) (h0 : typ o0 = 3) (x1 : Int32) (x2 : Int32) (x3 : Int32) (M : Mem) : MC l w yX3_stopsIn (wz yX3_stopsIn cX3_stopsIn 4 (some .boolean)) rm3_stopsIn [.ref (wa w o0), .int x1, .int x2, .int x3] (s3_stopsIn o0 x1 x2 x3 M) M :=
  mc_of_J (own := RX3) rfl (by decide) rfl rfl (Nat.le_of_ble_eq_true rfl) (fun _ _ C RT => b3_stopsIn C RT o0 h0 x1 x2 x3 M)
theorem hdX3_stopsIn : yX3_stopsIn.cls = RX3 ∧ yOK yX3_stopsIn 3 := ⟨rfl, by decide, by decide, by decide⟩
abbrev rm2_passTenth : Room := { frames := 3, cells := 0, slots := 0, locals := 65 }
def s2_passTenth (n : Nat) (o0 : Nat) (M : Mem) : Option Res := cb (s2_walkAll n o0 M) (fun _ M1 => mlet (mset M1 o0 7 ((M1 o0 7) + (1 : Int32))) (fun M3 => cb (s3_drawAgain (link o0 1) M3) (fun r5 M4 => if (300 : Int32) ≤ (M4 o0 7) then (some ((1 : Int32), M4)) else (cb (s2_isLikedAtChair n o0 M4) (fun r7 M6 => cb (s3_stopsIn (link o0 1) (M4 o0 7) r5 r7 M6) (fun r9 M8 => if r9 = 0 then (some ((0 : Int32), M8)) else (some ((1 : Int32), M8))))))))
set_option maxRecDepth 100000 in
set_option maxHeartbeats 4000000 in
theorem b2_passTenth {w : WE} {g : GT} (C : CT w g RX2 cX2_passTenth rm2_passTenth 2) (RT : RTi w g cX2_passTenth .boolean) (n : Nat) (o0 : Nat) (h0 : typ o0 = 2) (M : Mem) : J w g (s2_passTenth n o0 M) M 0 [(0, .ref (wa w o0))] [] := by
  rw [s2_passTenth]
  refine J_aload_n C dX2_passTenth_0 rfl 0 rfl ?_
  refine J_cvv (As := []) C (c2_walkAll (gl g) w n o0 h0 M) (gd_v W3_117 W3_118 W3_119 W1_3 W3_120) rfl (by decide) (hdX2_walkAll) h0 (by decide) (cl_2) rfl (Nat.le_of_ble_eq_true rfl) dX2_passTenth_1 rfl (fun r2 M1 => ?_)
  refine J_aload_n C dX2_passTenth_4 rfl 0 rfl ?_
  refine J_dup C rfl dX2_passTenth_5 ?_
  refine J_geti C fk2_7 W1_187 h0 dX2_passTenth_6 ?_
  refine J_iconst C dX2_passTenth_9 kci_1 ?_
  refine J_iadd C dX2_passTenth_10 ?_
  refine J_puti C fk2_7 W1_187 fp2_7 h0 dX2_passTenth_11 ?_
  refine J_mlet (fun M3 => ?_)
  refine J_aload_n C dX2_passTenth_14 rfl 0 rfl ?_
  refine J_getr C fk2_1 W1_167 h0 dX2_passTenth_15 ?_
  refine J_cvi (As := []) C (c3_drawAgain (gl g) w (link o0 1) (tl_2_1 h0) M3) (gd_v W3_125 W3_126 W3_127 W1_5 W3_128) rfl (by decide) (hdX3_drawAgain) (tl_2_1 h0) (by decide) (cl_3) rfl (Nat.le_of_ble_eq_true rfl) dX2_passTenth_18 rfl (fun r5 M4 => ?_)
  refine J_istore_n (lv' := [(1, .int r5), (0, .ref (wa w o0))]) C dX2_passTenth_21 rfl (by decide) rfl ?_
  refine J_aload_n C dX2_passTenth_22 rfl 1 rfl ?_
  refine J_geti C fk2_7 W1_187 h0 dX2_passTenth_23 ?_
  refine J_sipush C dX2_passTenth_26 kcs_300 ?_
  refine J_icmp_ge (tgt := 51) C dX2_passTenth_29 (by decide) (fun _ => ?_) (fun _ => ?_)
  · refine J_iconst C dX2_passTenth_51 kci_1 ?_
    refine J_goto (tgt := 56) C dX2_passTenth_52 (by decide) ?_
    exact J_iret C RT (by decide) dX2_passTenth_56
  · refine J_aload_n C dX2_passTenth_32 rfl 1 rfl ?_
    refine J_getr C fk2_1 W1_167 h0 dX2_passTenth_33 ?_
    refine J_aload_n C dX2_passTenth_36 rfl 1 rfl ?_
    refine J_geti C fk2_7 W1_187 h0 dX2_passTenth_37 ?_
    refine J_iload_n C dX2_passTenth_40 rfl 0 rfl ?_
    refine J_aload_n C dX2_passTenth_41 rfl 1 rfl ?_
    refine J_cvi (As := []) C (c2_isLikedAtChair (gl g) w n o0 h0 M4) (gd_v W3_132 W3_134 WP_14 W1_3 W3_135) rfl (by decide) (hdX2_isLikedAtChair) h0 (by decide) (cl_2) rfl (Nat.le_of_ble_eq_true rfl) dX2_passTenth_42 rfl (fun r7 M6 => ?_)
    refine J_cvi (As := [.int (M4 o0 7), .int r5, .int r7]) C (c3_stopsIn (gl g) w (link o0 1) (tl_2_1 h0) (M4 o0 7) r5 r7 M6) (gd_v W3_136 W3_137 W3_138 W1_5 W3_139) rfl (by decide) (hdX3_stopsIn) (tl_2_1 h0) (by decide) (cl_3) rfl (Nat.le_of_ble_eq_true rfl) dX2_passTenth_45 rfl (fun r9 M8 => ?_)
    refine J_if_eq (tgt := 55) C dX2_passTenth_48 (by decide) (fun _ => ?_) (fun _ => ?_)
    · refine J_iconst C dX2_passTenth_55 kci_0 ?_
      exact J_iret C RT (by decide) dX2_passTenth_56
    · refine J_iconst C dX2_passTenth_51 kci_1 ?_
      refine J_goto (tgt := 56) C dX2_passTenth_52 (by decide) ?_
      exact J_iret C RT (by decide) dX2_passTenth_56
theorem c2_passTenth (l : Launch) (w : WE) (n : Nat) (o0 : Nat) (h0 : typ o0 = 2) (M : Mem) : MC l w yX2_passTenth (wz yX2_passTenth cX2_passTenth 2 (some .boolean)) rm2_passTenth [.ref (wa w o0)] (s2_passTenth n o0 M) M :=
  mc_of_J (own := RX2) rfl (by decide) rfl rfl (Nat.le_of_ble_eq_true rfl) (fun _ _ C RT => b2_passTenth C RT n o0 h0 M)
theorem hdX2_passTenth : yX2_passTenth.cls = RX2 ∧ yOK yX2_passTenth 0 := ⟨rfl, by decide, by decide, by decide⟩
abbrev rm4_farFromChairs : Room := { frames := 1, cells := 0, slots := 0, locals := 23 }
def s4_farFromChairs_5 (n : Nat) (o0 : Nat) (x1 : Int32) : Nat → Int32 → Int32 → Mem → Option Res
  | 0, _, _, _ => none
  | f + 1, x2, x3, M => if (M o0 1) ≤ x3 then (some (x2, M)) else (cb (s4_placeOfChair o0 x3 M) (fun r2 M1 => cb (s4_far n o0 x1 r2 M1) (fun r4 M3 => if x2 ≤ r4 then (ilet (x3 + 1) (fun v5 => s4_farFromChairs_5 n o0 x1 f x2 v5 M3)) else (ilet (x3 + 1) (fun v6 => s4_farFromChairs_5 n o0 x1 f r4 v6 M3)))))
set_option maxRecDepth 100000 in
set_option maxHeartbeats 4000000 in
theorem b4_farFromChairs_5 {w : WE} {g : GT} (C : CT w g RX4 cX4_farFromChairs rm4_farFromChairs 5) (RT : RTi w g cX4_farFromChairs .int) (n : Nat) (o0 : Nat) (h0 : typ o0 = 4) (x1 : Int32) : ∀ (f : Nat) (x2 : Int32) (x3 : Int32) (M : Mem), J w g (s4_farFromChairs_5 n o0 x1 f x2 x3 M) M 5 [(0, .ref (wa w o0)), (1, .int x1), (2, .int x2), (3, .int x3)] [] := by
  intro f
  induction f with
  | zero =>
    intro x2 x3 M
    rw [s4_farFromChairs_5]
    exact J_none
  | succ f ih =>
    intro x2 x3 M
    rw [s4_farFromChairs_5]
    refine J_iload_n C dX4_farFromChairs_5 rfl 3 rfl ?_
    refine J_aload_n C dX4_farFromChairs_6 rfl 0 rfl ?_
    refine J_geti C fk4_1 W1_48 h0 dX4_farFromChairs_7 ?_
    refine J_icmp_ge (tgt := 40) C dX4_farFromChairs_10 (by decide) (fun _ => ?_) (fun _ => ?_)
    · refine J_iload_n C dX4_farFromChairs_40 rfl 2 rfl ?_
      exact J_iret C RT rfl dX4_farFromChairs_41
    · refine J_aload_n C dX4_farFromChairs_13 rfl 0 rfl ?_
      refine J_iload_n C dX4_farFromChairs_14 rfl 1 rfl ?_
      refine J_aload_n C dX4_farFromChairs_15 rfl 0 rfl ?_
      refine J_iload_n C dX4_farFromChairs_16 rfl 3 rfl ?_
      refine J_cvi (As := [.int x3]) C (c4_placeOfChair (gl g) w o0 h0 x3 M) (gd_v W3_179 W3_153 W3_154 W1_4 W3_155) rfl (by decide) (hdX4_placeOfChair) h0 (by decide) (cl_4) rfl (Nat.le_of_ble_eq_true rfl) dX4_farFromChairs_17 rfl (fun r2 M1 => ?_)
      refine J_cvi (As := [.int x1, .int r2]) C (c4_far (gl g) w n o0 h0 x1 r2 M1) (gd_v W3_180 W3_90 W3_91 W1_4 W3_92) rfl (by decide) (hdX4_far) h0 (by decide) (cl_4) rfl (Nat.le_of_ble_eq_true rfl) dX4_farFromChairs_20 rfl (fun r4 M3 => ?_)
      refine J_istore (lv' := [(4, .int r4), (0, .ref (wa w o0)), (1, .int x1), (2, .int x2), (3, .int x3)]) C dX4_farFromChairs_23 (by decide) rfl ?_
      refine J_iload C dX4_farFromChairs_25 0 rfl ?_
      refine J_iload_n C dX4_farFromChairs_27 rfl 3 rfl ?_
      refine J_icmp_ge (tgt := 34) C dX4_farFromChairs_28 (by decide) (fun _ => ?_) (fun _ => ?_)
      · refine J_iinc (lw := fun v5 => [(3, .int v5), (4, .int r4), (0, .ref (wa w o0)), (1, .int x1), (2, .int x2)]) (X := x3 + 1) C dX4_farFromChairs_34 (q := 4) rfl (by rw [kci_1]) (by decide) (fun _ => rfl) (fun v5 => ?_)
        refine J_goto (tgt := 5) C dX4_farFromChairs_37 (by decide) ?_
        refine J_lv [2, 3, 4, 0] rfl ?_
        exact ih x2 v5 M3
      · refine J_iload C dX4_farFromChairs_31 0 rfl ?_
        refine J_istore_n (lv' := [(2, .int r4), (4, .int r4), (0, .ref (wa w o0)), (1, .int x1), (3, .int x3)]) C dX4_farFromChairs_33 rfl (by decide) rfl ?_
        refine J_iinc (lw := fun v6 => [(3, .int v6), (2, .int r4), (4, .int r4), (0, .ref (wa w o0)), (1, .int x1)]) (X := x3 + 1) C dX4_farFromChairs_34 (q := 4) rfl (by rw [kci_1]) (by decide) (fun _ => rfl) (fun v6 => ?_)
        refine J_goto (tgt := 5) C dX4_farFromChairs_37 (by decide) ?_
        refine J_lv [3, 4, 1, 0] rfl ?_
        exact ih r4 v6 M3
def s4_farFromChairs (n : Nat) (o0 : Nat) (x1 : Int32) (M : Mem) : Option Res := s4_farFromChairs_5 n o0 x1 n (60 : Int32) (0 : Int32) M
set_option maxRecDepth 100000 in
set_option maxHeartbeats 4000000 in
theorem b4_farFromChairs {w : WE} {g : GT} (C : CT w g RX4 cX4_farFromChairs rm4_farFromChairs 5) (RT : RTi w g cX4_farFromChairs .int) (n : Nat) (o0 : Nat) (h0 : typ o0 = 4) (x1 : Int32) (M : Mem) : J w g (s4_farFromChairs n o0 x1 M) M 0 [(0, .ref (wa w o0)), (1, .int x1)] [] := by
  rw [s4_farFromChairs]
  refine J_bipush C dX4_farFromChairs_0 kcb_60 ?_
  refine J_istore_n (lv' := [(2, .int (60 : Int32)), (0, .ref (wa w o0)), (1, .int x1)]) C dX4_farFromChairs_2 rfl (by decide) rfl ?_
  refine J_iconst C dX4_farFromChairs_3 kci_0 ?_
  refine J_istore_n (lv' := [(3, .int (0 : Int32)), (2, .int (60 : Int32)), (0, .ref (wa w o0)), (1, .int x1)]) C dX4_farFromChairs_4 rfl (by decide) rfl ?_
  refine J_lv [2, 3, 1, 0] rfl ?_
  exact b4_farFromChairs_5 C RT n o0 h0 x1 n (60 : Int32) (0 : Int32) M
theorem c4_farFromChairs (l : Launch) (w : WE) (n : Nat) (o0 : Nat) (h0 : typ o0 = 4) (x1 : Int32) (M : Mem) : MC l w yX4_farFromChairs (wz yX4_farFromChairs cX4_farFromChairs 5 (some .int)) rm4_farFromChairs [.ref (wa w o0), .int x1] (s4_farFromChairs n o0 x1 M) M :=
  mc_of_J (own := RX4) rfl (by decide) rfl rfl (Nat.le_of_ble_eq_true rfl) (fun _ _ C RT => b4_farFromChairs C RT n o0 h0 x1 M)
theorem hdX4_farFromChairs : yX4_farFromChairs.cls = RX4 ∧ yOK yX4_farFromChairs 1 := ⟨rfl, by decide, by decide, by decide⟩
abbrev rm2_whoGoes : Room := { frames := 2, cells := 0, slots := 0, locals := 47 }
def s2_whoGoes_7 (n : Nat) (o0 : Nat) : Nat → Int32 → Int32 → Int32 → Mem → Option Res
  | 0, _, _, _, _ => none
  | f + 1, x1, x2, x3, M => if (M o0 5) ≤ x3 then (some (x1, M)) else (cb (s2_knowsIn o0 x3 M) (fun r2 M1 => if r2 = 0 then (ilet (x3 + 1) (fun v3 => s2_whoGoes_7 n o0 f x1 x2 v3 M1)) else (cb (s5_isSeated (link o0 2) x3 M1) (fun r5 M4 => if r5 = 0 then (if inB x3 (alen (link o0 3)) then cb (s4_farFromChairs n (link o0 0) (M4 (link (link o0 3) x3.toNatClampNeg) 0) M4) (fun r9 M8 => if r9 < x2 then (ilet (x3 + 1) (fun v10 => s2_whoGoes_7 n o0 f x1 x2 v10 M8)) else (ilet (x3 + 1) (fun v11 => s2_whoGoes_7 n o0 f x3 r9 v11 M8))) else none) else (ilet (x3 + 1) (fun v6 => s2_whoGoes_7 n o0 f x1 x2 v6 M4))))))
set_option maxRecDepth 100000 in
set_option maxHeartbeats 4000000 in
theorem b2_whoGoes_7 {w : WE} {g : GT} (C : CT w g RX2 cX2_whoGoes rm2_whoGoes 5) (RT : RTi w g cX2_whoGoes .int) (n : Nat) (o0 : Nat) (h0 : typ o0 = 2) : ∀ (f : Nat) (x1 : Int32) (x2 : Int32) (x3 : Int32) (M : Mem), J w g (s2_whoGoes_7 n o0 f x1 x2 x3 M) M 7 [(0, .ref (wa w o0)), (1, .int x1), (2, .int x2), (3, .int x3)] [] := by
  intro f
  induction f with
  | zero =>
    intro x1 x2 x3 M
    rw [s2_whoGoes_7]
    exact J_none
  | succ f ih =>
    intro x1 x2 x3 M
    rw [s2_whoGoes_7]
    refine J_iload_n C dX2_whoGoes_7 rfl 3 rfl ?_
    refine J_aload_n C dX2_whoGoes_8 rfl 0 rfl ?_
    refine J_geti C fk2_5 W1_179 h0 dX2_whoGoes_9 ?_
    refine J_icmp_ge (tgt := 69) C dX2_whoGoes_12 (by decide) (fun _ => ?_) (fun _ => ?_)
    · refine J_iload_n C dX2_whoGoes_69 rfl 1 rfl ?_
      exact J_iret C RT rfl dX2_whoGoes_70
    · refine J_aload_n C dX2_whoGoes_15 rfl 0 rfl ?_
      refine J_iload_n C dX2_whoGoes_16 rfl 3 rfl ?_
      refine J_cvi (As := [.int x3]) C (c2_knowsIn (gl g) w o0 h0 x3 M) (gd_v W3_109 W3_110 W3_111 W1_3 W3_112) rfl (by decide) (hdX2_knowsIn) h0 (by decide) (cl_2) rfl (Nat.le_of_ble_eq_true rfl) dX2_whoGoes_17 rfl (fun r2 M1 => ?_)
      refine J_if_eq (tgt := 63) C dX2_whoGoes_20 (by decide) (fun _ => ?_) (fun _ => ?_)
      · refine J_iinc (lw := fun v3 => [(3, .int v3), (0, .ref (wa w o0)), (1, .int x1), (2, .int x2)]) (X := x3 + 1) C dX2_whoGoes_63 (q := 3) rfl (by rw [kci_1]) (by decide) (fun _ => rfl) (fun v3 => ?_)
        refine J_goto (tgt := 7) C dX2_whoGoes_66 (by decide) ?_
        refine J_lv [1, 2, 3, 0] rfl ?_
        exact ih x1 x2 v3 M1
      · refine J_aload_n C dX2_whoGoes_23 rfl 0 rfl ?_
        refine J_getr C fk2_2 W1_171 h0 dX2_whoGoes_24 ?_
        refine J_iload_n C dX2_whoGoes_27 rfl 3 rfl ?_
        refine J_cvi (As := [.int x3]) C (c5_isSeated (gl g) w (link o0 2) (tl_2_2 h0) x3 M1) (gd_v W3_171 W3_172 W3_173 W1_6 W3_174) rfl (by decide) (hdX5_isSeated) (tl_2_2 h0) (by decide) (cl_5) rfl (Nat.le_of_ble_eq_true rfl) dX2_whoGoes_28 rfl (fun r5 M4 => ?_)
        refine J_if_ne (tgt := 63) C dX2_whoGoes_31 (by decide) (fun _ => ?_) (fun _ => ?_)
        · refine J_iinc (lw := fun v6 => [(3, .int v6), (0, .ref (wa w o0)), (1, .int x1), (2, .int x2)]) (X := x3 + 1) C dX2_whoGoes_63 (q := 3) rfl (by rw [kci_1]) (by decide) (fun _ => rfl) (fun v6 => ?_)
          refine J_goto (tgt := 7) C dX2_whoGoes_66 (by decide) ?_
          refine J_lv [1, 2, 3, 0] rfl ?_
          exact ih x1 x2 v6 M4
        · refine J_aload_n C dX2_whoGoes_34 rfl 0 rfl ?_
          refine J_getr C fk2_0 W1_162 h0 dX2_whoGoes_35 ?_
          refine J_aload_n C dX2_whoGoes_38 rfl 0 rfl ?_
          refine J_getr C fk2_3 W1_174 h0 dX2_whoGoes_39 ?_
          refine J_iload_n C dX2_whoGoes_42 rfl 3 rfl ?_
          refine J_aaload C (tl_2_3 h0) dX2_whoGoes_43 (fun hb7 => ?_)
          refine J_geti C fk7_0 W1_124 (t_wk (tl_2_3 h0) hb7) dX2_whoGoes_44 ?_
          refine J_cvi (As := [.int (M4 (link (link o0 3) x3.toNatClampNeg) 0)]) C (c4_farFromChairs (gl g) w n (link o0 0) (tl_2_0 h0) (M4 (link (link o0 3) x3.toNatClampNeg) 0) M4) (gd_v W3_175 W3_176 W3_177 W1_4 W3_178) rfl (by decide) (hdX4_farFromChairs) (tl_2_0 h0) (by decide) (cl_4) rfl (Nat.le_of_ble_eq_true rfl) dX2_whoGoes_47 rfl (fun r9 M8 => ?_)
          refine J_istore (lv' := [(4, .int r9), (0, .ref (wa w o0)), (1, .int x1), (2, .int x2), (3, .int x3)]) C dX2_whoGoes_50 (by decide) rfl ?_
          refine J_iload C dX2_whoGoes_52 0 rfl ?_
          refine J_iload_n C dX2_whoGoes_54 rfl 3 rfl ?_
          refine J_icmp_lt (tgt := 63) C dX2_whoGoes_55 (by decide) (fun _ => ?_) (fun _ => ?_)
          · refine J_iinc (lw := fun v10 => [(3, .int v10), (4, .int r9), (0, .ref (wa w o0)), (1, .int x1), (2, .int x2)]) (X := x3 + 1) C dX2_whoGoes_63 (q := 4) rfl (by rw [kci_1]) (by decide) (fun _ => rfl) (fun v10 => ?_)
            refine J_goto (tgt := 7) C dX2_whoGoes_66 (by decide) ?_
            refine J_lv [2, 3, 4, 0] rfl ?_
            exact ih x1 x2 v10 M8
          · refine J_iload C dX2_whoGoes_58 0 rfl ?_
            refine J_istore_n (lv' := [(2, .int r9), (4, .int r9), (0, .ref (wa w o0)), (1, .int x1), (3, .int x3)]) C dX2_whoGoes_60 rfl (by decide) rfl ?_
            refine J_iload_n C dX2_whoGoes_61 rfl 4 rfl ?_
            refine J_istore_n (lv' := [(1, .int x3), (2, .int r9), (4, .int r9), (0, .ref (wa w o0)), (3, .int x3)]) C dX2_whoGoes_62 rfl (by decide) rfl ?_
            refine J_iinc (lw := fun v11 => [(3, .int v11), (1, .int x3), (2, .int r9), (4, .int r9), (0, .ref (wa w o0))]) (X := x3 + 1) C dX2_whoGoes_63 (q := 4) rfl (by rw [kci_1]) (by decide) (fun _ => rfl) (fun v11 => ?_)
            refine J_goto (tgt := 7) C dX2_whoGoes_66 (by decide) ?_
            refine J_lv [4, 1, 2, 0] rfl ?_
            exact ih x3 r9 v11 M8
def s2_whoGoes (n : Nat) (o0 : Nat) (M : Mem) : Option Res := s2_whoGoes_7 n o0 n (-9 : Int32) (-1 : Int32) (0 : Int32) M
set_option maxRecDepth 100000 in
set_option maxHeartbeats 4000000 in
theorem b2_whoGoes {w : WE} {g : GT} (C : CT w g RX2 cX2_whoGoes rm2_whoGoes 5) (RT : RTi w g cX2_whoGoes .int) (n : Nat) (o0 : Nat) (h0 : typ o0 = 2) (M : Mem) : J w g (s2_whoGoes n o0 M) M 0 [(0, .ref (wa w o0))] [] := by
  rw [s2_whoGoes]
  refine J_bipush C dX2_whoGoes_0 kcb_m9 ?_
  refine J_istore_n (lv' := [(1, .int (-9 : Int32)), (0, .ref (wa w o0))]) C dX2_whoGoes_2 rfl (by decide) rfl ?_
  refine J_iconst C dX2_whoGoes_3 kci_m1 ?_
  refine J_istore_n (lv' := [(2, .int (-1 : Int32)), (1, .int (-9 : Int32)), (0, .ref (wa w o0))]) C dX2_whoGoes_4 rfl (by decide) rfl ?_
  refine J_iconst C dX2_whoGoes_5 kci_0 ?_
  refine J_istore_n (lv' := [(3, .int (0 : Int32)), (2, .int (-1 : Int32)), (1, .int (-9 : Int32)), (0, .ref (wa w o0))]) C dX2_whoGoes_6 rfl (by decide) rfl ?_
  refine J_lv [3, 2, 1, 0] rfl ?_
  exact b2_whoGoes_7 C RT n o0 h0 n (-9 : Int32) (-1 : Int32) (0 : Int32) M
theorem c2_whoGoes (l : Launch) (w : WE) (n : Nat) (o0 : Nat) (h0 : typ o0 = 2) (M : Mem) : MC l w yX2_whoGoes (wz yX2_whoGoes cX2_whoGoes 5 (some .int)) rm2_whoGoes [.ref (wa w o0)] (s2_whoGoes n o0 M) M :=
  mc_of_J (own := RX2) rfl (by decide) rfl rfl (Nat.le_of_ble_eq_true rfl) (fun _ _ C RT => b2_whoGoes C RT n o0 h0 M)
theorem hdX2_whoGoes : yX2_whoGoes.cls = RX2 ∧ yOK yX2_whoGoes 0 := ⟨rfl, by decide, by decide, by decide⟩
abbrev rm2_losesChair : Room := { frames := 0, cells := 0, slots := 0, locals := 0 }
def s2_losesChair (o0 : Nat) (x1 : Int32) (M : Mem) : Option Res := if x1 < 0 then (some ((0 : Int32), M)) else (if (M (link o0 0) 1) ≤ (1 : Int32) then (some ((0 : Int32), M)) else (some ((1 : Int32), M)))
set_option maxRecDepth 100000 in
set_option maxHeartbeats 4000000 in
theorem b2_losesChair {w : WE} {g : GT} (C : CT w g RX2 cX2_losesChair rm2_losesChair 2) (RT : RTi w g cX2_losesChair .boolean) (o0 : Nat) (h0 : typ o0 = 2) (x1 : Int32) (M : Mem) : J w g (s2_losesChair o0 x1 M) M 0 [(0, .ref (wa w o0)), (1, .int x1)] [] := by
  rw [s2_losesChair]
  refine J_iload_n C dX2_losesChair_0 rfl 1 rfl ?_
  refine J_if_lt (tgt := 19) C dX2_losesChair_1 (by decide) (fun _ => ?_) (fun _ => ?_)
  · refine J_iconst C dX2_losesChair_19 kci_0 ?_
    exact J_iret C RT (by decide) dX2_losesChair_20
  · refine J_aload_n C dX2_losesChair_4 rfl 0 rfl ?_
    refine J_getr C fk2_0 W1_162 h0 dX2_losesChair_5 ?_
    refine J_geti C fk4_1 W1_50 (tl_2_0 h0) dX2_losesChair_8 ?_
    refine J_iconst C dX2_losesChair_11 kci_1 ?_
    refine J_icmp_le (tgt := 19) C dX2_losesChair_12 (by decide) (fun _ => ?_) (fun _ => ?_)
    · refine J_iconst C dX2_losesChair_19 kci_0 ?_
      exact J_iret C RT (by decide) dX2_losesChair_20
    · refine J_iconst C dX2_losesChair_15 kci_1 ?_
      refine J_goto (tgt := 20) C dX2_losesChair_16 (by decide) ?_
      exact J_iret C RT (by decide) dX2_losesChair_20
theorem c2_losesChair (l : Launch) (w : WE) (o0 : Nat) (h0 : typ o0 = 2) (x1 : Int32) (M : Mem) : MC l w yX2_losesChair (wz yX2_losesChair cX2_losesChair 2 (some .boolean)) rm2_losesChair [.ref (wa w o0), .int x1] (s2_losesChair o0 x1 M) M :=
  mc_of_J (own := RX2) rfl (by decide) rfl rfl (Nat.le_of_ble_eq_true rfl) (fun _ _ C RT => b2_losesChair C RT o0 h0 x1 M)
theorem hdX2_losesChair : yX2_losesChair.cls = RX2 ∧ yOK yX2_losesChair 1 := ⟨rfl, by decide, by decide, by decide⟩
abbrev rm4_wayOn : Room := { frames := 0, cells := 0, slots := 0, locals := 0 }
def s4_wayOn (o0 : Nat) (x1 : Int32) (x2 : Int32) (M : Mem) : Option Res := if x2 ≤ x1 then (some ((x2 - x1) + (M o0 0), M)) else (some (x2 - x1, M))
set_option maxRecDepth 100000 in
set_option maxHeartbeats 4000000 in
theorem b4_wayOn {w : WE} {g : GT} (C : CT w g RX4 cX4_wayOn rm4_wayOn 3) (RT : RTi w g cX4_wayOn .int) (o0 : Nat) (h0 : typ o0 = 4) (x1 : Int32) (x2 : Int32) (M : Mem) : J w g (s4_wayOn o0 x1 x2 M) M 0 [(0, .ref (wa w o0)), (1, .int x1), (2, .int x2)] [] := by
  rw [s4_wayOn]
  refine J_iload_n C dX4_wayOn_0 rfl 2 rfl ?_
  refine J_iload_n C dX4_wayOn_1 rfl 1 rfl ?_
  refine J_icmp_le (tgt := 11) C dX4_wayOn_2 (by decide) (fun _ => ?_) (fun _ => ?_)
  · refine J_iload_n C dX4_wayOn_11 rfl 2 rfl ?_
    refine J_iload_n C dX4_wayOn_12 rfl 1 rfl ?_
    refine J_isub C dX4_wayOn_13 ?_
    refine J_aload_n C dX4_wayOn_14 rfl 0 rfl ?_
    refine J_geti C fk4_0 W1_44 h0 dX4_wayOn_15 ?_
    refine J_iadd C dX4_wayOn_18 ?_
    exact J_iret C RT rfl dX4_wayOn_19
  · refine J_iload_n C dX4_wayOn_5 rfl 2 rfl ?_
    refine J_iload_n C dX4_wayOn_6 rfl 1 rfl ?_
    refine J_isub C dX4_wayOn_7 ?_
    refine J_goto (tgt := 19) C dX4_wayOn_8 (by decide) ?_
    exact J_iret C RT rfl dX4_wayOn_19
theorem c4_wayOn (l : Launch) (w : WE) (o0 : Nat) (h0 : typ o0 = 4) (x1 : Int32) (x2 : Int32) (M : Mem) : MC l w yX4_wayOn (wz yX4_wayOn cX4_wayOn 3 (some .int)) rm4_wayOn [.ref (wa w o0), .int x1, .int x2] (s4_wayOn o0 x1 x2 M) M :=
  mc_of_J (own := RX4) rfl (by decide) rfl rfl (Nat.le_of_ble_eq_true rfl) (fun _ _ C RT => b4_wayOn C RT o0 h0 x1 x2 M)
theorem hdX4_wayOn : yX4_wayOn.cls = RX4 ∧ yOK yX4_wayOn 2 := ⟨rfl, by decide, by decide, by decide⟩
