abbrev rm9_shortest : Room := { frames := 8, cells := 0, slots := 0, locals := 178 }
def s9_shortest_53 (n : Nat) (k20 : Int32 → Int32 → Int32 → Mem → Option Res) (o0 : Nat) (x3 : Int32) (M : Mem) : Option Res := ilet (M o0 37) (fun v5 => ilet (x3 + 1) (fun v6 => k20 x3 v5 v6 M))
set_option maxRecDepth 100000 in
set_option maxHeartbeats 4000000 in
theorem b9_shortest_53 {w : WE} {g : GT} (C : CT w g RX9 cX9_shortest rm9_shortest 4) (RT : RTi w g cX9_shortest .int) (n : Nat) (k20 : Int32 → Int32 → Int32 → Mem → Option Res) (o0 : Nat) (h0 : typ o0 = 9) (x3 : Int32) (hk20 : ∀ (z1 : Int32) (z2 : Int32) (z3 : Int32) (M : Mem), J w g (k20 z1 z2 z3 M) M 20 [(0, .ref (wa w o0)), (1, .int z1), (2, .int z2), (3, .int z3)] []) (M : Mem) : J w g (s9_shortest_53 n k20 o0 x3 M) M 53 [(0, .ref (wa w o0)), (3, .int x3)] [] := by
  rw [s9_shortest_53]
  refine J_aload_n C dX9_shortest_53 rfl 0 rfl ?_
  refine J_geti C fk9_37 W4_214 h0 dX9_shortest_54 ?_
  refine J_ilet (fun v5 => ?_)
  refine J_istore_n (lv' := [(2, .int v5), (0, .ref (wa w o0)), (3, .int x3)]) C dX9_shortest_57 rfl (by decide) rfl ?_
  refine J_iload_n C dX9_shortest_58 rfl 2 rfl ?_
  refine J_istore_n (lv' := [(1, .int x3), (2, .int v5), (0, .ref (wa w o0)), (3, .int x3)]) C dX9_shortest_59 rfl (by decide) rfl ?_
  refine J_iinc (lw := fun v6 => [(3, .int v6), (1, .int x3), (2, .int v5), (0, .ref (wa w o0))]) (X := x3 + 1) C dX9_shortest_60 (q := 3) rfl (by rw [kci_1]) (by decide) (fun _ => rfl) (fun v6 => ?_)
  refine J_goto (tgt := 20) C dX9_shortest_63 (by decide) ?_
  refine J_lv [3, 1, 2, 0] rfl ?_
  exact hk20 x3 v5 v6 M
def s9_shortest_20 (n : Nat) (o0 : Nat) : Nat → Int32 → Int32 → Int32 → Mem → Option Res
  | 0, _, _, _, _ => none
  | f + 1, x1, x2, x3, M => if (5 : Int32) ≤ x3 then (some (x1, M)) else (cb (s9_partyBy n o0 (M o0 16) (M o0 15) x3 M) (fun _ M3 => if x2 < 0 then (s9_shortest_53 n (s9_shortest_20 n o0 f) o0 x3 M3) else (if (M3 o0 37) < x2 then (s9_shortest_53 n (s9_shortest_20 n o0 f) o0 x3 M3) else (ilet (x3 + 1) (fun v7 => s9_shortest_20 n o0 f x1 x2 v7 M3)))))
set_option maxRecDepth 100000 in
set_option maxHeartbeats 4000000 in
theorem b9_shortest_20 {w : WE} {g : GT} (C : CT w g RX9 cX9_shortest rm9_shortest 4) (RT : RTi w g cX9_shortest .int) (n : Nat) (o0 : Nat) (h0 : typ o0 = 9) : ∀ (f : Nat) (x1 : Int32) (x2 : Int32) (x3 : Int32) (M : Mem), J w g (s9_shortest_20 n o0 f x1 x2 x3 M) M 20 [(0, .ref (wa w o0)), (1, .int x1), (2, .int x2), (3, .int x3)] [] := by
  intro f
  induction f with
  | zero =>
    intro x1 x2 x3 M
    rw [s9_shortest_20]
    exact J_none
  | succ f ih =>
    intro x1 x2 x3 M
    rw [s9_shortest_20]
    refine J_iload_n C dX9_shortest_20 rfl 3 rfl ?_
    refine J_iconst C dX9_shortest_21 kci_5 ?_
    refine J_icmp_ge (tgt := 66) C dX9_shortest_22 (by decide) (fun _ => ?_) (fun _ => ?_)
    · refine J_iload_n C dX9_shortest_66 rfl 1 rfl ?_
      exact J_iret C RT rfl dX9_shortest_67
    · refine J_aload_n C dX9_shortest_25 rfl 0 rfl ?_
      refine J_aload_n C dX9_shortest_26 rfl 0 rfl ?_
      refine J_geti C fk9_16 W4_193 h0 dX9_shortest_27 ?_
      refine J_aload_n C dX9_shortest_30 rfl 0 rfl ?_
      refine J_geti C fk9_15 W4_192 h0 dX9_shortest_31 ?_
      refine J_iload_n C dX9_shortest_34 rfl 3 rfl ?_
      refine J_cvv (As := [.int (M o0 16), .int (M o0 15), .int x3]) C (c9_partyBy (gl g) w n o0 h0 (M o0 16) (M o0 15) x3 M) (gd_v W6_68 W6_70 WP_62 W1_10 W6_71) rfl (by decide) (hdX9_partyBy) h0 (by decide) (cl_9) rfl (Nat.le_of_ble_eq_true rfl) dX9_shortest_35 rfl (fun r4 M3 => ?_)
      refine J_iload_n C dX9_shortest_38 rfl 2 rfl ?_
      refine J_if_lt (tgt := 53) C dX9_shortest_39 (by decide) (fun _ => ?_) (fun _ => ?_)
      · refine J_lv [0, 3] rfl ?_
        exact b9_shortest_53 C RT n (s9_shortest_20 n o0 f) o0 h0 x3 ih M3
      · refine J_aload_n C dX9_shortest_42 rfl 0 rfl ?_
        refine J_geti C fk9_37 W4_214 h0 dX9_shortest_43 ?_
        refine J_iload_n C dX9_shortest_46 rfl 2 rfl ?_
        refine J_icmp_lt (tgt := 53) C dX9_shortest_47 (by decide) (fun _ => ?_) (fun _ => ?_)
        · refine J_lv [0, 3] rfl ?_
          exact b9_shortest_53 C RT n (s9_shortest_20 n o0 f) o0 h0 x3 ih M3
        · refine J_goto (tgt := 60) C dX9_shortest_50 (by decide) ?_
          refine J_iinc (lw := fun v7 => [(3, .int v7), (0, .ref (wa w o0)), (1, .int x1), (2, .int x2)]) (X := x3 + 1) C dX9_shortest_60 (q := 3) rfl (by rw [kci_1]) (by decide) (fun _ => rfl) (fun v7 => ?_)
          refine J_goto (tgt := 20) C dX9_shortest_63 (by decide) ?_
          refine J_lv [1, 2, 3, 0] rfl ?_
          exact ih x1 x2 v7 M3
def s9_shortest (n : Nat) (o0 : Nat) (M : Mem) : Option Res := cb (s9_isOver n o0 M) (fun r2 M1 => if r2 = 0 then (s9_shortest_20 n o0 n (0 : Int32) (-1 : Int32) (0 : Int32) M1) else (cb (s9_no o0 (-3 : Int32) M1) (fun r9 M8 => some (r9, M8))))
set_option maxRecDepth 100000 in
set_option maxHeartbeats 4000000 in
theorem b9_shortest {w : WE} {g : GT} (C : CT w g RX9 cX9_shortest rm9_shortest 4) (RT : RTi w g cX9_shortest .int) (n : Nat) (o0 : Nat) (h0 : typ o0 = 9) (M : Mem) : J w g (s9_shortest n o0 M) M 0 [(0, .ref (wa w o0))] [] := by
  rw [s9_shortest]
  refine J_aload_n C dX9_shortest_0 rfl 0 rfl ?_
  refine J_cvi (As := []) C (c9_isOver (gl g) w n o0 h0 M) (gd_v W5_193 W5_195 WP_42 W1_10 W5_196) rfl (by decide) (hdX9_isOver) h0 (by decide) (cl_9) rfl (Nat.le_of_ble_eq_true rfl) dX9_shortest_1 rfl (fun r2 M1 => ?_)
  refine J_if_eq (tgt := 14) C dX9_shortest_4 (by decide) (fun _ => ?_) (fun _ => ?_)
  · refine J_iconst C dX9_shortest_14 kci_0 ?_
    refine J_istore_n (lv' := [(1, .int (0 : Int32)), (0, .ref (wa w o0))]) C dX9_shortest_15 rfl (by decide) rfl ?_
    refine J_iconst C dX9_shortest_16 kci_m1 ?_
    refine J_istore_n (lv' := [(2, .int (-1 : Int32)), (1, .int (0 : Int32)), (0, .ref (wa w o0))]) C dX9_shortest_17 rfl (by decide) rfl ?_
    refine J_iconst C dX9_shortest_18 kci_0 ?_
    refine J_istore_n (lv' := [(3, .int (0 : Int32)), (2, .int (-1 : Int32)), (1, .int (0 : Int32)), (0, .ref (wa w o0))]) C dX9_shortest_19 rfl (by decide) rfl ?_
    refine J_lv [3, 2, 1, 0] rfl ?_
    exact b9_shortest_20 C RT n o0 h0 n (0 : Int32) (-1 : Int32) (0 : Int32) M1
  · refine J_aload_n C dX9_shortest_7 rfl 0 rfl ?_
    refine J_bipush C dX9_shortest_8 kcb_m3 ?_
    refine J_cvi (As := [.int (-3 : Int32)]) C (c9_no (gl g) w o0 h0 (-3 : Int32) M1) (gd_v W5_78 W5_80 WP_26 W1_10 W5_81) rfl (by decide) (hdX9_no) h0 (by decide) (cl_9) rfl (Nat.le_of_ble_eq_true rfl) dX9_shortest_10 rfl (fun r9 M8 => ?_)
    exact J_iret C RT rfl dX9_shortest_13
theorem c9_shortest (l : Launch) (w : WE) (n : Nat) (o0 : Nat) (h0 : typ o0 = 9) (M : Mem) : MC l w yX9_shortest (wz yX9_shortest cX9_shortest 4 (some .int)) rm9_shortest [.ref (wa w o0)] (s9_shortest n o0 M) M :=
  mc_of_J (own := RX9) rfl (by decide) rfl rfl (Nat.le_of_ble_eq_true rfl) (fun _ _ C RT => b9_shortest C RT n o0 h0 M)
theorem hdX9_shortest : yX9_shortest.cls = RX9 ∧ yOK yX9_shortest 0 := ⟨rfl, by decide, by decide, by decide⟩
abbrev rm9_row : Room := { frames := 1, cells := 0, slots := 0, locals := 22 }
def s9_row_25 (n : Nat) (o0 : Nat) (x1 : Int32) (x2 : Int32) (M : Mem) : Option Res := if x2 = 0 then (if inB (M o0 42) (alen (link o0 40)) then mlet (mset M (link o0 40) (M o0 42).toNatClampNeg x1) (fun M3 => mlet (mset M3 o0 42 ((M3 o0 42) + (1 : Int32))) (fun M4 => some (M4 o0 42, M4))) else none) else (cb (s9_no o0 x2 M) (fun r6 M5 => some (r6, M5)))
set_option maxRecDepth 100000 in
set_option maxHeartbeats 4000000 in
theorem b9_row_25 {w : WE} {g : GT} (C : CT w g RX9 cX9_row rm9_row 3) (RT : RTi w g cX9_row .int) (n : Nat) (o0 : Nat) (h0 : typ o0 = 9) (x1 : Int32) (x2 : Int32) (M : Mem) : J w g (s9_row_25 n o0 x1 x2 M) M 25 [(0, .ref (wa w o0)), (1, .int x1), (2, .int x2)] [] := by
  rw [s9_row_25]
  refine J_iload_n C dX9_row_25 rfl 2 rfl ?_
  refine J_if_eq (tgt := 35) C dX9_row_26 (by decide) (fun _ => ?_) (fun _ => ?_)
  · refine J_aload_n C dX9_row_35 rfl 0 rfl ?_
    refine J_getr C fk9_40 W4_217 h0 dX9_row_36 ?_
    refine J_aload_n C dX9_row_39 rfl 0 rfl ?_
    refine J_geti C fk9_42 W4_219 h0 dX9_row_40 ?_
    refine J_iload_n C dX9_row_43 rfl 1 rfl ?_
    refine J_iastore C (tl_9_40 h0) dX9_row_44 ?_
    refine J_mlet (fun M3 => ?_)
    refine J_aload_n C dX9_row_45 rfl 0 rfl ?_
    refine J_dup C rfl dX9_row_46 ?_
    refine J_geti C fk9_42 W4_219 h0 dX9_row_47 ?_
    refine J_iconst C dX9_row_50 kci_1 ?_
    refine J_iadd C dX9_row_51 ?_
    refine J_puti C fk9_42 W4_219 fp9_42 h0 dX9_row_52 ?_
    refine J_mlet (fun M4 => ?_)
    refine J_aload_n C dX9_row_55 rfl 0 rfl ?_
    refine J_geti C fk9_42 W4_219 h0 dX9_row_56 ?_
    exact J_iret C RT rfl dX9_row_59
  · refine J_aload_n C dX9_row_29 rfl 0 rfl ?_
    refine J_iload_n C dX9_row_30 rfl 2 rfl ?_
    refine J_cvi (As := [.int x2]) C (c9_no (gl g) w o0 h0 x2 M) (gd_v W5_78 W5_80 WP_26 W1_10 W5_81) rfl (by decide) (hdX9_no) h0 (by decide) (cl_9) rfl (Nat.le_of_ble_eq_true rfl) dX9_row_31 rfl (fun r6 M5 => ?_)
    exact J_iret C RT rfl dX9_row_34
def s9_row (n : Nat) (o0 : Nat) (x1 : Int32) (M : Mem) : Option Res := cb (s9_bound x1 (1 : Int32) (300 : Int32) M) (fun r2 M1 => if r2 = 0 then (if (M1 o0 42) = (16 : Int32) then (s9_row_25 n o0 x1 (-6 : Int32) M1) else (s9_row_25 n o0 x1 r2 M1)) else (s9_row_25 n o0 x1 r2 M1))
set_option maxRecDepth 100000 in
set_option maxHeartbeats 4000000 in
theorem b9_row {w : WE} {g : GT} (C : CT w g RX9 cX9_row rm9_row 3) (RT : RTi w g cX9_row .int) (n : Nat) (o0 : Nat) (h0 : typ o0 = 9) (x1 : Int32) (M : Mem) : J w g (s9_row n o0 x1 M) M 0 [(0, .ref (wa w o0)), (1, .int x1)] [] := by
  rw [s9_row]
  refine J_iload_n C dX9_row_0 rfl 1 rfl ?_
  refine J_iconst C dX9_row_1 kci_1 ?_
  refine J_sipush C dX9_row_2 kcs_300 ?_
  refine J_csi (As := [.int x1, .int (1 : Int32), .int (300 : Int32)]) (dm := 0) C (c9_bound (gl g) w x1 (1 : Int32) (300 : Int32) M) (gd_s W5_97 W5_98 W1_10 W5_99) rfl (by decide) (hdX9_bound.2) rfl (Nat.le_of_ble_eq_true rfl) dX9_row_5 rfl (fun r2 M1 => ?_)
  refine J_istore_n (lv' := [(2, .int r2), (0, .ref (wa w o0)), (1, .int x1)]) C dX9_row_8 rfl (by decide) rfl ?_
  refine J_iload_n C dX9_row_9 rfl 0 rfl ?_
  refine J_if_ne (tgt := 25) C dX9_row_10 (by decide) (fun _ => ?_) (fun _ => ?_)
  · refine J_lv [1, 2, 0] rfl ?_
    exact b9_row_25 C RT n o0 h0 x1 r2 M1
  · refine J_aload_n C dX9_row_13 rfl 1 rfl ?_
    refine J_geti C fk9_42 W4_219 h0 dX9_row_14 ?_
    refine J_bipush C dX9_row_17 kcb_16 ?_
    refine J_icmp_ne (tgt := 25) C dX9_row_19 (by decide) (fun _ => ?_) (fun _ => ?_)
    · refine J_lv [1, 2, 0] rfl ?_
      exact b9_row_25 C RT n o0 h0 x1 r2 M1
    · refine J_bipush C dX9_row_22 kcb_m6 ?_
      refine J_istore_n (lv' := [(2, .int (-6 : Int32)), (0, .ref (wa w o0)), (1, .int x1)]) C dX9_row_24 rfl (by decide) rfl ?_
      refine J_lv [1, 2, 0] rfl ?_
      exact b9_row_25 C RT n o0 h0 x1 (-6 : Int32) M1
theorem c9_row (l : Launch) (w : WE) (n : Nat) (o0 : Nat) (h0 : typ o0 = 9) (x1 : Int32) (M : Mem) : MC l w yX9_row (wz yX9_row cX9_row 3 (some .int)) rm9_row [.ref (wa w o0), .int x1] (s9_row n o0 x1 M) M :=
  mc_of_J (own := RX9) rfl (by decide) rfl rfl (Nat.le_of_ble_eq_true rfl) (fun _ _ C RT => b9_row C RT n o0 h0 x1 M)
theorem hdX9_row : yX9_row.cls = RX9 ∧ yOK yX9_row 1 := ⟨rfl, by decide, by decide, by decide⟩
abbrev rm9_could : Room := { frames := 0, cells := 0, slots := 0, locals := 0 }
def s9_could_60 (n : Nat) (k5 : Int32 → Int32 → Mem → Option Res) (o0 : Nat) (x1 : Int32) (x2 : Int32) (M : Mem) : Option Res := if inB x2 (alen (link o0 40)) then if (M (link o0 40) x2.toNatClampNeg) = (M o0 14) then (ilet (x2 + 1) (fun v1 => k5 x1 v1 M)) else (ilet (x1 &&& (-17 : Int32)) (fun v2 => ilet (x2 + 1) (fun v3 => k5 v2 v3 M))) else none
set_option maxRecDepth 100000 in
set_option maxHeartbeats 4000000 in
theorem b9_could_60 {w : WE} {g : GT} (C : CT w g RX9 cX9_could rm9_could 3) (RT : RTi w g cX9_could .int) (n : Nat) (k5 : Int32 → Int32 → Mem → Option Res) (o0 : Nat) (h0 : typ o0 = 9) (x1 : Int32) (x2 : Int32) (hk5 : ∀ (z1 : Int32) (z2 : Int32) (M : Mem), J w g (k5 z1 z2 M) M 5 [(0, .ref (wa w o0)), (1, .int z1), (2, .int z2)] []) (M : Mem) : J w g (s9_could_60 n k5 o0 x1 x2 M) M 60 [(0, .ref (wa w o0)), (1, .int x1), (2, .int x2)] [] := by
  rw [s9_could_60]
  refine J_aload_n C dX9_could_60 rfl 0 rfl ?_
  refine J_getr C fk9_40 W4_217 h0 dX9_could_61 ?_
  refine J_iload_n C dX9_could_64 rfl 2 rfl ?_
  refine J_aload_ C (tl_9_40 h0) dX9_could_65 ?_
  refine J_aload_n C dX9_could_66 rfl 0 rfl ?_
  refine J_geti C fk9_14 W4_191 h0 dX9_could_67 ?_
  refine J_icmp_eq (tgt := 78) C dX9_could_70 (by decide) (fun _ => ?_) (fun _ => ?_)
  · refine J_iinc (lw := fun v1 => [(2, .int v1), (0, .ref (wa w o0)), (1, .int x1)]) (X := x2 + 1) C dX9_could_78 (q := 2) rfl (by rw [kci_1]) (by decide) (fun _ => rfl) (fun v1 => ?_)
    refine J_goto (tgt := 5) C dX9_could_81 (by decide) ?_
    refine J_lv [1, 2, 0] rfl ?_
    exact hk5 x1 v1 M
  · refine J_iload_n C dX9_could_73 rfl 1 rfl ?_
    refine J_bipush C dX9_could_74 kcb_m17 ?_
    refine J_iand C dX9_could_76 ?_
    refine J_ilet (fun v2 => ?_)
    refine J_istore_n (lv' := [(1, .int v2), (0, .ref (wa w o0)), (2, .int x2)]) C dX9_could_77 rfl (by decide) rfl ?_
    refine J_iinc (lw := fun v3 => [(2, .int v3), (1, .int v2), (0, .ref (wa w o0))]) (X := x2 + 1) C dX9_could_78 (q := 2) rfl (by rw [kci_1]) (by decide) (fun _ => rfl) (fun v3 => ?_)
    refine J_goto (tgt := 5) C dX9_could_81 (by decide) ?_
    refine J_lv [2, 1, 0] rfl ?_
    exact hk5 v2 v3 M
def s9_could_42 (n : Nat) (k5 : Int32 → Int32 → Mem → Option Res) (o0 : Nat) (x1 : Int32) (x2 : Int32) (M : Mem) : Option Res := if inB x2 (alen (link o0 40)) then if (M o0 14) ≤ (M (link o0 40) x2.toNatClampNeg) then (s9_could_60 n k5 o0 x1 x2 M) else (ilet (x1 &&& (-5 : Int32)) (fun v4 => s9_could_60 n k5 o0 v4 x2 M)) else none
set_option maxRecDepth 100000 in
set_option maxHeartbeats 4000000 in
theorem b9_could_42 {w : WE} {g : GT} (C : CT w g RX9 cX9_could rm9_could 3) (RT : RTi w g cX9_could .int) (n : Nat) (k5 : Int32 → Int32 → Mem → Option Res) (o0 : Nat) (h0 : typ o0 = 9) (x1 : Int32) (x2 : Int32) (hk5 : ∀ (z1 : Int32) (z2 : Int32) (M : Mem), J w g (k5 z1 z2 M) M 5 [(0, .ref (wa w o0)), (1, .int z1), (2, .int z2)] []) (M : Mem) : J w g (s9_could_42 n k5 o0 x1 x2 M) M 42 [(0, .ref (wa w o0)), (1, .int x1), (2, .int x2)] [] := by
  rw [s9_could_42]
  refine J_aload_n C dX9_could_42 rfl 0 rfl ?_
  refine J_getr C fk9_40 W4_217 h0 dX9_could_43 ?_
  refine J_iload_n C dX9_could_46 rfl 2 rfl ?_
  refine J_aload_ C (tl_9_40 h0) dX9_could_47 ?_
  refine J_aload_n C dX9_could_48 rfl 0 rfl ?_
  refine J_geti C fk9_14 W4_191 h0 dX9_could_49 ?_
  refine J_icmp_ge (tgt := 60) C dX9_could_52 (by decide) (fun _ => ?_) (fun _ => ?_)
  · exact b9_could_60 C RT n k5 o0 h0 x1 x2 hk5 M
  · refine J_iload_n C dX9_could_55 rfl 1 rfl ?_
    refine J_bipush C dX9_could_56 kcb_m5 ?_
    refine J_iand C dX9_could_58 ?_
    refine J_ilet (fun v4 => ?_)
    refine J_istore_n (lv' := [(1, .int v4), (0, .ref (wa w o0)), (2, .int x2)]) C dX9_could_59 rfl (by decide) rfl ?_
    refine J_lv [1, 0, 2] rfl ?_
    exact b9_could_60 C RT n k5 o0 h0 v4 x2 hk5 M
def s9_could_5 (n : Nat) (o0 : Nat) : Nat → Int32 → Int32 → Mem → Option Res
  | 0, _, _, _ => none
  | f + 1, x1, x2, M => if (M o0 42) ≤ x2 then (some (x1, M)) else (if inB x2 (alen (link o0 40)) then if ((M (link o0 40) x2.toNatClampNeg) - (M (link o0 40) x2.toNatClampNeg) / (8 : Int32) * (8 : Int32)) = 0 then (s9_could_42 n (s9_could_5 n o0 f) o0 x1 x2 M) else (if inB x2 (alen (link o0 40)) then if (M (link o0 40) x2.toNatClampNeg) = (300 : Int32) then (s9_could_42 n (s9_could_5 n o0 f) o0 x1 x2 M) else (ilet (x1 &&& (-3 : Int32)) (fun v5 => s9_could_42 n (s9_could_5 n o0 f) o0 v5 x2 M)) else none) else none)
set_option maxRecDepth 100000 in
set_option maxHeartbeats 4000000 in
theorem b9_could_5 {w : WE} {g : GT} (C : CT w g RX9 cX9_could rm9_could 3) (RT : RTi w g cX9_could .int) (n : Nat) (o0 : Nat) (h0 : typ o0 = 9) : ∀ (f : Nat) (x1 : Int32) (x2 : Int32) (M : Mem), J w g (s9_could_5 n o0 f x1 x2 M) M 5 [(0, .ref (wa w o0)), (1, .int x1), (2, .int x2)] [] := by
  intro f
  induction f with
  | zero =>
    intro x1 x2 M
    rw [s9_could_5]
    exact J_none
  | succ f ih =>
    intro x1 x2 M
    rw [s9_could_5]
    refine J_iload_n C dX9_could_5 rfl 2 rfl ?_
    refine J_aload_n C dX9_could_6 rfl 0 rfl ?_
    refine J_geti C fk9_42 W4_219 h0 dX9_could_7 ?_
    refine J_icmp_ge (tgt := 84) C dX9_could_10 (by decide) (fun _ => ?_) (fun _ => ?_)
    · refine J_iload_n C dX9_could_84 rfl 1 rfl ?_
      exact J_iret C RT rfl dX9_could_85
    · refine J_aload_n C dX9_could_13 rfl 0 rfl ?_
      refine J_getr C fk9_40 W4_217 h0 dX9_could_14 ?_
      refine J_iload_n C dX9_could_17 rfl 2 rfl ?_
      refine J_aload_ C (tl_9_40 h0) dX9_could_18 ?_
      refine J_bipush C dX9_could_19 kcb_8 ?_
      refine J_irem_c C (by decide) dX9_could_21 ?_
      refine J_if_eq (tgt := 42) C dX9_could_22 (by decide) (fun _ => ?_) (fun _ => ?_)
      · exact b9_could_42 C RT n (s9_could_5 n o0 f) o0 h0 x1 x2 ih M
      · refine J_aload_n C dX9_could_25 rfl 0 rfl ?_
        refine J_getr C fk9_40 W4_217 h0 dX9_could_26 ?_
        refine J_iload_n C dX9_could_29 rfl 2 rfl ?_
        refine J_aload_ C (tl_9_40 h0) dX9_could_30 ?_
        refine J_sipush C dX9_could_31 kcs_300 ?_
        refine J_icmp_eq (tgt := 42) C dX9_could_34 (by decide) (fun _ => ?_) (fun _ => ?_)
        · exact b9_could_42 C RT n (s9_could_5 n o0 f) o0 h0 x1 x2 ih M
        · refine J_iload_n C dX9_could_37 rfl 1 rfl ?_
          refine J_bipush C dX9_could_38 kcb_m3 ?_
          refine J_iand C dX9_could_40 ?_
          refine J_ilet (fun v5 => ?_)
          refine J_istore_n (lv' := [(1, .int v5), (0, .ref (wa w o0)), (2, .int x2)]) C dX9_could_41 rfl (by decide) rfl ?_
          refine J_lv [1, 0, 2] rfl ?_
          exact b9_could_42 C RT n (s9_could_5 n o0 f) o0 h0 v5 x2 ih M
def s9_could (n : Nat) (o0 : Nat) (M : Mem) : Option Res := s9_could_5 n o0 n (31 : Int32) (0 : Int32) M
set_option maxRecDepth 100000 in
set_option maxHeartbeats 4000000 in
theorem b9_could {w : WE} {g : GT} (C : CT w g RX9 cX9_could rm9_could 3) (RT : RTi w g cX9_could .int) (n : Nat) (o0 : Nat) (h0 : typ o0 = 9) (M : Mem) : J w g (s9_could n o0 M) M 0 [(0, .ref (wa w o0))] [] := by
  rw [s9_could]
  refine J_bipush C dX9_could_0 kcb_31 ?_
  refine J_istore_n (lv' := [(1, .int (31 : Int32)), (0, .ref (wa w o0))]) C dX9_could_2 rfl (by decide) rfl ?_
  refine J_iconst C dX9_could_3 kci_0 ?_
  refine J_istore_n (lv' := [(2, .int (0 : Int32)), (1, .int (31 : Int32)), (0, .ref (wa w o0))]) C dX9_could_4 rfl (by decide) rfl ?_
  refine J_lv [2, 1, 0] rfl ?_
  exact b9_could_5 C RT n o0 h0 n (31 : Int32) (0 : Int32) M
theorem c9_could (l : Launch) (w : WE) (n : Nat) (o0 : Nat) (h0 : typ o0 = 9) (M : Mem) : MC l w yX9_could (wz yX9_could cX9_could 3 (some .int)) rm9_could [.ref (wa w o0)] (s9_could n o0 M) M :=
  mc_of_J (own := RX9) rfl (by decide) rfl rfl (Nat.le_of_ble_eq_true rfl) (fun _ _ C RT => b9_could C RT n o0 h0 M)
theorem hdX9_could : yX9_could.cls = RX9 ∧ yOK yX9_could 0 := ⟨rfl, by decide, by decide, by decide⟩
abbrev rm9_next : Room := { frames := 1, cells := 0, slots := 0, locals := 22 }
def s9_next_38 (n : Nat) (o0 : Nat) (x1 : Int32) : Nat → Int32 → Int32 → Mem → Option Res
  | 0, _, _, _ => none
  | f + 1, x3, x4, M => if (M o0 42) ≤ x4 then (if (M o0 42) = 0 then none else ilet (((100 : Int32) * x3) / (M o0 42)) (fun v3 => mlet (mset M o0 42 (0 : Int32)) (fun M4 => some (v3, M4)))) else (if inB x4 (alen (link o0 40)) then if x1 < (M (link o0 40) x4.toNatClampNeg) then (ilet (x3 + (0 : Int32)) (fun v5 => ilet (x4 + 1) (fun v6 => s9_next_38 n o0 x1 f v5 v6 M))) else (ilet (x3 + (1 : Int32)) (fun v7 => ilet (x4 + 1) (fun v8 => s9_next_38 n o0 x1 f v7 v8 M))) else none)
set_option maxRecDepth 100000 in
set_option maxHeartbeats 4000000 in
theorem b9_next_38 {w : WE} {g : GT} (C : CT w g RX9 cX9_next rm9_next 5) (RT : RTi w g cX9_next .int) (n : Nat) (o0 : Nat) (h0 : typ o0 = 9) (x1 : Int32) : ∀ (f : Nat) (x3 : Int32) (x4 : Int32) (M : Mem), J w g (s9_next_38 n o0 x1 f x3 x4 M) M 38 [(0, .ref (wa w o0)), (1, .int x1), (3, .int x3), (4, .int x4)] [] := by
  intro f
  induction f with
  | zero =>
    intro x3 x4 M
    rw [s9_next_38]
    exact J_none
  | succ f ih =>
    intro x3 x4 M
    rw [s9_next_38]
    refine J_iload C dX9_next_38 3 rfl ?_
    refine J_aload_n C dX9_next_40 rfl 0 rfl ?_
    refine J_geti C fk9_42 W4_219 h0 dX9_next_41 ?_
    refine J_icmp_ge (tgt := 72) C dX9_next_44 (by decide) (fun _ => ?_) (fun _ => ?_)
    · refine J_bipush C dX9_next_72 kcb_100 ?_
      refine J_iload_n C dX9_next_74 rfl 2 rfl ?_
      refine J_imul C dX9_next_75 ?_
      refine J_aload_n C dX9_next_76 rfl 0 rfl ?_
      refine J_geti C fk9_42 W4_219 h0 dX9_next_77 ?_
      refine J_idiv C dX9_next_80 ?_
      refine J_ilet (fun v3 => ?_)
      refine J_istore_n (lv' := [(3, .int v3), (0, .ref (wa w o0)), (1, .int x1), (4, .int x4)]) C dX9_next_81 rfl (by decide) rfl ?_
      refine J_aload_n C dX9_next_82 rfl 1 rfl ?_
      refine J_iconst C dX9_next_83 kci_0 ?_
      refine J_puti C fk9_42 W4_219 fp9_42 h0 dX9_next_84 ?_
      refine J_mlet (fun M4 => ?_)
      refine J_iload_n C dX9_next_87 rfl 0 rfl ?_
      exact J_iret C RT rfl dX9_next_88
    · refine J_iload_n C dX9_next_47 rfl 2 rfl ?_
      refine J_aload_n C dX9_next_48 rfl 0 rfl ?_
      refine J_getr C fk9_40 W4_217 h0 dX9_next_49 ?_
      refine J_iload C dX9_next_52 3 rfl ?_
      refine J_aload_ C (tl_9_40 h0) dX9_next_54 ?_
      refine J_iload_n C dX9_next_55 rfl 1 rfl ?_
      refine J_icmp_gt (tgt := 63) C dX9_next_56 (by decide) (fun _ => ?_) (fun _ => ?_)
      · refine J_iconst C dX9_next_63 kci_0 ?_
        refine J_iadd C dX9_next_64 ?_
        refine J_ilet (fun v5 => ?_)
        refine J_istore_n (lv' := [(3, .int v5), (0, .ref (wa w o0)), (1, .int x1), (4, .int x4)]) C dX9_next_65 rfl (by decide) rfl ?_
        refine J_iinc (lw := fun v6 => [(4, .int v6), (3, .int v5), (0, .ref (wa w o0)), (1, .int x1)]) (X := x4 + 1) C dX9_next_66 (q := 3) rfl (by rw [kci_1]) (by decide) (fun _ => rfl) (fun v6 => ?_)
        refine J_goto (tgt := 38) C dX9_next_69 (by decide) ?_
        refine J_lv [2, 3, 1, 0] rfl ?_
        exact ih v5 v6 M
      · refine J_iconst C dX9_next_59 kci_1 ?_
        refine J_goto (tgt := 64) C dX9_next_60 (by decide) ?_
        refine J_iadd C dX9_next_64 ?_
        refine J_ilet (fun v7 => ?_)
        refine J_istore_n (lv' := [(3, .int v7), (0, .ref (wa w o0)), (1, .int x1), (4, .int x4)]) C dX9_next_65 rfl (by decide) rfl ?_
        refine J_iinc (lw := fun v8 => [(4, .int v8), (3, .int v7), (0, .ref (wa w o0)), (1, .int x1)]) (X := x4 + 1) C dX9_next_66 (q := 3) rfl (by rw [kci_1]) (by decide) (fun _ => rfl) (fun v8 => ?_)
        refine J_goto (tgt := 38) C dX9_next_69 (by decide) ?_
        refine J_lv [2, 3, 1, 0] rfl ?_
        exact ih v7 v8 M
def s9_next_23 (n : Nat) (o0 : Nat) (x1 : Int32) (x2 : Int32) (M : Mem) : Option Res := if x2 = 0 then (s9_next_38 n o0 x1 n (0 : Int32) (0 : Int32) M) else (cb (s9_no o0 x2 M) (fun r10 M9 => some (r10, M9)))
set_option maxRecDepth 100000 in
set_option maxHeartbeats 4000000 in
theorem b9_next_23 {w : WE} {g : GT} (C : CT w g RX9 cX9_next rm9_next 5) (RT : RTi w g cX9_next .int) (n : Nat) (o0 : Nat) (h0 : typ o0 = 9) (x1 : Int32) (x2 : Int32) (M : Mem) : J w g (s9_next_23 n o0 x1 x2 M) M 23 [(0, .ref (wa w o0)), (1, .int x1), (2, .int x2)] [] := by
  rw [s9_next_23]
  refine J_iload_n C dX9_next_23 rfl 2 rfl ?_
  refine J_if_eq (tgt := 33) C dX9_next_24 (by decide) (fun _ => ?_) (fun _ => ?_)
  · refine J_iconst C dX9_next_33 kci_0 ?_
    refine J_istore_n (lv' := [(3, .int (0 : Int32)), (0, .ref (wa w o0)), (1, .int x1), (2, .int x2)]) C dX9_next_34 rfl (by decide) rfl ?_
    refine J_iconst C dX9_next_35 kci_0 ?_
    refine J_istore (lv' := [(4, .int (0 : Int32)), (3, .int (0 : Int32)), (0, .ref (wa w o0)), (1, .int x1), (2, .int x2)]) C dX9_next_36 (by decide) rfl ?_
    refine J_lv [2, 3, 1, 0] rfl ?_
    exact b9_next_38 C RT n o0 h0 x1 n (0 : Int32) (0 : Int32) M
  · refine J_aload_n C dX9_next_27 rfl 0 rfl ?_
    refine J_iload_n C dX9_next_28 rfl 2 rfl ?_
    refine J_cvi (As := [.int x2]) C (c9_no (gl g) w o0 h0 x2 M) (gd_v W5_78 W5_80 WP_26 W1_10 W5_81) rfl (by decide) (hdX9_no) h0 (by decide) (cl_9) rfl (Nat.le_of_ble_eq_true rfl) dX9_next_29 rfl (fun r10 M9 => ?_)
    exact J_iret C RT rfl dX9_next_32
def s9_next (n : Nat) (o0 : Nat) (x1 : Int32) (M : Mem) : Option Res := cb (s9_bound x1 (1 : Int32) (300 : Int32) M) (fun r2 M1 => if r2 = 0 then (if (M1 o0 42) = 0 then (s9_next_23 n o0 x1 (-3 : Int32) M1) else (s9_next_23 n o0 x1 r2 M1)) else (s9_next_23 n o0 x1 r2 M1))
set_option maxRecDepth 100000 in
set_option maxHeartbeats 4000000 in
theorem b9_next {w : WE} {g : GT} (C : CT w g RX9 cX9_next rm9_next 5) (RT : RTi w g cX9_next .int) (n : Nat) (o0 : Nat) (h0 : typ o0 = 9) (x1 : Int32) (M : Mem) : J w g (s9_next n o0 x1 M) M 0 [(0, .ref (wa w o0)), (1, .int x1)] [] := by
  rw [s9_next]
  refine J_iload_n C dX9_next_0 rfl 1 rfl ?_
  refine J_iconst C dX9_next_1 kci_1 ?_
  refine J_sipush C dX9_next_2 kcs_300 ?_
  refine J_csi (As := [.int x1, .int (1 : Int32), .int (300 : Int32)]) (dm := 0) C (c9_bound (gl g) w x1 (1 : Int32) (300 : Int32) M) (gd_s W5_97 W5_98 W1_10 W5_99) rfl (by decide) (hdX9_bound.2) rfl (Nat.le_of_ble_eq_true rfl) dX9_next_5 rfl (fun r2 M1 => ?_)
  refine J_istore_n (lv' := [(2, .int r2), (0, .ref (wa w o0)), (1, .int x1)]) C dX9_next_8 rfl (by decide) rfl ?_
  refine J_iload_n C dX9_next_9 rfl 0 rfl ?_
  refine J_if_ne (tgt := 23) C dX9_next_10 (by decide) (fun _ => ?_) (fun _ => ?_)
  · refine J_lv [1, 2, 0] rfl ?_
    exact b9_next_23 C RT n o0 h0 x1 r2 M1
  · refine J_aload_n C dX9_next_13 rfl 1 rfl ?_
    refine J_geti C fk9_42 W4_219 h0 dX9_next_14 ?_
    refine J_if_ne (tgt := 23) C dX9_next_17 (by decide) (fun _ => ?_) (fun _ => ?_)
    · refine J_lv [1, 2, 0] rfl ?_
      exact b9_next_23 C RT n o0 h0 x1 r2 M1
    · refine J_bipush C dX9_next_20 kcb_m3 ?_
      refine J_istore_n (lv' := [(2, .int (-3 : Int32)), (0, .ref (wa w o0)), (1, .int x1)]) C dX9_next_22 rfl (by decide) rfl ?_
      refine J_lv [1, 2, 0] rfl ?_
      exact b9_next_23 C RT n o0 h0 x1 (-3 : Int32) M1
theorem c9_next (l : Launch) (w : WE) (n : Nat) (o0 : Nat) (h0 : typ o0 = 9) (x1 : Int32) (M : Mem) : MC l w yX9_next (wz yX9_next cX9_next 5 (some .int)) rm9_next [.ref (wa w o0), .int x1] (s9_next n o0 x1 M) M :=
  mc_of_J (own := RX9) rfl (by decide) rfl rfl (Nat.le_of_ble_eq_true rfl) (fun _ _ C RT => b9_next C RT n o0 h0 x1 M)
theorem hdX9_next : yX9_next.cls = RX9 ∧ yOK yX9_next 1 := ⟨rfl, by decide, by decide, by decide⟩
abbrev rm9_team : Room := { frames := 5, cells := 0, slots := 0, locals := 118 }
def s9_team (n : Nat) (o0 : Nat) (x1 : Int32) (x2 : Int32) (x3 : Int32) (x4 : Int32) (M : Mem) : Option Res := cb (s9_isThere o0 x1 M) (fun r2 M1 => if r2 = 0 then (cb (s9_no o0 (-1 : Int32) M1) (fun r4 M3 => some (r4, M3))) else (cb (s9_isThere o0 x2 M1) (fun r6 M5 => if r6 = 0 then (cb (s9_no o0 (-1 : Int32) M5) (fun r8 M7 => some (r8, M7))) else (if x1 = x2 then (cb (s9_no o0 (-1 : Int32) M5) (fun r20 M19 => some (r20, M19))) else (cb (s9_isIn x4 (0 : Int32) (1 : Int32) M5) (fun r10 M9 => if r10 = 0 then (cb (s9_no o0 (-2 : Int32) M9) (fun r18 M17 => some (r18, M17))) else (cb (s9_bound x3 (1 : Int32) (200 : Int32) M9) (fun r12 M11 => if r12 = 0 then (cb (s9_findOdds n o0 x3 x1 x2 M11) (fun _ M13 => if x4 = (1 : Int32) then (some (M13 o0 36, M13)) else (if inB x1 (alen (link o0 34)) then if inB x2 (alen (link o0 34)) then if (M13 (link o0 34) x1.toNatClampNeg) ≤ (M13 (link o0 34) x2.toNatClampNeg) then (if inB x2 (alen (link o0 34)) then some ((M13 o0 35) - (M13 (link o0 34) x2.toNatClampNeg), M13) else none) else (if inB x1 (alen (link o0 34)) then some ((M13 o0 35) - (M13 (link o0 34) x1.toNatClampNeg), M13) else none) else none else none))) else (cb (s9_no o0 r12 M11) (fun r16 M15 => some (r16, M15)))))))))))
set_option maxRecDepth 100000 in
set_option maxHeartbeats 4000000 in
theorem b9_team {w : WE} {g : GT} (C : CT w g RX9 cX9_team rm9_team 6) (RT : RTi w g cX9_team .int) (n : Nat) (o0 : Nat) (h0 : typ o0 = 9) (x1 : Int32) (x2 : Int32) (x3 : Int32) (x4 : Int32) (M : Mem) : J w g (s9_team n o0 x1 x2 x3 x4 M) M 0 [(0, .ref (wa w o0)), (1, .int x1), (2, .int x2), (3, .int x3), (4, .int x4)] [] := by
  rw [s9_team]
  refine J_aload_n C dX9_team_0 rfl 0 rfl ?_
  refine J_iload_n C dX9_team_1 rfl 1 rfl ?_
  refine J_cvi (As := [.int x1]) C (c9_isThere (gl g) w o0 h0 x1 M) (gd_v W6_24 W6_26 WP_57 W1_10 W6_27) rfl (by decide) (hdX9_isThere) h0 (by decide) (cl_9) rfl (Nat.le_of_ble_eq_true rfl) dX9_team_2 rfl (fun r2 M1 => ?_)
  refine J_if_eq (tgt := 21) C dX9_team_5 (by decide) (fun _ => ?_) (fun _ => ?_)
  · refine J_aload_n C dX9_team_21 rfl 0 rfl ?_
    refine J_iconst C dX9_team_22 kci_m1 ?_
    refine J_cvi (As := [.int (-1 : Int32)]) C (c9_no (gl g) w o0 h0 (-1 : Int32) M1) (gd_v W5_78 W5_80 WP_26 W1_10 W5_81) rfl (by decide) (hdX9_no) h0 (by decide) (cl_9) rfl (Nat.le_of_ble_eq_true rfl) dX9_team_23 rfl (fun r4 M3 => ?_)
    exact J_iret C RT rfl dX9_team_26
  · refine J_aload_n C dX9_team_8 rfl 0 rfl ?_
    refine J_iload_n C dX9_team_9 rfl 2 rfl ?_
    refine J_cvi (As := [.int x2]) C (c9_isThere (gl g) w o0 h0 x2 M1) (gd_v W6_24 W6_26 WP_57 W1_10 W6_27) rfl (by decide) (hdX9_isThere) h0 (by decide) (cl_9) rfl (Nat.le_of_ble_eq_true rfl) dX9_team_10 rfl (fun r6 M5 => ?_)
    refine J_if_eq (tgt := 21) C dX9_team_13 (by decide) (fun _ => ?_) (fun _ => ?_)
    · refine J_aload_n C dX9_team_21 rfl 0 rfl ?_
      refine J_iconst C dX9_team_22 kci_m1 ?_
      refine J_cvi (As := [.int (-1 : Int32)]) C (c9_no (gl g) w o0 h0 (-1 : Int32) M5) (gd_v W5_78 W5_80 WP_26 W1_10 W5_81) rfl (by decide) (hdX9_no) h0 (by decide) (cl_9) rfl (Nat.le_of_ble_eq_true rfl) dX9_team_23 rfl (fun r8 M7 => ?_)
      exact J_iret C RT rfl dX9_team_26
    · refine J_iload_n C dX9_team_16 rfl 1 rfl ?_
      refine J_iload_n C dX9_team_17 rfl 2 rfl ?_
      refine J_icmp_ne (tgt := 27) C dX9_team_18 (by decide) (fun _ => ?_) (fun _ => ?_)
      · refine J_iload C dX9_team_27 4 rfl ?_
        refine J_iconst C dX9_team_29 kci_0 ?_
        refine J_iconst C dX9_team_30 kci_1 ?_
        refine J_csi (As := [.int x4, .int (0 : Int32), .int (1 : Int32)]) (dm := 0) C (c9_isIn (gl g) w x4 (0 : Int32) (1 : Int32) M5) (gd_s W5_94 W5_95 W1_10 W5_96) rfl (by decide) (hdX9_isIn.2) rfl (Nat.le_of_ble_eq_true rfl) dX9_team_31 rfl (fun r10 M9 => ?_)
        refine J_if_ne (tgt := 44) C dX9_team_34 (by decide) (fun _ => ?_) (fun _ => ?_)
        · refine J_iload_n C dX9_team_44 rfl 3 rfl ?_
          refine J_iconst C dX9_team_45 kci_1 ?_
          refine J_sipush C dX9_team_46 kcs_200 ?_
          refine J_csi (As := [.int x3, .int (1 : Int32), .int (200 : Int32)]) (dm := 0) C (c9_bound (gl g) w x3 (1 : Int32) (200 : Int32) M9) (gd_s W5_97 W5_98 W1_10 W5_99) rfl (by decide) (hdX9_bound.2) rfl (Nat.le_of_ble_eq_true rfl) dX9_team_49 rfl (fun r12 M11 => ?_)
          refine J_istore (lv' := [(5, .int r12), (0, .ref (wa w o0)), (1, .int x1), (2, .int x2), (3, .int x3), (4, .int x4)]) C dX9_team_52 (by decide) rfl ?_
          refine J_iload C dX9_team_54 0 rfl ?_
          refine J_if_eq (tgt := 66) C dX9_team_56 (by decide) (fun _ => ?_) (fun _ => ?_)
          · refine J_aload_n C dX9_team_66 rfl 1 rfl ?_
            refine J_iload_n C dX9_team_67 rfl 4 rfl ?_
            refine J_iload_n C dX9_team_68 rfl 2 rfl ?_
            refine J_iload_n C dX9_team_69 rfl 3 rfl ?_
            refine J_cvv (As := [.int x3, .int x1, .int x2]) C (c9_findOdds (gl g) w n o0 h0 x3 x1 x2 M11) (gd_v W6_44 W6_46 WP_60 W1_10 W6_47) rfl (by decide) (hdX9_findOdds) h0 (by decide) (cl_9) rfl (Nat.le_of_ble_eq_true rfl) dX9_team_70 rfl (fun r14 M13 => ?_)
            refine J_iload C dX9_team_73 5 rfl ?_
            refine J_iconst C dX9_team_75 kci_1 ?_
            refine J_icmp_ne (tgt := 86) C dX9_team_76 (by decide) (fun _ => ?_) (fun _ => ?_)
            · refine J_aload_n C dX9_team_86 rfl 1 rfl ?_
              refine J_geti C fk9_35 W4_212 h0 dX9_team_87 ?_
              refine J_aload_n C dX9_team_90 rfl 1 rfl ?_
              refine J_getr C fk9_34 W4_211 h0 dX9_team_91 ?_
              refine J_iload_n C dX9_team_94 rfl 2 rfl ?_
              refine J_aload_ C (tl_9_34 h0) dX9_team_95 ?_
              refine J_aload_n C dX9_team_96 rfl 1 rfl ?_
              refine J_getr C fk9_34 W4_211 h0 dX9_team_97 ?_
              refine J_iload_n C dX9_team_100 rfl 3 rfl ?_
              refine J_aload_ C (tl_9_34 h0) dX9_team_101 ?_
              refine J_icmp_le (tgt := 114) C dX9_team_102 (by decide) (fun _ => ?_) (fun _ => ?_)
              · refine J_aload_n C dX9_team_114 rfl 1 rfl ?_
                refine J_getr C fk9_34 W4_211 h0 dX9_team_115 ?_
                refine J_iload_n C dX9_team_118 rfl 3 rfl ?_
                refine J_aload_ C (tl_9_34 h0) dX9_team_119 ?_
                refine J_isub C dX9_team_120 ?_
                exact J_iret C RT rfl dX9_team_121
              · refine J_aload_n C dX9_team_105 rfl 1 rfl ?_
                refine J_getr C fk9_34 W4_211 h0 dX9_team_106 ?_
                refine J_iload_n C dX9_team_109 rfl 2 rfl ?_
                refine J_aload_ C (tl_9_34 h0) dX9_team_110 ?_
                refine J_goto (tgt := 120) C dX9_team_111 (by decide) ?_
                refine J_isub C dX9_team_120 ?_
                exact J_iret C RT rfl dX9_team_121
            · refine J_aload_n C dX9_team_79 rfl 1 rfl ?_
              refine J_geti C fk9_36 W4_213 h0 dX9_team_80 ?_
              refine J_goto (tgt := 121) C dX9_team_83 (by decide) ?_
              exact J_iret C RT rfl dX9_team_121
          · refine J_aload_n C dX9_team_59 rfl 1 rfl ?_
            refine J_iload C dX9_team_60 0 rfl ?_
            refine J_cvi (As := [.int r12]) C (c9_no (gl g) w o0 h0 r12 M11) (gd_v W5_78 W5_80 WP_26 W1_10 W5_81) rfl (by decide) (hdX9_no) h0 (by decide) (cl_9) rfl (Nat.le_of_ble_eq_true rfl) dX9_team_62 rfl (fun r16 M15 => ?_)
            exact J_iret C RT rfl dX9_team_65
        · refine J_aload_n C dX9_team_37 rfl 0 rfl ?_
          refine J_bipush C dX9_team_38 kcb_m2 ?_
          refine J_cvi (As := [.int (-2 : Int32)]) C (c9_no (gl g) w o0 h0 (-2 : Int32) M9) (gd_v W5_78 W5_80 WP_26 W1_10 W5_81) rfl (by decide) (hdX9_no) h0 (by decide) (cl_9) rfl (Nat.le_of_ble_eq_true rfl) dX9_team_40 rfl (fun r18 M17 => ?_)
          exact J_iret C RT rfl dX9_team_43
      · refine J_aload_n C dX9_team_21 rfl 0 rfl ?_
        refine J_iconst C dX9_team_22 kci_m1 ?_
        refine J_cvi (As := [.int (-1 : Int32)]) C (c9_no (gl g) w o0 h0 (-1 : Int32) M5) (gd_v W5_78 W5_80 WP_26 W1_10 W5_81) rfl (by decide) (hdX9_no) h0 (by decide) (cl_9) rfl (Nat.le_of_ble_eq_true rfl) dX9_team_23 rfl (fun r20 M19 => ?_)
        exact J_iret C RT rfl dX9_team_26
theorem c9_team (l : Launch) (w : WE) (n : Nat) (o0 : Nat) (h0 : typ o0 = 9) (x1 : Int32) (x2 : Int32) (x3 : Int32) (x4 : Int32) (M : Mem) : MC l w yX9_team (wz yX9_team cX9_team 6 (some .int)) rm9_team [.ref (wa w o0), .int x1, .int x2, .int x3, .int x4] (s9_team n o0 x1 x2 x3 x4 M) M :=
  mc_of_J (own := RX9) rfl (by decide) rfl rfl (Nat.le_of_ble_eq_true rfl) (fun _ _ C RT => b9_team C RT n o0 h0 x1 x2 x3 x4 M)
theorem hdX9_team : yX9_team.cls = RX9 ∧ yOK yX9_team 4 := ⟨rfl, by decide, by decide, by decide⟩
abbrev rm9_film : Room := { frames := 1, cells := 0, slots := 0, locals := 21 }
def s9_film (o0 : Nat) (x1 : Int32) (M : Mem) : Option Res := cb (s9_isPlace o0 x1 M) (fun r2 M1 => if r2 = 0 then (cb (s9_no o0 (-1 : Int32) M1) (fun r8 M7 => some (r8, M7))) else (if (M1 o0 43) = (60 : Int32) then (cb (s9_no o0 (-6 : Int32) M1) (fun r6 M5 => some (r6, M5))) else (if inB (M1 o0 43) (alen (link o0 41)) then mlet (mset M1 (link o0 41) (M1 o0 43).toNatClampNeg x1) (fun M3 => mlet (mset M3 o0 43 ((M3 o0 43) + (1 : Int32))) (fun M4 => some (M4 o0 43, M4))) else none)))
set_option maxRecDepth 100000 in
set_option maxHeartbeats 4000000 in
theorem b9_film {w : WE} {g : GT} (C : CT w g RX9 cX9_film rm9_film 2) (RT : RTi w g cX9_film .int) (o0 : Nat) (h0 : typ o0 = 9) (x1 : Int32) (M : Mem) : J w g (s9_film o0 x1 M) M 0 [(0, .ref (wa w o0)), (1, .int x1)] [] := by
  rw [s9_film]
  refine J_aload_n C dX9_film_0 rfl 0 rfl ?_
  refine J_iload_n C dX9_film_1 rfl 1 rfl ?_
  refine J_cvi (As := [.int x1]) C (c9_isPlace (gl g) w o0 h0 x1 M) (gd_v W5_74 W5_76 WP_25 W1_10 W5_77) rfl (by decide) (hdX9_isPlace) h0 (by decide) (cl_9) rfl (Nat.le_of_ble_eq_true rfl) dX9_film_2 rfl (fun r2 M1 => ?_)
  refine J_if_ne (tgt := 14) C dX9_film_5 (by decide) (fun _ => ?_) (fun _ => ?_)
  · refine J_aload_n C dX9_film_14 rfl 0 rfl ?_
    refine J_geti C fk9_43 W4_220 h0 dX9_film_15 ?_
    refine J_bipush C dX9_film_18 kcb_60 ?_
    refine J_icmp_ne (tgt := 30) C dX9_film_20 (by decide) (fun _ => ?_) (fun _ => ?_)
    · refine J_aload_n C dX9_film_30 rfl 0 rfl ?_
      refine J_getr C fk9_41 W4_218 h0 dX9_film_31 ?_
      refine J_aload_n C dX9_film_34 rfl 0 rfl ?_
      refine J_geti C fk9_43 W4_220 h0 dX9_film_35 ?_
      refine J_iload_n C dX9_film_38 rfl 1 rfl ?_
      refine J_iastore C (tl_9_41 h0) dX9_film_39 ?_
      refine J_mlet (fun M3 => ?_)
      refine J_aload_n C dX9_film_40 rfl 0 rfl ?_
      refine J_dup C rfl dX9_film_41 ?_
      refine J_geti C fk9_43 W4_220 h0 dX9_film_42 ?_
      refine J_iconst C dX9_film_45 kci_1 ?_
      refine J_iadd C dX9_film_46 ?_
      refine J_puti C fk9_43 W4_220 fp9_43 h0 dX9_film_47 ?_
      refine J_mlet (fun M4 => ?_)
      refine J_aload_n C dX9_film_50 rfl 0 rfl ?_
      refine J_geti C fk9_43 W4_220 h0 dX9_film_51 ?_
      exact J_iret C RT rfl dX9_film_54
    · refine J_aload_n C dX9_film_23 rfl 0 rfl ?_
      refine J_bipush C dX9_film_24 kcb_m6 ?_
      refine J_cvi (As := [.int (-6 : Int32)]) C (c9_no (gl g) w o0 h0 (-6 : Int32) M1) (gd_v W5_78 W5_80 WP_26 W1_10 W5_81) rfl (by decide) (hdX9_no) h0 (by decide) (cl_9) rfl (Nat.le_of_ble_eq_true rfl) dX9_film_26 rfl (fun r6 M5 => ?_)
      exact J_iret C RT rfl dX9_film_29
  · refine J_aload_n C dX9_film_8 rfl 0 rfl ?_
    refine J_iconst C dX9_film_9 kci_m1 ?_
    refine J_cvi (As := [.int (-1 : Int32)]) C (c9_no (gl g) w o0 h0 (-1 : Int32) M1) (gd_v W5_78 W5_80 WP_26 W1_10 W5_81) rfl (by decide) (hdX9_no) h0 (by decide) (cl_9) rfl (Nat.le_of_ble_eq_true rfl) dX9_film_10 rfl (fun r8 M7 => ?_)
    exact J_iret C RT rfl dX9_film_13
theorem c9_film (l : Launch) (w : WE) (o0 : Nat) (h0 : typ o0 = 9) (x1 : Int32) (M : Mem) : MC l w yX9_film (wz yX9_film cX9_film 2 (some .int)) rm9_film [.ref (wa w o0), .int x1] (s9_film o0 x1 M) M :=
  mc_of_J (own := RX9) rfl (by decide) rfl rfl (Nat.le_of_ble_eq_true rfl) (fun _ _ C RT => b9_film C RT o0 h0 x1 M)
theorem hdX9_film : yX9_film.cls = RX9 ∧ yOK yX9_film 1 := ⟨rfl, by decide, by decide, by decide⟩
abbrev rm9_judge : Room := { frames := 2, cells := 0, slots := 0, locals := 44 }
def s9_judge_75 (n : Nat) (o0 : Nat) (x3 : Int32) (M : Mem) : Option Res := cb (s9_passesAll n o0 (1 : Int32) (0 : Int32) M) (fun _ M7 => some (x3, M7))
set_option maxRecDepth 100000 in
set_option maxHeartbeats 4000000 in
theorem b9_judge_75 {w : WE} {g : GT} (C : CT w g RX9 cX9_judge rm9_judge 5) (RT : RTi w g cX9_judge .int) (n : Nat) (o0 : Nat) (h0 : typ o0 = 9) (x3 : Int32) (M : Mem) : J w g (s9_judge_75 n o0 x3 M) M 75 [(0, .ref (wa w o0)), (3, .int x3)] [] := by
  rw [s9_judge_75]
  refine J_aload_n C dX9_judge_75 rfl 0 rfl ?_
  refine J_iconst C dX9_judge_76 kci_1 ?_
  refine J_iconst C dX9_judge_77 kci_0 ?_
  refine J_cvv (As := [.int (1 : Int32), .int (0 : Int32)]) C (c9_passesAll (gl g) w n o0 h0 (1 : Int32) (0 : Int32) M) (gd_v W5_173 W5_175 WP_38 W1_10 W5_176) rfl (by decide) (hdX9_passesAll) h0 (by decide) (cl_9) rfl (Nat.le_of_ble_eq_true rfl) dX9_judge_78 rfl (fun r8 M7 => ?_)
  refine J_iload_n C dX9_judge_81 rfl 1 rfl ?_
  exact J_iret C RT rfl dX9_judge_82
def s9_judge_36 (n : Nat) (o0 : Nat) (x1 : Int32) (x2 : Int32) : Nat → Int32 → Int32 → Mem → Option Res
  | 0, _, _, _ => none
  | f + 1, x3, x4, M => if x2 ≤ x4 then (s9_judge_75 n o0 x3 M) else (if 0 ≤ x3 then (s9_judge_75 n o0 x3 M) else (cb (s9_walks n o0 M) (fun _ M9 => if inB x1 (alen (link o0 2)) then if inB x4 (alen (link o0 41)) then if (M9 (link o0 2) x1.toNatClampNeg) = (M9 (link o0 41) x4.toNatClampNeg) then (ilet (x4 + 1) (fun v11 => s9_judge_36 n o0 x1 x2 f x3 v11 M9)) else (ilet (x4 + 1) (fun v12 => s9_judge_36 n o0 x1 x2 f x4 v12 M9)) else none else none)))
set_option maxRecDepth 100000 in
set_option maxHeartbeats 4000000 in
theorem b9_judge_36 {w : WE} {g : GT} (C : CT w g RX9 cX9_judge rm9_judge 5) (RT : RTi w g cX9_judge .int) (n : Nat) (o0 : Nat) (h0 : typ o0 = 9) (x1 : Int32) (x2 : Int32) : ∀ (f : Nat) (x3 : Int32) (x4 : Int32) (M : Mem), J w g (s9_judge_36 n o0 x1 x2 f x3 x4 M) M 36 [(0, .ref (wa w o0)), (1, .int x1), (2, .int x2), (3, .int x3), (4, .int x4)] [] := by
  intro f
  induction f with
  | zero =>
    intro x3 x4 M
    rw [s9_judge_36]
    exact J_none
  | succ f ih =>
    intro x3 x4 M
    rw [s9_judge_36]
    refine J_iload C dX9_judge_36 4 rfl ?_
    refine J_iload_n C dX9_judge_38 rfl 2 rfl ?_
    refine J_icmp_ge (tgt := 75) C dX9_judge_39 (by decide) (fun _ => ?_) (fun _ => ?_)
    · refine J_lv [0, 3] rfl ?_
      exact b9_judge_75 C RT n o0 h0 x3 M
    · refine J_iload_n C dX9_judge_42 rfl 3 rfl ?_
      refine J_if_ge (tgt := 75) C dX9_judge_43 (by decide) (fun _ => ?_) (fun _ => ?_)
      · refine J_lv [0, 3] rfl ?_
        exact b9_judge_75 C RT n o0 h0 x3 M
      · refine J_aload_n C dX9_judge_46 rfl 0 rfl ?_
        refine J_cvv (As := []) C (c9_walks (gl g) w n o0 h0 M) (gd_v W5_205 W5_207 WP_45 W1_10 W5_208) rfl (by decide) (hdX9_walks) h0 (by decide) (cl_9) rfl (Nat.le_of_ble_eq_true rfl) dX9_judge_47 rfl (fun r10 M9 => ?_)
        refine J_aload_n C dX9_judge_50 rfl 0 rfl ?_
        refine J_getr C fk9_2 W4_179 h0 dX9_judge_51 ?_
        refine J_iload_n C dX9_judge_54 rfl 1 rfl ?_
        refine J_aload_ C (tl_9_2 h0) dX9_judge_55 ?_
        refine J_aload_n C dX9_judge_56 rfl 0 rfl ?_
        refine J_getr C fk9_41 W4_218 h0 dX9_judge_57 ?_
        refine J_iload C dX9_judge_60 4 rfl ?_
        refine J_aload_ C (tl_9_41 h0) dX9_judge_62 ?_
        refine J_icmp_eq (tgt := 69) C dX9_judge_63 (by decide) (fun _ => ?_) (fun _ => ?_)
        · refine J_iinc (lw := fun v11 => [(4, .int v11), (0, .ref (wa w o0)), (1, .int x1), (2, .int x2), (3, .int x3)]) (X := x4 + 1) C dX9_judge_69 (q := 4) rfl (by rw [kci_1]) (by decide) (fun _ => rfl) (fun v11 => ?_)
          refine J_goto (tgt := 36) C dX9_judge_72 (by decide) ?_
          refine J_lv [1, 2, 3, 4, 0] rfl ?_
          exact ih x3 v11 M9
        · refine J_iload C dX9_judge_66 4 rfl ?_
          refine J_istore_n (lv' := [(3, .int x4), (0, .ref (wa w o0)), (1, .int x1), (2, .int x2), (4, .int x4)]) C dX9_judge_68 rfl (by decide) rfl ?_
          refine J_iinc (lw := fun v12 => [(4, .int v12), (3, .int x4), (0, .ref (wa w o0)), (1, .int x1), (2, .int x2)]) (X := x4 + 1) C dX9_judge_69 (q := 4) rfl (by rw [kci_1]) (by decide) (fun _ => rfl) (fun v12 => ?_)
          refine J_goto (tgt := 36) C dX9_judge_72 (by decide) ?_
          refine J_lv [2, 3, 4, 1, 0] rfl ?_
          exact ih x4 v12 M9
def s9_judge (n : Nat) (o0 : Nat) (x1 : Int32) (M : Mem) : Option Res := cb (s9_isThere o0 x1 M) (fun r2 M1 => if r2 = 0 then (cb (s9_no o0 (-1 : Int32) M1) (fun r14 M13 => some (r14, M13))) else (ilet (M1 o0 43) (fun v3 => mlet (mset M1 o0 43 (0 : Int32)) (fun M4 => cb (s9_passesAll n o0 (1 : Int32) (1 : Int32) M4) (fun _ M5 => s9_judge_36 n o0 x1 v3 n (-9 : Int32) (0 : Int32) M5)))))
set_option maxRecDepth 100000 in
set_option maxHeartbeats 4000000 in
theorem b9_judge {w : WE} {g : GT} (C : CT w g RX9 cX9_judge rm9_judge 5) (RT : RTi w g cX9_judge .int) (n : Nat) (o0 : Nat) (h0 : typ o0 = 9) (x1 : Int32) (M : Mem) : J w g (s9_judge n o0 x1 M) M 0 [(0, .ref (wa w o0)), (1, .int x1)] [] := by
  rw [s9_judge]
  refine J_aload_n C dX9_judge_0 rfl 0 rfl ?_
  refine J_iload_n C dX9_judge_1 rfl 1 rfl ?_
  refine J_cvi (As := [.int x1]) C (c9_isThere (gl g) w o0 h0 x1 M) (gd_v W6_24 W6_26 WP_57 W1_10 W6_27) rfl (by decide) (hdX9_isThere) h0 (by decide) (cl_9) rfl (Nat.le_of_ble_eq_true rfl) dX9_judge_2 rfl (fun r2 M1 => ?_)
  refine J_if_ne (tgt := 14) C dX9_judge_5 (by decide) (fun _ => ?_) (fun _ => ?_)
  · refine J_aload_n C dX9_judge_14 rfl 0 rfl ?_
    refine J_geti C fk9_43 W4_220 h0 dX9_judge_15 ?_
    refine J_ilet (fun v3 => ?_)
    refine J_istore_n (lv' := [(2, .int v3), (0, .ref (wa w o0)), (1, .int x1)]) C dX9_judge_18 rfl (by decide) rfl ?_
    refine J_aload_n C dX9_judge_19 rfl 1 rfl ?_
    refine J_iconst C dX9_judge_20 kci_0 ?_
    refine J_puti C fk9_43 W4_220 fp9_43 h0 dX9_judge_21 ?_
    refine J_mlet (fun M4 => ?_)
    refine J_aload_n C dX9_judge_24 rfl 1 rfl ?_
    refine J_iconst C dX9_judge_25 kci_1 ?_
    refine J_iconst C dX9_judge_26 kci_1 ?_
    refine J_cvv (As := [.int (1 : Int32), .int (1 : Int32)]) C (c9_passesAll (gl g) w n o0 h0 (1 : Int32) (1 : Int32) M4) (gd_v W5_173 W5_175 WP_38 W1_10 W5_176) rfl (by decide) (hdX9_passesAll) h0 (by decide) (cl_9) rfl (Nat.le_of_ble_eq_true rfl) dX9_judge_27 rfl (fun r6 M5 => ?_)
    refine J_bipush C dX9_judge_30 kcb_m9 ?_
    refine J_istore_n (lv' := [(3, .int (-9 : Int32)), (2, .int v3), (0, .ref (wa w o0)), (1, .int x1)]) C dX9_judge_32 rfl (by decide) rfl ?_
    refine J_iconst C dX9_judge_33 kci_0 ?_
    refine J_istore (lv' := [(4, .int (0 : Int32)), (3, .int (-9 : Int32)), (2, .int v3), (0, .ref (wa w o0)), (1, .int x1)]) C dX9_judge_34 (by decide) rfl ?_
    refine J_lv [3, 4, 2, 1, 0] rfl ?_
    exact b9_judge_36 C RT n o0 h0 x1 v3 n (-9 : Int32) (0 : Int32) M5
  · refine J_aload_n C dX9_judge_8 rfl 0 rfl ?_
    refine J_iconst C dX9_judge_9 kci_m1 ?_
    refine J_cvi (As := [.int (-1 : Int32)]) C (c9_no (gl g) w o0 h0 (-1 : Int32) M1) (gd_v W5_78 W5_80 WP_26 W1_10 W5_81) rfl (by decide) (hdX9_no) h0 (by decide) (cl_9) rfl (Nat.le_of_ble_eq_true rfl) dX9_judge_10 rfl (fun r14 M13 => ?_)
    exact J_iret C RT rfl dX9_judge_13
theorem c9_judge (l : Launch) (w : WE) (n : Nat) (o0 : Nat) (h0 : typ o0 = 9) (x1 : Int32) (M : Mem) : MC l w yX9_judge (wz yX9_judge cX9_judge 5 (some .int)) rm9_judge [.ref (wa w o0), .int x1] (s9_judge n o0 x1 M) M :=
  mc_of_J (own := RX9) rfl (by decide) rfl rfl (Nat.le_of_ble_eq_true rfl) (fun _ _ C RT => b9_judge C RT n o0 h0 x1 M)
theorem hdX9_judge : yX9_judge.cls = RX9 ∧ yOK yX9_judge 1 := ⟨rfl, by decide, by decide, by decide⟩
abbrev rm9_image : Room := { frames := 2, cells := 0, slots := 0, locals := 44 }
def s9_image (n : Nat) (o0 : Nat) (M : Mem) : Option Res := mlet (mset M o0 30 (1 : Int32)) (fun M1 => cb (s9_passesAll n o0 (0 : Int32) (1 : Int32) M1) (fun _ M2 => some (M2 o0 12, M2)))
set_option maxRecDepth 100000 in
set_option maxHeartbeats 4000000 in
theorem b9_image {w : WE} {g : GT} (C : CT w g RX9 cX9_image rm9_image 1) (RT : RTi w g cX9_image .int) (n : Nat) (o0 : Nat) (h0 : typ o0 = 9) (M : Mem) : J w g (s9_image n o0 M) M 0 [(0, .ref (wa w o0))] [] := by
  rw [s9_image]
  refine J_aload_n C dX9_image_0 rfl 0 rfl ?_
  refine J_iconst C dX9_image_1 kci_1 ?_
  refine J_putzc C (by decide) fk9_30 W4_207 fp9_30 h0 dX9_image_2 ?_
  refine J_mlet (fun M1 => ?_)
  refine J_aload_n C dX9_image_5 rfl 0 rfl ?_
  refine J_iconst C dX9_image_6 kci_0 ?_
  refine J_iconst C dX9_image_7 kci_1 ?_
  refine J_cvv (As := [.int (0 : Int32), .int (1 : Int32)]) C (c9_passesAll (gl g) w n o0 h0 (0 : Int32) (1 : Int32) M1) (gd_v W5_173 W5_175 WP_38 W1_10 W5_176) rfl (by decide) (hdX9_passesAll) h0 (by decide) (cl_9) rfl (Nat.le_of_ble_eq_true rfl) dX9_image_8 rfl (fun r3 M2 => ?_)
  refine J_aload_n C dX9_image_11 rfl 0 rfl ?_
  refine J_geti C fk9_12 W4_189 h0 dX9_image_12 ?_
  exact J_iret C RT rfl dX9_image_15
theorem c9_image (l : Launch) (w : WE) (n : Nat) (o0 : Nat) (h0 : typ o0 = 9) (M : Mem) : MC l w yX9_image (wz yX9_image cX9_image 1 (some .int)) rm9_image [.ref (wa w o0)] (s9_image n o0 M) M :=
  mc_of_J (own := RX9) rfl (by decide) rfl rfl (Nat.le_of_ble_eq_true rfl) (fun _ _ C RT => b9_image C RT n o0 h0 M)
theorem hdX9_image : yX9_image.cls = RX9 ∧ yOK yX9_image 0 := ⟨rfl, by decide, by decide, by decide⟩
abbrev rm9_restore : Room := { frames := 2, cells := 0, slots := 0, locals := 44 }
def s9_restore (n : Nat) (o0 : Nat) (M : Mem) : Option Res := if (M o0 30) = 0 then (cb (s9_no o0 (-3 : Int32) M) (fun r4 M3 => some (r4, M3))) else (cb (s9_passesAll n o0 (0 : Int32) (0 : Int32) M) (fun _ M1 => some (M1 o0 12, M1)))
set_option maxRecDepth 100000 in
set_option maxHeartbeats 4000000 in
theorem b9_restore {w : WE} {g : GT} (C : CT w g RX9 cX9_restore rm9_restore 1) (RT : RTi w g cX9_restore .int) (n : Nat) (o0 : Nat) (h0 : typ o0 = 9) (M : Mem) : J w g (s9_restore n o0 M) M 0 [(0, .ref (wa w o0))] [] := by
  rw [s9_restore]
  refine J_aload_n C dX9_restore_0 rfl 0 rfl ?_
  refine J_geti C fk9_30 W4_207 h0 dX9_restore_1 ?_
  refine J_if_ne (tgt := 14) C dX9_restore_4 (by decide) (fun _ => ?_) (fun _ => ?_)
  · refine J_aload_n C dX9_restore_14 rfl 0 rfl ?_
    refine J_iconst C dX9_restore_15 kci_0 ?_
    refine J_iconst C dX9_restore_16 kci_0 ?_
    refine J_cvv (As := [.int (0 : Int32), .int (0 : Int32)]) C (c9_passesAll (gl g) w n o0 h0 (0 : Int32) (0 : Int32) M) (gd_v W5_173 W5_175 WP_38 W1_10 W5_176) rfl (by decide) (hdX9_passesAll) h0 (by decide) (cl_9) rfl (Nat.le_of_ble_eq_true rfl) dX9_restore_17 rfl (fun r2 M1 => ?_)
    refine J_aload_n C dX9_restore_20 rfl 0 rfl ?_
    refine J_geti C fk9_12 W4_189 h0 dX9_restore_21 ?_
    exact J_iret C RT rfl dX9_restore_24
  · refine J_aload_n C dX9_restore_7 rfl 0 rfl ?_
    refine J_bipush C dX9_restore_8 kcb_m3 ?_
    refine J_cvi (As := [.int (-3 : Int32)]) C (c9_no (gl g) w o0 h0 (-3 : Int32) M) (gd_v W5_78 W5_80 WP_26 W1_10 W5_81) rfl (by decide) (hdX9_no) h0 (by decide) (cl_9) rfl (Nat.le_of_ble_eq_true rfl) dX9_restore_10 rfl (fun r4 M3 => ?_)
    exact J_iret C RT rfl dX9_restore_13
theorem c9_restore (l : Launch) (w : WE) (n : Nat) (o0 : Nat) (h0 : typ o0 = 9) (M : Mem) : MC l w yX9_restore (wz yX9_restore cX9_restore 1 (some .int)) rm9_restore [.ref (wa w o0)] (s9_restore n o0 M) M :=
  mc_of_J (own := RX9) rfl (by decide) rfl rfl (Nat.le_of_ble_eq_true rfl) (fun _ _ C RT => b9_restore C RT n o0 h0 M)
theorem hdX9_restore : yX9_restore.cls = RX9 ∧ yOK yX9_restore 0 := ⟨rfl, by decide, by decide, by decide⟩
abbrev rm9_count : Room := { frames := 1, cells := 0, slots := 0, locals := 22 }
def s9_count (n : Nat) (o0 : Nat) (x1 : Int32) (M : Mem) : Option Res := cb (s9_isIn x1 (11 : Int32) (16 : Int32) M) (fun r2 M1 => if r2 = 0 then (if x1 = 0 then (some (M1 o0 11, M1)) else (if x1 = 1 then (cb (s9_chairs n o0 M1) (fun r4 M3 => some (r4, M3))) else (if x1 = 2 then (some (M1 o0 12, M1)) else (if x1 = 3 then (cb (s9_ins n o0 M1) (fun r6 M5 => some (r6, M5))) else (if x1 = 4 then (some (M1 o0 17, M1)) else (if x1 = 5 then (some (M1 o0 18, M1)) else (if x1 = 6 then (some (M1 o0 42, M1)) else (if x1 = 7 then (some (M1 o0 43, M1)) else (if x1 = 8 then (some (M1 o0 26, M1)) else (some ((-9 : Int32), M1))))))))))) else (if inB (x1 - (10 : Int32)) (alen (link o0 0)) then some (M1 (link o0 0) (x1 - (10 : Int32)).toNatClampNeg, M1) else none))
set_option maxRecDepth 100000 in
set_option maxHeartbeats 4000000 in
theorem b9_count {w : WE} {g : GT} (C : CT w g RX9 cX9_count rm9_count 2) (RT : RTi w g cX9_count .int) (n : Nat) (o0 : Nat) (h0 : typ o0 = 9) (x1 : Int32) (M : Mem) : J w g (s9_count n o0 x1 M) M 0 [(0, .ref (wa w o0)), (1, .int x1)] [] := by
  rw [s9_count]
  refine J_iload_n C dX9_count_0 rfl 1 rfl ?_
  refine J_bipush C dX9_count_1 kcb_11 ?_
  refine J_bipush C dX9_count_3 kcb_16 ?_
  refine J_csi (As := [.int x1, .int (11 : Int32), .int (16 : Int32)]) (dm := 0) C (c9_isIn (gl g) w x1 (11 : Int32) (16 : Int32) M) (gd_s W5_94 W5_95 W1_10 W5_96) rfl (by decide) (hdX9_isIn.2) rfl (Nat.le_of_ble_eq_true rfl) dX9_count_5 rfl (fun r2 M1 => ?_)
  refine J_if_eq (tgt := 21) C dX9_count_8 (by decide) (fun _ => ?_) (fun _ => ?_)
  · refine J_iload_n C dX9_count_21 rfl 1 rfl ?_
    refine J_ite (fun hc0 => ?_) (fun hc0 => ?_)
    · refine J_tsin (tgt := 72) C dX9_count_22 (by rw [hc0]; decide) (by rw [hc0]; decide) (off := 50) (by rw [hc0]; rfl) (by decide) ?_
      refine J_aload_n C dX9_count_72 rfl 0 rfl ?_
      refine J_geti C fk9_11 W4_188 h0 dX9_count_73 ?_
      exact J_iret C RT rfl dX9_count_76
    · refine J_ite (fun hc1 => ?_) (fun hc1 => ?_)
      · refine J_tsin (tgt := 77) C dX9_count_22 (by rw [hc1]; decide) (by rw [hc1]; decide) (off := 55) (by rw [hc1]; rfl) (by decide) ?_
        refine J_aload_n C dX9_count_77 rfl 0 rfl ?_
        refine J_cvi (As := []) C (c9_chairs (gl g) w n o0 h0 M1) (gd_v W5_82 W5_84 WP_27 W1_10 W5_85) rfl (by decide) (hdX9_chairs) h0 (by decide) (cl_9) rfl (Nat.le_of_ble_eq_true rfl) dX9_count_78 rfl (fun r4 M3 => ?_)
        exact J_iret C RT rfl dX9_count_81
      · refine J_ite (fun hc2 => ?_) (fun hc2 => ?_)
        · refine J_tsin (tgt := 82) C dX9_count_22 (by rw [hc2]; decide) (by rw [hc2]; decide) (off := 60) (by rw [hc2]; rfl) (by decide) ?_
          refine J_aload_n C dX9_count_82 rfl 0 rfl ?_
          refine J_geti C fk9_12 W4_189 h0 dX9_count_83 ?_
          exact J_iret C RT rfl dX9_count_86
        · refine J_ite (fun hc3 => ?_) (fun hc3 => ?_)
          · refine J_tsin (tgt := 87) C dX9_count_22 (by rw [hc3]; decide) (by rw [hc3]; decide) (off := 65) (by rw [hc3]; rfl) (by decide) ?_
            refine J_aload_n C dX9_count_87 rfl 0 rfl ?_
            refine J_cvi (As := []) C (c9_ins (gl g) w n o0 h0 M1) (gd_v W5_197 W5_199 WP_43 W1_10 W5_200) rfl (by decide) (hdX9_ins) h0 (by decide) (cl_9) rfl (Nat.le_of_ble_eq_true rfl) dX9_count_88 rfl (fun r6 M5 => ?_)
            exact J_iret C RT rfl dX9_count_91
          · refine J_ite (fun hc4 => ?_) (fun hc4 => ?_)
            · refine J_tsin (tgt := 92) C dX9_count_22 (by rw [hc4]; decide) (by rw [hc4]; decide) (off := 70) (by rw [hc4]; rfl) (by decide) ?_
              refine J_aload_n C dX9_count_92 rfl 0 rfl ?_
              refine J_geti C fk9_17 W4_194 h0 dX9_count_93 ?_
              exact J_iret C RT rfl dX9_count_96
            · refine J_ite (fun hc5 => ?_) (fun hc5 => ?_)
              · refine J_tsin (tgt := 97) C dX9_count_22 (by rw [hc5]; decide) (by rw [hc5]; decide) (off := 75) (by rw [hc5]; rfl) (by decide) ?_
                refine J_aload_n C dX9_count_97 rfl 0 rfl ?_
                refine J_geti C fk9_18 W4_195 h0 dX9_count_98 ?_
                exact J_iret C RT rfl dX9_count_101
              · refine J_ite (fun hc6 => ?_) (fun hc6 => ?_)
                · refine J_tsin (tgt := 102) C dX9_count_22 (by rw [hc6]; decide) (by rw [hc6]; decide) (off := 80) (by rw [hc6]; rfl) (by decide) ?_
                  refine J_aload_n C dX9_count_102 rfl 0 rfl ?_
                  refine J_geti C fk9_42 W4_219 h0 dX9_count_103 ?_
                  exact J_iret C RT rfl dX9_count_106
                · refine J_ite (fun hc7 => ?_) (fun hc7 => ?_)
                  · refine J_tsin (tgt := 107) C dX9_count_22 (by rw [hc7]; decide) (by rw [hc7]; decide) (off := 85) (by rw [hc7]; rfl) (by decide) ?_
                    refine J_aload_n C dX9_count_107 rfl 0 rfl ?_
                    refine J_geti C fk9_43 W4_220 h0 dX9_count_108 ?_
                    exact J_iret C RT rfl dX9_count_111
                  · refine J_ite (fun hc8 => ?_) (fun hc8 => ?_)
                    · refine J_tsin (tgt := 112) C dX9_count_22 (by rw [hc8]; decide) (by rw [hc8]; decide) (off := 90) (by rw [hc8]; rfl) (by decide) ?_
                      refine J_aload_n C dX9_count_112 rfl 0 rfl ?_
                      refine J_geti C fk9_26 W4_203 h0 dX9_count_113 ?_
                      exact J_iret C RT rfl dX9_count_116
                    · refine J_tsout (tgt := 117) C dX9_count_22 (by have q0 := lv_neT hc0 (a := 0) rfl; have q1 := lv_neT hc1 (a := 1) rfl; have q2 := lv_neT hc2 (a := 2) rfl; have q3 := lv_neT hc3 (a := 3) rfl; have q4 := lv_neT hc4 (a := 4) rfl; have q5 := lv_neT hc5 (a := 5) rfl; have q6 := lv_neT hc6 (a := 6) rfl; have q7 := lv_neT hc7 (a := 7) rfl; have q8 := lv_neT hc8 (a := 8) rfl; omega) (by decide) ?_
                      refine J_bipush C dX9_count_117 kcb_m9 ?_
                      exact J_iret C RT rfl dX9_count_119
  · refine J_aload_n C dX9_count_11 rfl 0 rfl ?_
    refine J_getr C fk9_0 W4_177 h0 dX9_count_12 ?_
    refine J_iload_n C dX9_count_15 rfl 1 rfl ?_
    refine J_bipush C dX9_count_16 kcb_10 ?_
    refine J_isub C dX9_count_18 ?_
    refine J_aload_ C (tl_9_0 h0) dX9_count_19 ?_
    exact J_iret C RT rfl dX9_count_20
theorem c9_count (l : Launch) (w : WE) (n : Nat) (o0 : Nat) (h0 : typ o0 = 9) (x1 : Int32) (M : Mem) : MC l w yX9_count (wz yX9_count cX9_count 2 (some .int)) rm9_count [.ref (wa w o0), .int x1] (s9_count n o0 x1 M) M :=
  mc_of_J (own := RX9) rfl (by decide) rfl rfl (Nat.le_of_ble_eq_true rfl) (fun _ _ C RT => b9_count C RT n o0 h0 x1 M)
theorem hdX9_count : yX9_count.cls = RX9 ∧ yOK yX9_count 1 := ⟨rfl, by decide, by decide, by decide⟩
