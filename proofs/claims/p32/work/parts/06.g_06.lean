abbrev rm0_formOfMostWinners : Room := { frames := 5, cells := 0, slots := 0, locals := 114 }
def s0_formOfMostWinners_128 (n : Nat) (k11 : Int32 → Int32 → Int32 → Int32 → Mem → Option Res) (o0 : Nat) (x1 : Int32) (x2 : Int32) (x6 : Int32) (x8 : Int32) (x9 : Int32) (M : Mem) : Option Res := ilet (x6 + 1) (fun v3 => k11 x6 x9 x8 v3 M)
set_option maxRecDepth 100000 in
set_option maxHeartbeats 4000000 in
theorem b0_formOfMostWinners_128 {w : WE} {g : GT} (C : CT w g RX0 cX0_formOfMostWinners rm0_formOfMostWinners 10) (RT : RTi w g cX0_formOfMostWinners .int) (n : Nat) (k11 : Int32 → Int32 → Int32 → Int32 → Mem → Option Res) (o0 : Nat) (h0 : typ o0 = 0) (x1 : Int32) (x2 : Int32) (x6 : Int32) (x8 : Int32) (x9 : Int32) (hk11 : ∀ (z3 : Int32) (z4 : Int32) (z5 : Int32) (z6 : Int32) (M : Mem), J w g (k11 z3 z4 z5 z6 M) M 11 [(0, .ref (wa w o0)), (1, .int x1), (2, .int x2), (3, .int z3), (4, .int z4), (5, .int z5), (6, .int z6)] []) (M : Mem) : J w g (s0_formOfMostWinners_128 n k11 o0 x1 x2 x6 x8 x9 M) M 128 [(0, .ref (wa w o0)), (1, .int x1), (2, .int x2), (6, .int x6), (8, .int x8), (9, .int x9)] [] := by
  rw [s0_formOfMostWinners_128]
  refine J_iload C dX0_formOfMostWinners_128 3 rfl ?_
  refine J_istore_n (lv' := [(3, .int x6), (0, .ref (wa w o0)), (1, .int x1), (2, .int x2), (6, .int x6), (8, .int x8), (9, .int x9)]) C dX0_formOfMostWinners_130 rfl (by decide) rfl ?_
  refine J_iload C dX0_formOfMostWinners_131 6 rfl ?_
  refine J_istore (lv' := [(4, .int x9), (3, .int x6), (0, .ref (wa w o0)), (1, .int x1), (2, .int x2), (6, .int x6), (8, .int x8), (9, .int x9)]) C dX0_formOfMostWinners_133 (by decide) rfl ?_
  refine J_iload C dX0_formOfMostWinners_135 6 rfl ?_
  refine J_istore (lv' := [(5, .int x8), (4, .int x9), (3, .int x6), (0, .ref (wa w o0)), (1, .int x1), (2, .int x2), (6, .int x6), (8, .int x8), (9, .int x9)]) C dX0_formOfMostWinners_137 (by decide) rfl ?_
  refine J_iinc (lw := fun v3 => [(6, .int v3), (5, .int x8), (4, .int x9), (3, .int x6), (0, .ref (wa w o0)), (1, .int x1), (2, .int x2), (8, .int x8), (9, .int x9)]) (X := x6 + 1) C dX0_formOfMostWinners_139 (q := 6) rfl (by rw [kci_1]) (by decide) (fun _ => rfl) (fun v3 => ?_)
  refine J_goto (tgt := 11) C dX0_formOfMostWinners_142 (by decide) ?_
  refine J_lv [4, 5, 6, 3, 2, 1, 0] rfl ?_
  exact hk11 x6 x9 x8 v3 M
def s0_formOfMostWinners_26 (n : Nat) (k11 : Int32 → Int32 → Int32 → Int32 → Mem → Option Res) (o0 : Nat) (x1 : Int32) (x2 : Int32) (x3 : Int32) (x4 : Int32) (x5 : Int32) (x6 : Int32) : Nat → Int32 → Int32 → Int32 → Mem → Option Res
  | 0, _, _, _, _ => none
  | f + 1, x7, x8, x9, M => if x1 ≤ x9 then (cb (sz_bitCount x7 M) (fun r2 M1 => if x4 < r2 then (s0_formOfMostWinners_128 n k11 o0 x1 x2 x6 x8 r2 M1) else (if r2 = x4 then (if x5 ≤ x8 then (ilet (x6 + 1) (fun v5 => k11 x3 x4 x5 v5 M1)) else (s0_formOfMostWinners_128 n k11 o0 x1 x2 x6 x8 r2 M1)) else (ilet (x6 + 1) (fun v4 => k11 x3 x4 x5 v4 M1))))) else (cb (s2_become n (link o0 1) (link o0 0) M) (fun _ M6 => mlet (mset M6 (link o0 1) 6 x6) (fun M8 => mlet (mset M8 (link (link o0 1) 1) 2 (x2 + x9)) (fun M9 => cb (s0_playOut n o0 M9) (fun _ M10 => cb (s2_winner n (link o0 1) M10) (fun r13 M12 => cb (s0_bitOf r13 M12) (fun r15 M14 => ilet (x7 ||| r15) (fun v16 => ilet (x8 + (M14 o0 3)) (fun v17 => ilet (x9 + 1) (fun v18 => s0_formOfMostWinners_26 n k11 o0 x1 x2 x3 x4 x5 x6 f v16 v17 v18 M14))))))))))
set_option maxRecDepth 100000 in
set_option maxHeartbeats 4000000 in
theorem b0_formOfMostWinners_26 {w : WE} {g : GT} (C : CT w g RX0 cX0_formOfMostWinners rm0_formOfMostWinners 10) (RT : RTi w g cX0_formOfMostWinners .int) (n : Nat) (k11 : Int32 → Int32 → Int32 → Int32 → Mem → Option Res) (o0 : Nat) (h0 : typ o0 = 0) (x1 : Int32) (x2 : Int32) (x3 : Int32) (x4 : Int32) (x5 : Int32) (x6 : Int32) (hk11 : ∀ (z3 : Int32) (z4 : Int32) (z5 : Int32) (z6 : Int32) (M : Mem), J w g (k11 z3 z4 z5 z6 M) M 11 [(0, .ref (wa w o0)), (1, .int x1), (2, .int x2), (3, .int z3), (4, .int z4), (5, .int z5), (6, .int z6)] []) : ∀ (f : Nat) (x7 : Int32) (x8 : Int32) (x9 : Int32) (M : Mem), J w g (s0_formOfMostWinners_26 n k11 o0 x1 x2 x3 x4 x5 x6 f x7 x8 x9 M) M 26 [(0, .ref (wa w o0)), (1, .int x1), (2, .int x2), (3, .int x3), (4, .int x4), (5, .int x5), (6, .int x6), (7, .int x7), (8, .int x8), (9, .int x9)] [] := by
  intro f
  induction f with
  | zero =>
    intro x7 x8 x9 M
    rw [s0_formOfMostWinners_26]
    exact J_none
  | succ f ih =>
    intro x7 x8 x9 M
    rw [s0_formOfMostWinners_26]
    refine J_iload C dX0_formOfMostWinners_26 9 rfl ?_
    refine J_iload_n C dX0_formOfMostWinners_28 rfl 1 rfl ?_
    refine J_icmp_ge (tgt := 100) C dX0_formOfMostWinners_29 (by decide) (fun _ => ?_) (fun _ => ?_)
    · refine J_iload C dX0_formOfMostWinners_100 7 rfl ?_
      refine J_csi (As := [.int x7]) (dm := 0) C (cz_bitCount (gl g) w x7 M) (gd_s W4_78 W4_79 W1_17 W4_80) rfl (by decide) (hdJ6_bitCount_0f7a4.2) rfl (Nat.le_of_ble_eq_true rfl) dX0_formOfMostWinners_102 rfl (fun r2 M1 => ?_)
      refine J_istore (lv' := [(9, .int r2), (0, .ref (wa w o0)), (1, .int x1), (2, .int x2), (3, .int x3), (4, .int x4), (5, .int x5), (6, .int x6), (7, .int x7), (8, .int x8)]) C dX0_formOfMostWinners_105 (by decide) rfl ?_
      refine J_iload C dX0_formOfMostWinners_107 0 rfl ?_
      refine J_iload C dX0_formOfMostWinners_109 5 rfl ?_
      refine J_icmp_gt (tgt := 128) C dX0_formOfMostWinners_111 (by decide) (fun _ => ?_) (fun _ => ?_)
      · refine J_lv [1, 2, 3, 7, 9, 0] rfl ?_
        exact b0_formOfMostWinners_128 C RT n k11 o0 h0 x1 x2 x6 x8 r2 hk11 M1
      · refine J_iload C dX0_formOfMostWinners_114 0 rfl ?_
        refine J_iload C dX0_formOfMostWinners_116 5 rfl ?_
        refine J_icmp_ne (tgt := 139) C dX0_formOfMostWinners_118 (by decide) (fun _ => ?_) (fun _ => ?_)
        · refine J_iinc (lw := fun v4 => [(6, .int v4), (9, .int r2), (0, .ref (wa w o0)), (1, .int x1), (2, .int x2), (3, .int x3), (4, .int x4), (5, .int x5), (7, .int x7), (8, .int x8)]) (X := x6 + 1) C dX0_formOfMostWinners_139 (q := 7) rfl (by rw [kci_1]) (by decide) (fun _ => rfl) (fun v4 => ?_)
          refine J_goto (tgt := 11) C dX0_formOfMostWinners_142 (by decide) ?_
          refine J_lv [2, 3, 4, 5, 6, 7, 0] rfl ?_
          exact hk11 x3 x4 x5 v4 M1
        · refine J_iload C dX0_formOfMostWinners_121 9 rfl ?_
          refine J_iload C dX0_formOfMostWinners_123 6 rfl ?_
          refine J_icmp_ge (tgt := 139) C dX0_formOfMostWinners_125 (by decide) (fun _ => ?_) (fun _ => ?_)
          · refine J_iinc (lw := fun v5 => [(6, .int v5), (9, .int r2), (0, .ref (wa w o0)), (1, .int x1), (2, .int x2), (3, .int x3), (4, .int x4), (5, .int x5), (7, .int x7), (8, .int x8)]) (X := x6 + 1) C dX0_formOfMostWinners_139 (q := 7) rfl (by rw [kci_1]) (by decide) (fun _ => rfl) (fun v5 => ?_)
            refine J_goto (tgt := 11) C dX0_formOfMostWinners_142 (by decide) ?_
            refine J_lv [2, 3, 4, 5, 6, 7, 0] rfl ?_
            exact hk11 x3 x4 x5 v5 M1
          · refine J_lv [1, 2, 3, 7, 9, 0] rfl ?_
            exact b0_formOfMostWinners_128 C RT n k11 o0 h0 x1 x2 x6 x8 r2 hk11 M1
    · refine J_aload_n C dX0_formOfMostWinners_32 rfl 0 rfl ?_
      refine J_getr C fk0_1 W1_217 h0 dX0_formOfMostWinners_33 ?_
      refine J_aload_n C dX0_formOfMostWinners_36 rfl 0 rfl ?_
      refine J_getr C fk0_0 W1_215 h0 dX0_formOfMostWinners_37 ?_
      refine J_cvv (As := [.ref (wa w (link o0 0))]) C (c2_become (gl g) w n (link o0 1) (tl_0_1 h0) (link o0 0) (tl_0_0 h0) M) (gd_v W2_170 W2_171 W2_172 W1_3 W2_173) rfl (by decide) (hdX2_become) (tl_0_1 h0) (by decide) (cl_2) rfl (Nat.le_of_ble_eq_true rfl) dX0_formOfMostWinners_40 rfl (fun r7 M6 => ?_)
      refine J_aload_n C dX0_formOfMostWinners_43 rfl 0 rfl ?_
      refine J_getr C fk0_1 W1_217 h0 dX0_formOfMostWinners_44 ?_
      refine J_iload C dX0_formOfMostWinners_47 6 rfl ?_
      refine J_puti C fk2_6 W1_185 fp2_6 (tl_0_1 h0) dX0_formOfMostWinners_49 ?_
      refine J_mlet (fun M8 => ?_)
      refine J_aload_n C dX0_formOfMostWinners_52 rfl 0 rfl ?_
      refine J_getr C fk0_1 W1_217 h0 dX0_formOfMostWinners_53 ?_
      refine J_getr C fk2_1 W1_169 (tl_0_1 h0) dX0_formOfMostWinners_56 ?_
      refine J_iload_n C dX0_formOfMostWinners_59 rfl 2 rfl ?_
      refine J_iload C dX0_formOfMostWinners_60 9 rfl ?_
      refine J_iadd C dX0_formOfMostWinners_62 ?_
      refine J_puti C fk3_2 W1_82 fp3_2 (tl_2_1 (tl_0_1 h0)) dX0_formOfMostWinners_63 ?_
      refine J_mlet (fun M9 => ?_)
      refine J_aload_n C dX0_formOfMostWinners_66 rfl 0 rfl ?_
      refine J_cvv (As := []) C (c0_playOut (gl g) w n o0 h0 M9) (gd_v W4_45 W4_47 WP_22 W1_2 W4_48) rfl (by decide) (hdX0_playOut) h0 (by decide) (cl_0) rfl (Nat.le_of_ble_eq_true rfl) dX0_formOfMostWinners_67 rfl (fun r11 M10 => ?_)
      refine J_iload C dX0_formOfMostWinners_70 7 rfl ?_
      refine J_aload_n C dX0_formOfMostWinners_72 rfl 0 rfl ?_
      refine J_getr C fk0_1 W1_217 h0 dX0_formOfMostWinners_73 ?_
      refine J_cvi (As := []) C (c2_winner (gl g) w n (link o0 1) (tl_0_1 h0) M10) (gd_v W4_51 W4_52 W4_53 W1_3 W4_54) rfl (by decide) (hdX2_winner) (tl_0_1 h0) (by decide) (cl_2) rfl (Nat.le_of_ble_eq_true rfl) dX0_formOfMostWinners_76 rfl (fun r13 M12 => ?_)
      refine J_csi (As := [.int r13]) (dm := 0) C (c0_bitOf (gl g) w r13 M12) (gd_s W4_75 W4_76 W1_2 W4_77) rfl (by decide) (hdX0_bitOf.2) rfl (Nat.le_of_ble_eq_true rfl) dX0_formOfMostWinners_79 rfl (fun r15 M14 => ?_)
      refine J_ior C dX0_formOfMostWinners_82 ?_
      refine J_ilet (fun v16 => ?_)
      refine J_istore (lv' := [(7, .int v16), (0, .ref (wa w o0)), (1, .int x1), (2, .int x2), (3, .int x3), (4, .int x4), (5, .int x5), (6, .int x6), (8, .int x8), (9, .int x9)]) C dX0_formOfMostWinners_83 (by decide) rfl ?_
      refine J_iload C dX0_formOfMostWinners_85 8 rfl ?_
      refine J_aload_n C dX0_formOfMostWinners_87 rfl 1 rfl ?_
      refine J_geti C fk0_3 W1_219 h0 dX0_formOfMostWinners_88 ?_
      refine J_iadd C dX0_formOfMostWinners_91 ?_
      refine J_ilet (fun v17 => ?_)
      refine J_istore (lv' := [(8, .int v17), (7, .int v16), (0, .ref (wa w o0)), (1, .int x1), (2, .int x2), (3, .int x3), (4, .int x4), (5, .int x5), (6, .int x6), (9, .int x9)]) C dX0_formOfMostWinners_92 (by decide) rfl ?_
      refine J_iinc (lw := fun v18 => [(9, .int v18), (8, .int v17), (7, .int v16), (0, .ref (wa w o0)), (1, .int x1), (2, .int x2), (3, .int x3), (4, .int x4), (5, .int x5), (6, .int x6)]) (X := x9 + 1) C dX0_formOfMostWinners_94 (q := 9) rfl (by rw [kci_1]) (by decide) (fun _ => rfl) (fun v18 => ?_)
      refine J_goto (tgt := 26) C dX0_formOfMostWinners_97 (by decide) ?_
      refine J_lv [3, 4, 5, 6, 7, 8, 9, 2, 1, 0] rfl ?_
      exact ih v16 v17 v18 M14
def s0_formOfMostWinners_11 (n : Nat) (o0 : Nat) (x1 : Int32) (x2 : Int32) : Nat → Int32 → Int32 → Int32 → Int32 → Mem → Option Res
  | 0, _, _, _, _, _ => none
  | f + 1, x3, x4, x5, x6, M => if (3 : Int32) ≤ x6 then (some (x3, M)) else (s0_formOfMostWinners_26 n (s0_formOfMostWinners_11 n o0 x1 x2 f) o0 x1 x2 x3 x4 x5 x6 n (0 : Int32) (0 : Int32) (0 : Int32) M)
set_option maxRecDepth 100000 in
set_option maxHeartbeats 4000000 in
theorem b0_formOfMostWinners_11 {w : WE} {g : GT} (C : CT w g RX0 cX0_formOfMostWinners rm0_formOfMostWinners 10) (RT : RTi w g cX0_formOfMostWinners .int) (n : Nat) (o0 : Nat) (h0 : typ o0 = 0) (x1 : Int32) (x2 : Int32) : ∀ (f : Nat) (x3 : Int32) (x4 : Int32) (x5 : Int32) (x6 : Int32) (M : Mem), J w g (s0_formOfMostWinners_11 n o0 x1 x2 f x3 x4 x5 x6 M) M 11 [(0, .ref (wa w o0)), (1, .int x1), (2, .int x2), (3, .int x3), (4, .int x4), (5, .int x5), (6, .int x6)] [] := by
  intro f
  induction f with
  | zero =>
    intro x3 x4 x5 x6 M
    rw [s0_formOfMostWinners_11]
    exact J_none
  | succ f ih =>
    intro x3 x4 x5 x6 M
    rw [s0_formOfMostWinners_11]
    refine J_iload C dX0_formOfMostWinners_11 6 rfl ?_
    refine J_iconst C dX0_formOfMostWinners_13 kci_3 ?_
    refine J_icmp_ge (tgt := 145) C dX0_formOfMostWinners_14 (by decide) (fun _ => ?_) (fun _ => ?_)
    · refine J_iload_n C dX0_formOfMostWinners_145 rfl 3 rfl ?_
      exact J_iret C RT rfl dX0_formOfMostWinners_146
    · refine J_iconst C dX0_formOfMostWinners_17 kci_0 ?_
      refine J_istore (lv' := [(7, .int (0 : Int32)), (0, .ref (wa w o0)), (1, .int x1), (2, .int x2), (3, .int x3), (4, .int x4), (5, .int x5), (6, .int x6)]) C dX0_formOfMostWinners_18 (by decide) rfl ?_
      refine J_iconst C dX0_formOfMostWinners_20 kci_0 ?_
      refine J_istore (lv' := [(8, .int (0 : Int32)), (7, .int (0 : Int32)), (0, .ref (wa w o0)), (1, .int x1), (2, .int x2), (3, .int x3), (4, .int x4), (5, .int x5), (6, .int x6)]) C dX0_formOfMostWinners_21 (by decide) rfl ?_
      refine J_iconst C dX0_formOfMostWinners_23 kci_0 ?_
      refine J_istore (lv' := [(9, .int (0 : Int32)), (8, .int (0 : Int32)), (7, .int (0 : Int32)), (0, .ref (wa w o0)), (1, .int x1), (2, .int x2), (3, .int x3), (4, .int x4), (5, .int x5), (6, .int x6)]) C dX0_formOfMostWinners_24 (by decide) rfl ?_
      refine J_lv [3, 4, 5, 6, 7, 8, 9, 2, 1, 0] rfl ?_
      exact b0_formOfMostWinners_26 C RT n (s0_formOfMostWinners_11 n o0 x1 x2 f) o0 h0 x1 x2 x3 x4 x5 x6 ih n (0 : Int32) (0 : Int32) (0 : Int32) M
def s0_formOfMostWinners (n : Nat) (o0 : Nat) (x1 : Int32) (x2 : Int32) (M : Mem) : Option Res := s0_formOfMostWinners_11 n o0 x1 x2 n (0 : Int32) (-1 : Int32) (0 : Int32) (0 : Int32) M
set_option maxRecDepth 100000 in
set_option maxHeartbeats 4000000 in
theorem b0_formOfMostWinners {w : WE} {g : GT} (C : CT w g RX0 cX0_formOfMostWinners rm0_formOfMostWinners 10) (RT : RTi w g cX0_formOfMostWinners .int) (n : Nat) (o0 : Nat) (h0 : typ o0 = 0) (x1 : Int32) (x2 : Int32) (M : Mem) : J w g (s0_formOfMostWinners n o0 x1 x2 M) M 0 [(0, .ref (wa w o0)), (1, .int x1), (2, .int x2)] [] := by
  rw [s0_formOfMostWinners]
  refine J_iconst C dX0_formOfMostWinners_0 kci_0 ?_
  refine J_istore_n (lv' := [(3, .int (0 : Int32)), (0, .ref (wa w o0)), (1, .int x1), (2, .int x2)]) C dX0_formOfMostWinners_1 rfl (by decide) rfl ?_
  refine J_iconst C dX0_formOfMostWinners_2 kci_m1 ?_
  refine J_istore (lv' := [(4, .int (-1 : Int32)), (3, .int (0 : Int32)), (0, .ref (wa w o0)), (1, .int x1), (2, .int x2)]) C dX0_formOfMostWinners_3 (by decide) rfl ?_
  refine J_iconst C dX0_formOfMostWinners_5 kci_0 ?_
  refine J_istore (lv' := [(5, .int (0 : Int32)), (4, .int (-1 : Int32)), (3, .int (0 : Int32)), (0, .ref (wa w o0)), (1, .int x1), (2, .int x2)]) C dX0_formOfMostWinners_6 (by decide) rfl ?_
  refine J_iconst C dX0_formOfMostWinners_8 kci_0 ?_
  refine J_istore (lv' := [(6, .int (0 : Int32)), (5, .int (0 : Int32)), (4, .int (-1 : Int32)), (3, .int (0 : Int32)), (0, .ref (wa w o0)), (1, .int x1), (2, .int x2)]) C dX0_formOfMostWinners_9 (by decide) rfl ?_
  refine J_lv [4, 5, 6, 3, 2, 1, 0] rfl ?_
  exact b0_formOfMostWinners_11 C RT n o0 h0 x1 x2 n (0 : Int32) (-1 : Int32) (0 : Int32) (0 : Int32) M
theorem c0_formOfMostWinners (l : Launch) (w : WE) (n : Nat) (o0 : Nat) (h0 : typ o0 = 0) (x1 : Int32) (x2 : Int32) (M : Mem) : MC l w yX0_formOfMostWinners (wz yX0_formOfMostWinners cX0_formOfMostWinners 10 (some .int)) rm0_formOfMostWinners [.ref (wa w o0), .int x1, .int x2] (s0_formOfMostWinners n o0 x1 x2 M) M :=
  mc_of_J (own := RX0) rfl (by decide) rfl rfl (Nat.le_of_ble_eq_true rfl) (fun _ _ C RT => b0_formOfMostWinners C RT n o0 h0 x1 x2 M)
theorem hdX0_formOfMostWinners : yX0_formOfMostWinners.cls = RX0 ∧ yOK yX0_formOfMostWinners 2 := ⟨rfl, by decide, by decide, by decide⟩
abbrev rm0_kindOfFewestTenths : Room := { frames := 5, cells := 0, slots := 0, locals := 114 }
def s0_kindOfFewestTenths_7 (n : Nat) (o0 : Nat) : Nat → Int32 → Int32 → Int32 → Mem → Option Res
  | 0, _, _, _, _ => none
  | f + 1, x1, x2, x3, M => if (5 : Int32) ≤ x3 then (some (x1, M)) else (cb (s2_become n (link o0 1) (link o0 0) M) (fun _ M1 => mlet (mset M1 (link (link o0 1) 1) 0 x3) (fun M3 => cb (s0_playOut n o0 M3) (fun _ M4 => if x2 ≤ (M4 o0 3) then (ilet (x3 + 1) (fun v6 => s0_kindOfFewestTenths_7 n o0 f x1 x2 v6 M4)) else (ilet (M4 o0 3) (fun v7 => ilet (x3 + 1) (fun v8 => s0_kindOfFewestTenths_7 n o0 f x3 v7 v8 M4)))))))
set_option maxRecDepth 100000 in
set_option maxHeartbeats 4000000 in
theorem b0_kindOfFewestTenths_7 {w : WE} {g : GT} (C : CT w g RX0 cX0_kindOfFewestTenths rm0_kindOfFewestTenths 4) (RT : RTi w g cX0_kindOfFewestTenths .int) (n : Nat) (o0 : Nat) (h0 : typ o0 = 0) : ∀ (f : Nat) (x1 : Int32) (x2 : Int32) (x3 : Int32) (M : Mem), J w g (s0_kindOfFewestTenths_7 n o0 f x1 x2 x3 M) M 7 [(0, .ref (wa w o0)), (1, .int x1), (2, .int x2), (3, .int x3)] [] := by
  intro f
  induction f with
  | zero =>
    intro x1 x2 x3 M
    rw [s0_kindOfFewestTenths_7]
    exact J_none
  | succ f ih =>
    intro x1 x2 x3 M
    rw [s0_kindOfFewestTenths_7]
    refine J_iload_n C dX0_kindOfFewestTenths_7 rfl 3 rfl ?_
    refine J_iconst C dX0_kindOfFewestTenths_8 kci_5 ?_
    refine J_icmp_ge (tgt := 59) C dX0_kindOfFewestTenths_9 (by decide) (fun _ => ?_) (fun _ => ?_)
    · refine J_iload_n C dX0_kindOfFewestTenths_59 rfl 1 rfl ?_
      exact J_iret C RT rfl dX0_kindOfFewestTenths_60
    · refine J_aload_n C dX0_kindOfFewestTenths_12 rfl 0 rfl ?_
      refine J_getr C fk0_1 W1_217 h0 dX0_kindOfFewestTenths_13 ?_
      refine J_aload_n C dX0_kindOfFewestTenths_16 rfl 0 rfl ?_
      refine J_getr C fk0_0 W1_215 h0 dX0_kindOfFewestTenths_17 ?_
      refine J_cvv (As := [.ref (wa w (link o0 0))]) C (c2_become (gl g) w n (link o0 1) (tl_0_1 h0) (link o0 0) (tl_0_0 h0) M) (gd_v W2_170 W2_171 W2_172 W1_3 W2_173) rfl (by decide) (hdX2_become) (tl_0_1 h0) (by decide) (cl_2) rfl (Nat.le_of_ble_eq_true rfl) dX0_kindOfFewestTenths_20 rfl (fun r2 M1 => ?_)
      refine J_aload_n C dX0_kindOfFewestTenths_23 rfl 0 rfl ?_
      refine J_getr C fk0_1 W1_217 h0 dX0_kindOfFewestTenths_24 ?_
      refine J_getr C fk2_1 W1_169 (tl_0_1 h0) dX0_kindOfFewestTenths_27 ?_
      refine J_iload_n C dX0_kindOfFewestTenths_30 rfl 3 rfl ?_
      refine J_puti C fk3_0 W1_74 fp3_0 (tl_2_1 (tl_0_1 h0)) dX0_kindOfFewestTenths_31 ?_
      refine J_mlet (fun M3 => ?_)
      refine J_aload_n C dX0_kindOfFewestTenths_34 rfl 0 rfl ?_
      refine J_cvv (As := []) C (c0_playOut (gl g) w n o0 h0 M3) (gd_v W4_45 W4_47 WP_22 W1_2 W4_48) rfl (by decide) (hdX0_playOut) h0 (by decide) (cl_0) rfl (Nat.le_of_ble_eq_true rfl) dX0_kindOfFewestTenths_35 rfl (fun r5 M4 => ?_)
      refine J_aload_n C dX0_kindOfFewestTenths_38 rfl 0 rfl ?_
      refine J_geti C fk0_3 W1_219 h0 dX0_kindOfFewestTenths_39 ?_
      refine J_iload_n C dX0_kindOfFewestTenths_42 rfl 2 rfl ?_
      refine J_icmp_ge (tgt := 53) C dX0_kindOfFewestTenths_43 (by decide) (fun _ => ?_) (fun _ => ?_)
      · refine J_iinc (lw := fun v6 => [(3, .int v6), (0, .ref (wa w o0)), (1, .int x1), (2, .int x2)]) (X := x3 + 1) C dX0_kindOfFewestTenths_53 (q := 3) rfl (by rw [kci_1]) (by decide) (fun _ => rfl) (fun v6 => ?_)
        refine J_goto (tgt := 7) C dX0_kindOfFewestTenths_56 (by decide) ?_
        refine J_lv [1, 2, 3, 0] rfl ?_
        exact ih x1 x2 v6 M4
      · refine J_aload_n C dX0_kindOfFewestTenths_46 rfl 0 rfl ?_
        refine J_geti C fk0_3 W1_219 h0 dX0_kindOfFewestTenths_47 ?_
        refine J_ilet (fun v7 => ?_)
        refine J_istore_n (lv' := [(2, .int v7), (0, .ref (wa w o0)), (1, .int x1), (3, .int x3)]) C dX0_kindOfFewestTenths_50 rfl (by decide) rfl ?_
        refine J_iload_n C dX0_kindOfFewestTenths_51 rfl 3 rfl ?_
        refine J_istore_n (lv' := [(1, .int x3), (2, .int v7), (0, .ref (wa w o0)), (3, .int x3)]) C dX0_kindOfFewestTenths_52 rfl (by decide) rfl ?_
        refine J_iinc (lw := fun v8 => [(3, .int v8), (1, .int x3), (2, .int v7), (0, .ref (wa w o0))]) (X := x3 + 1) C dX0_kindOfFewestTenths_53 (q := 3) rfl (by rw [kci_1]) (by decide) (fun _ => rfl) (fun v8 => ?_)
        refine J_goto (tgt := 7) C dX0_kindOfFewestTenths_56 (by decide) ?_
        refine J_lv [3, 1, 2, 0] rfl ?_
        exact ih x3 v7 v8 M4
def s0_kindOfFewestTenths (n : Nat) (o0 : Nat) (M : Mem) : Option Res := s0_kindOfFewestTenths_7 n o0 n (0 : Int32) (2147483647 : Int32) (0 : Int32) M
set_option maxRecDepth 100000 in
set_option maxHeartbeats 4000000 in
theorem b0_kindOfFewestTenths {w : WE} {g : GT} (C : CT w g RX0 cX0_kindOfFewestTenths rm0_kindOfFewestTenths 4) (RT : RTi w g cX0_kindOfFewestTenths .int) (n : Nat) (o0 : Nat) (h0 : typ o0 = 0) (M : Mem) : J w g (s0_kindOfFewestTenths n o0 M) M 0 [(0, .ref (wa w o0))] [] := by
  rw [s0_kindOfFewestTenths]
  refine J_iconst C dX0_kindOfFewestTenths_0 kci_0 ?_
  refine J_istore_n (lv' := [(1, .int (0 : Int32)), (0, .ref (wa w o0))]) C dX0_kindOfFewestTenths_1 rfl (by decide) rfl ?_
  refine J_ldc C W4_92 dX0_kindOfFewestTenths_2 ?_
  refine J_istore_n (lv' := [(2, .int (2147483647 : Int32)), (1, .int (0 : Int32)), (0, .ref (wa w o0))]) C dX0_kindOfFewestTenths_4 rfl (by decide) rfl ?_
  refine J_iconst C dX0_kindOfFewestTenths_5 kci_0 ?_
  refine J_istore_n (lv' := [(3, .int (0 : Int32)), (2, .int (2147483647 : Int32)), (1, .int (0 : Int32)), (0, .ref (wa w o0))]) C dX0_kindOfFewestTenths_6 rfl (by decide) rfl ?_
  refine J_lv [3, 2, 1, 0] rfl ?_
  exact b0_kindOfFewestTenths_7 C RT n o0 h0 n (0 : Int32) (2147483647 : Int32) (0 : Int32) M
theorem c0_kindOfFewestTenths (l : Launch) (w : WE) (n : Nat) (o0 : Nat) (h0 : typ o0 = 0) (M : Mem) : MC l w yX0_kindOfFewestTenths (wz yX0_kindOfFewestTenths cX0_kindOfFewestTenths 4 (some .int)) rm0_kindOfFewestTenths [.ref (wa w o0)] (s0_kindOfFewestTenths n o0 M) M :=
  mc_of_J (own := RX0) rfl (by decide) rfl rfl (Nat.le_of_ble_eq_true rfl) (fun _ _ C RT => b0_kindOfFewestTenths C RT n o0 h0 M)
theorem hdX0_kindOfFewestTenths : yX0_kindOfFewestTenths.cls = RX0 ∧ yOK yX0_kindOfFewestTenths 0 := ⟨rfl, by decide, by decide, by decide⟩
abbrev rm0_teamGain : Room := { frames := 4, cells := 0, slots := 0, locals := 92 }
def s0_teamGain_101 (n : Nat) (k23 : Int32 → Int32 → Int32 → Int32 → Mem → Option Res) (o0 : Nat) (x1 : Int32) (x2 : Int32) (x3 : Int32) (x4 : Int32) (x5 : Int32) (x7 : Int32) (t0 : Int32) (M : Mem) : Option Res := ilet (t0 + (1 : Int32)) (fun v11 => ilet (x7 + 1) (fun v12 => k23 x4 x5 v11 v12 M))
set_option maxRecDepth 100000 in
set_option maxHeartbeats 4000000 in
theorem b0_teamGain_101 {w : WE} {g : GT} (C : CT w g RX0 cX0_teamGain rm0_teamGain 10) (RT : RTi w g cX0_teamGain .int) (n : Nat) (k23 : Int32 → Int32 → Int32 → Int32 → Mem → Option Res) (o0 : Nat) (h0 : typ o0 = 0) (x1 : Int32) (x2 : Int32) (x3 : Int32) (x4 : Int32) (x5 : Int32) (x7 : Int32) (t0 : Int32) (hk23 : ∀ (z4 : Int32) (z5 : Int32) (z6 : Int32) (z7 : Int32) (M : Mem), J w g (k23 z4 z5 z6 z7 M) M 23 [(0, .ref (wa w o0)), (1, .int x1), (2, .int x2), (3, .int x3), (4, .int z4), (5, .int z5), (6, .int z6), (7, .int z7)] []) (M : Mem) : J w g (s0_teamGain_101 n k23 o0 x1 x2 x3 x4 x5 x7 t0 M) M 101 [(0, .ref (wa w o0)), (1, .int x1), (2, .int x2), (3, .int x3), (4, .int x4), (5, .int x5), (7, .int x7)] [.int t0] := by
  rw [s0_teamGain_101]
  refine J_iconst C dX0_teamGain_101 kci_1 ?_
  refine J_goto (tgt := 106) C dX0_teamGain_102 (by decide) ?_
  refine J_iadd C dX0_teamGain_106 ?_
  refine J_ilet (fun v11 => ?_)
  refine J_istore (lv' := [(6, .int v11), (0, .ref (wa w o0)), (1, .int x1), (2, .int x2), (3, .int x3), (4, .int x4), (5, .int x5), (7, .int x7)]) C dX0_teamGain_107 (by decide) rfl ?_
  refine J_iinc (lw := fun v12 => [(7, .int v12), (6, .int v11), (0, .ref (wa w o0)), (1, .int x1), (2, .int x2), (3, .int x3), (4, .int x4), (5, .int x5)]) (X := x7 + 1) C dX0_teamGain_109 (q := 7) rfl (by rw [kci_1]) (by decide) (fun _ => rfl) (fun v12 => ?_)
  refine J_goto (tgt := 23) C dX0_teamGain_112 (by decide) ?_
  refine J_lv [2, 3, 4, 5, 6, 7, 1, 0] rfl ?_
  exact hk23 x4 x5 v11 v12 M
def s0_teamGain_86 (n : Nat) (k23 : Int32 → Int32 → Int32 → Int32 → Mem → Option Res) (o0 : Nat) (x1 : Int32) (x2 : Int32) (x3 : Int32) (x4 : Int32) (x6 : Int32) (x7 : Int32) (x8 : Int32) (x9 : Int32) (t0 : Int32) (t1 : Int32) (M : Mem) : Option Res := ilet (t1 + t0) (fun v10 => if x8 = 0 then (if x9 = 0 then (ilet (x6 + (0 : Int32)) (fun v13 => ilet (x7 + 1) (fun v14 => k23 x4 v10 v13 v14 M))) else (s0_teamGain_101 n k23 o0 x1 x2 x3 x4 v10 x7 x6 M)) else (s0_teamGain_101 n k23 o0 x1 x2 x3 x4 v10 x7 x6 M))
set_option maxRecDepth 100000 in
set_option maxHeartbeats 4000000 in
theorem b0_teamGain_86 {w : WE} {g : GT} (C : CT w g RX0 cX0_teamGain rm0_teamGain 10) (RT : RTi w g cX0_teamGain .int) (n : Nat) (k23 : Int32 → Int32 → Int32 → Int32 → Mem → Option Res) (o0 : Nat) (h0 : typ o0 = 0) (x1 : Int32) (x2 : Int32) (x3 : Int32) (x4 : Int32) (x6 : Int32) (x7 : Int32) (x8 : Int32) (x9 : Int32) (t0 : Int32) (t1 : Int32) (hk23 : ∀ (z4 : Int32) (z5 : Int32) (z6 : Int32) (z7 : Int32) (M : Mem), J w g (k23 z4 z5 z6 z7 M) M 23 [(0, .ref (wa w o0)), (1, .int x1), (2, .int x2), (3, .int x3), (4, .int z4), (5, .int z5), (6, .int z6), (7, .int z7)] []) (M : Mem) : J w g (s0_teamGain_86 n k23 o0 x1 x2 x3 x4 x6 x7 x8 x9 t0 t1 M) M 86 [(0, .ref (wa w o0)), (1, .int x1), (2, .int x2), (3, .int x3), (4, .int x4), (6, .int x6), (7, .int x7), (8, .int x8), (9, .int x9)] [.int t0, .int t1] := by
  rw [s0_teamGain_86]
  refine J_iadd C dX0_teamGain_86 ?_
  refine J_ilet (fun v10 => ?_)
  refine J_istore (lv' := [(5, .int v10), (0, .ref (wa w o0)), (1, .int x1), (2, .int x2), (3, .int x3), (4, .int x4), (6, .int x6), (7, .int x7), (8, .int x8), (9, .int x9)]) C dX0_teamGain_87 (by decide) rfl ?_
  refine J_iload C dX0_teamGain_89 6 rfl ?_
  refine J_iload C dX0_teamGain_91 8 rfl ?_
  refine J_if_ne (tgt := 101) C dX0_teamGain_93 (by decide) (fun _ => ?_) (fun _ => ?_)
  · refine J_lv [1, 2, 3, 4, 5, 0, 7] rfl ?_
    exact b0_teamGain_101 C RT n k23 o0 h0 x1 x2 x3 x4 v10 x7 x6 hk23 M
  · refine J_iload C dX0_teamGain_96 9 rfl ?_
    refine J_if_eq (tgt := 105) C dX0_teamGain_98 (by decide) (fun _ => ?_) (fun _ => ?_)
    · refine J_iconst C dX0_teamGain_105 kci_0 ?_
      refine J_iadd C dX0_teamGain_106 ?_
      refine J_ilet (fun v13 => ?_)
      refine J_istore (lv' := [(6, .int v13), (5, .int v10), (0, .ref (wa w o0)), (1, .int x1), (2, .int x2), (3, .int x3), (4, .int x4), (7, .int x7), (8, .int x8), (9, .int x9)]) C dX0_teamGain_107 (by decide) rfl ?_
      refine J_iinc (lw := fun v14 => [(7, .int v14), (6, .int v13), (5, .int v10), (0, .ref (wa w o0)), (1, .int x1), (2, .int x2), (3, .int x3), (4, .int x4), (8, .int x8), (9, .int x9)]) (X := x7 + 1) C dX0_teamGain_109 (q := 7) rfl (by rw [kci_1]) (by decide) (fun _ => rfl) (fun v14 => ?_)
      refine J_goto (tgt := 23) C dX0_teamGain_112 (by decide) ?_
      refine J_lv [3, 4, 5, 6, 7, 2, 1, 0] rfl ?_
      exact hk23 x4 v10 v13 v14 M
    · refine J_lv [1, 2, 3, 4, 5, 0, 7] rfl ?_
      exact b0_teamGain_101 C RT n k23 o0 h0 x1 x2 x3 x4 v10 x7 x6 hk23 M
def s0_teamGain_71 (n : Nat) (k23 : Int32 → Int32 → Int32 → Int32 → Mem → Option Res) (o0 : Nat) (x1 : Int32) (x2 : Int32) (x3 : Int32) (x5 : Int32) (x6 : Int32) (x7 : Int32) (x8 : Int32) (x9 : Int32) (t0 : Int32) (t1 : Int32) (M : Mem) : Option Res := ilet (t1 + t0) (fun v9 => if x9 = 0 then (s0_teamGain_86 n k23 o0 x1 x2 x3 v9 x6 x7 x8 x9 (0 : Int32) x5 M) else (s0_teamGain_86 n k23 o0 x1 x2 x3 v9 x6 x7 x8 x9 (1 : Int32) x5 M))
set_option maxRecDepth 100000 in
set_option maxHeartbeats 4000000 in
theorem b0_teamGain_71 {w : WE} {g : GT} (C : CT w g RX0 cX0_teamGain rm0_teamGain 10) (RT : RTi w g cX0_teamGain .int) (n : Nat) (k23 : Int32 → Int32 → Int32 → Int32 → Mem → Option Res) (o0 : Nat) (h0 : typ o0 = 0) (x1 : Int32) (x2 : Int32) (x3 : Int32) (x5 : Int32) (x6 : Int32) (x7 : Int32) (x8 : Int32) (x9 : Int32) (t0 : Int32) (t1 : Int32) (hk23 : ∀ (z4 : Int32) (z5 : Int32) (z6 : Int32) (z7 : Int32) (M : Mem), J w g (k23 z4 z5 z6 z7 M) M 23 [(0, .ref (wa w o0)), (1, .int x1), (2, .int x2), (3, .int x3), (4, .int z4), (5, .int z5), (6, .int z6), (7, .int z7)] []) (M : Mem) : J w g (s0_teamGain_71 n k23 o0 x1 x2 x3 x5 x6 x7 x8 x9 t0 t1 M) M 71 [(0, .ref (wa w o0)), (1, .int x1), (2, .int x2), (3, .int x3), (5, .int x5), (6, .int x6), (7, .int x7), (8, .int x8), (9, .int x9)] [.int t0, .int t1] := by
  rw [s0_teamGain_71]
  refine J_iadd C dX0_teamGain_71 ?_
  refine J_ilet (fun v9 => ?_)
  refine J_istore (lv' := [(4, .int v9), (0, .ref (wa w o0)), (1, .int x1), (2, .int x2), (3, .int x3), (5, .int x5), (6, .int x6), (7, .int x7), (8, .int x8), (9, .int x9)]) C dX0_teamGain_72 (by decide) rfl ?_
  refine J_iload C dX0_teamGain_74 5 rfl ?_
  refine J_iload C dX0_teamGain_76 9 rfl ?_
  refine J_if_eq (tgt := 85) C dX0_teamGain_78 (by decide) (fun _ => ?_) (fun _ => ?_)
  · refine J_iconst C dX0_teamGain_85 kci_0 ?_
    refine J_lv [1, 2, 3, 4, 0, 6, 7, 8, 9] rfl ?_
    exact b0_teamGain_86 C RT n k23 o0 h0 x1 x2 x3 v9 x6 x7 x8 x9 (0 : Int32) x5 hk23 M
  · refine J_iconst C dX0_teamGain_81 kci_1 ?_
    refine J_goto (tgt := 86) C dX0_teamGain_82 (by decide) ?_
    refine J_lv [1, 2, 3, 4, 0, 6, 7, 8, 9] rfl ?_
    exact b0_teamGain_86 C RT n k23 o0 h0 x1 x2 x3 v9 x6 x7 x8 x9 (1 : Int32) x5 hk23 M
def s0_teamGain_23 (n : Nat) (o0 : Nat) (x1 : Int32) (x2 : Int32) (x3 : Int32) : Nat → Int32 → Int32 → Int32 → Int32 → Mem → Option Res
  | 0, _, _, _, _, _ => none
  | f + 1, x4, x5, x6, x7, M => if x3 ≤ x7 then (some (x6 - (if x4 < x5 then x5 else x4), M)) else (cb (s0_seatBehindTenth n o0 M) (fun _ M3 => cb (s5_isSeated (link (link o0 1) 2) x1 M3) (fun r6 M5 => cb (s5_isSeated (link (link o0 1) 2) x2 M5) (fun r8 M7 => if r6 = 0 then (s0_teamGain_71 n (s0_teamGain_23 n o0 x1 x2 x3 f) o0 x1 x2 x3 x5 x6 x7 r6 r8 (0 : Int32) x4 M7) else (s0_teamGain_71 n (s0_teamGain_23 n o0 x1 x2 x3 f) o0 x1 x2 x3 x5 x6 x7 r6 r8 (1 : Int32) x4 M7)))))
set_option maxRecDepth 100000 in
set_option maxHeartbeats 4000000 in
theorem b0_teamGain_23 {w : WE} {g : GT} (C : CT w g RX0 cX0_teamGain rm0_teamGain 10) (RT : RTi w g cX0_teamGain .int) (n : Nat) (o0 : Nat) (h0 : typ o0 = 0) (x1 : Int32) (x2 : Int32) (x3 : Int32) : ∀ (f : Nat) (x4 : Int32) (x5 : Int32) (x6 : Int32) (x7 : Int32) (M : Mem), J w g (s0_teamGain_23 n o0 x1 x2 x3 f x4 x5 x6 x7 M) M 23 [(0, .ref (wa w o0)), (1, .int x1), (2, .int x2), (3, .int x3), (4, .int x4), (5, .int x5), (6, .int x6), (7, .int x7)] [] := by
  intro f
  induction f with
  | zero =>
    intro x4 x5 x6 x7 M
    rw [s0_teamGain_23]
    exact J_none
  | succ f ih =>
    intro x4 x5 x6 x7 M
    rw [s0_teamGain_23]
    refine J_iload C dX0_teamGain_23 7 rfl ?_
    refine J_iload_n C dX0_teamGain_25 rfl 3 rfl ?_
    refine J_icmp_ge (tgt := 115) C dX0_teamGain_26 (by decide) (fun _ => ?_) (fun _ => ?_)
    · refine J_iload C dX0_teamGain_115 6 rfl ?_
      refine J_iload C dX0_teamGain_117 4 rfl ?_
      refine J_iload C dX0_teamGain_119 5 rfl ?_
      refine J_mmax C W4_14 W4_15 W1_16 W4_16 ⟨by decide, by decide⟩ (Nat.le_of_ble_eq_true rfl) dX0_teamGain_121 ?_
      refine J_isub C dX0_teamGain_124 ?_
      exact J_iret C RT rfl dX0_teamGain_125
    · refine J_aload_n C dX0_teamGain_29 rfl 0 rfl ?_
      refine J_cvv (As := []) C (c0_seatBehindTenth (gl g) w n o0 h0 M) (gd_v W3_235 W3_237 WP_20 W1_2 W3_238) rfl (by decide) (hdX0_seatBehindTenth) h0 (by decide) (cl_0) rfl (Nat.le_of_ble_eq_true rfl) dX0_teamGain_30 rfl (fun r4 M3 => ?_)
      refine J_aload_n C dX0_teamGain_33 rfl 0 rfl ?_
      refine J_getr C fk0_1 W1_217 h0 dX0_teamGain_34 ?_
      refine J_getr C fk2_2 W1_172 (tl_0_1 h0) dX0_teamGain_37 ?_
      refine J_iload_n C dX0_teamGain_40 rfl 1 rfl ?_
      refine J_cvi (As := [.int x1]) C (c5_isSeated (gl g) w (link (link o0 1) 2) (tl_2_2 (tl_0_1 h0)) x1 M3) (gd_v W4_1 W3_172 W3_173 W1_6 W3_174) rfl (by decide) (hdX5_isSeated) (tl_2_2 (tl_0_1 h0)) (by decide) (cl_5) rfl (Nat.le_of_ble_eq_true rfl) dX0_teamGain_41 rfl (fun r6 M5 => ?_)
      refine J_istore (lv' := [(8, .int r6), (0, .ref (wa w o0)), (1, .int x1), (2, .int x2), (3, .int x3), (4, .int x4), (5, .int x5), (6, .int x6), (7, .int x7)]) C dX0_teamGain_44 (by decide) rfl ?_
      refine J_aload_n C dX0_teamGain_46 rfl 1 rfl ?_
      refine J_getr C fk0_1 W1_217 h0 dX0_teamGain_47 ?_
      refine J_getr C fk2_2 W1_172 (tl_0_1 h0) dX0_teamGain_50 ?_
      refine J_iload_n C dX0_teamGain_53 rfl 3 rfl ?_
      refine J_cvi (As := [.int x2]) C (c5_isSeated (gl g) w (link (link o0 1) 2) (tl_2_2 (tl_0_1 h0)) x2 M5) (gd_v W4_1 W3_172 W3_173 W1_6 W3_174) rfl (by decide) (hdX5_isSeated) (tl_2_2 (tl_0_1 h0)) (by decide) (cl_5) rfl (Nat.le_of_ble_eq_true rfl) dX0_teamGain_54 rfl (fun r8 M7 => ?_)
      refine J_istore (lv' := [(9, .int r8), (8, .int r6), (0, .ref (wa w o0)), (1, .int x1), (2, .int x2), (3, .int x3), (4, .int x4), (5, .int x5), (6, .int x6), (7, .int x7)]) C dX0_teamGain_57 (by decide) rfl ?_
      refine J_iload C dX0_teamGain_59 6 rfl ?_
      refine J_iload C dX0_teamGain_61 1 rfl ?_
      refine J_if_eq (tgt := 70) C dX0_teamGain_63 (by decide) (fun _ => ?_) (fun _ => ?_)
      · refine J_iconst C dX0_teamGain_70 kci_0 ?_
        refine J_lv [2, 3, 4, 5, 7, 8, 9, 1, 0] rfl ?_
        exact b0_teamGain_71 C RT n (s0_teamGain_23 n o0 x1 x2 x3 f) o0 h0 x1 x2 x3 x5 x6 x7 r6 r8 (0 : Int32) x4 ih M7
      · refine J_iconst C dX0_teamGain_66 kci_1 ?_
        refine J_goto (tgt := 71) C dX0_teamGain_67 (by decide) ?_
        refine J_lv [2, 3, 4, 5, 7, 8, 9, 1, 0] rfl ?_
        exact b0_teamGain_71 C RT n (s0_teamGain_23 n o0 x1 x2 x3 f) o0 h0 x1 x2 x3 x5 x6 x7 r6 r8 (1 : Int32) x4 ih M7
def s0_teamGain (n : Nat) (o0 : Nat) (x1 : Int32) (x2 : Int32) (x3 : Int32) (M : Mem) : Option Res := cb (s2_become n (link o0 1) (link o0 0) M) (fun _ M1 => s0_teamGain_23 n o0 x1 x2 x3 n (0 : Int32) (0 : Int32) (0 : Int32) (0 : Int32) M1)
set_option maxRecDepth 100000 in
set_option maxHeartbeats 4000000 in
theorem b0_teamGain {w : WE} {g : GT} (C : CT w g RX0 cX0_teamGain rm0_teamGain 10) (RT : RTi w g cX0_teamGain .int) (n : Nat) (o0 : Nat) (h0 : typ o0 = 0) (x1 : Int32) (x2 : Int32) (x3 : Int32) (M : Mem) : J w g (s0_teamGain n o0 x1 x2 x3 M) M 0 [(0, .ref (wa w o0)), (1, .int x1), (2, .int x2), (3, .int x3)] [] := by
  rw [s0_teamGain]
  refine J_aload_n C dX0_teamGain_0 rfl 0 rfl ?_
  refine J_getr C fk0_1 W1_217 h0 dX0_teamGain_1 ?_
  refine J_aload_n C dX0_teamGain_4 rfl 0 rfl ?_
  refine J_getr C fk0_0 W1_215 h0 dX0_teamGain_5 ?_
  refine J_cvv (As := [.ref (wa w (link o0 0))]) C (c2_become (gl g) w n (link o0 1) (tl_0_1 h0) (link o0 0) (tl_0_0 h0) M) (gd_v W2_170 W2_171 W2_172 W1_3 W2_173) rfl (by decide) (hdX2_become) (tl_0_1 h0) (by decide) (cl_2) rfl (Nat.le_of_ble_eq_true rfl) dX0_teamGain_8 rfl (fun r2 M1 => ?_)
  refine J_iconst C dX0_teamGain_11 kci_0 ?_
  refine J_istore (lv' := [(4, .int (0 : Int32)), (0, .ref (wa w o0)), (1, .int x1), (2, .int x2), (3, .int x3)]) C dX0_teamGain_12 (by decide) rfl ?_
  refine J_iconst C dX0_teamGain_14 kci_0 ?_
  refine J_istore (lv' := [(5, .int (0 : Int32)), (4, .int (0 : Int32)), (0, .ref (wa w o0)), (1, .int x1), (2, .int x2), (3, .int x3)]) C dX0_teamGain_15 (by decide) rfl ?_
  refine J_iconst C dX0_teamGain_17 kci_0 ?_
  refine J_istore (lv' := [(6, .int (0 : Int32)), (5, .int (0 : Int32)), (4, .int (0 : Int32)), (0, .ref (wa w o0)), (1, .int x1), (2, .int x2), (3, .int x3)]) C dX0_teamGain_18 (by decide) rfl ?_
  refine J_iconst C dX0_teamGain_20 kci_0 ?_
  refine J_istore (lv' := [(7, .int (0 : Int32)), (6, .int (0 : Int32)), (5, .int (0 : Int32)), (4, .int (0 : Int32)), (0, .ref (wa w o0)), (1, .int x1), (2, .int x2), (3, .int x3)]) C dX0_teamGain_21 (by decide) rfl ?_
  refine J_lv [4, 5, 6, 7, 3, 2, 1, 0] rfl ?_
  exact b0_teamGain_23 C RT n o0 h0 x1 x2 x3 n (0 : Int32) (0 : Int32) (0 : Int32) (0 : Int32) M1
theorem c0_teamGain (l : Launch) (w : WE) (n : Nat) (o0 : Nat) (h0 : typ o0 = 0) (x1 : Int32) (x2 : Int32) (x3 : Int32) (M : Mem) : MC l w yX0_teamGain (wz yX0_teamGain cX0_teamGain 10 (some .int)) rm0_teamGain [.ref (wa w o0), .int x1, .int x2, .int x3] (s0_teamGain n o0 x1 x2 x3 M) M :=
  mc_of_J (own := RX0) rfl (by decide) rfl rfl (Nat.le_of_ble_eq_true rfl) (fun _ _ C RT => b0_teamGain C RT n o0 h0 x1 x2 x3 M)
theorem hdX0_teamGain : yX0_teamGain.cls = RX0 ∧ yOK yX0_teamGain 3 := ⟨rfl, by decide, by decide, by decide⟩
abbrev rm5_placeOf : Room := { frames := 1, cells := 0, slots := 0, locals := 21 }
def s5_placeOf (o0 : Nat) (x1 : Int32) (o2 : Nat) (M : Mem) : Option Res := cb (s5_isSeated o0 x1 M) (fun r2 M1 => if r2 = 0 then (some ((-9 : Int32), M1)) else (if inB x1 (alen (link o0 0)) then cb (s4_placeOfChair o2 (M1 (link o0 0) x1.toNatClampNeg) M1) (fun r4 M3 => some (r4, M3)) else none))
set_option maxRecDepth 100000 in
set_option maxHeartbeats 4000000 in
theorem b5_placeOf {w : WE} {g : GT} (C : CT w g RX5 cX5_placeOf rm5_placeOf 3) (RT : RTi w g cX5_placeOf .int) (o0 : Nat) (h0 : typ o0 = 5) (x1 : Int32) (o2 : Nat) (h2 : typ o2 = 4) (M : Mem) : J w g (s5_placeOf o0 x1 o2 M) M 0 [(0, .ref (wa w o0)), (1, .int x1), (2, .ref (wa w o2))] [] := by
  rw [s5_placeOf]
  refine J_aload_n C dX5_placeOf_0 rfl 0 rfl ?_
  refine J_iload_n C dX5_placeOf_1 rfl 1 rfl ?_
  refine J_cvi (As := [.int x1]) C (c5_isSeated (gl g) w o0 h0 x1 M) (gd_v W3_218 W3_172 W3_173 W1_6 W3_174) rfl (by decide) (hdX5_isSeated) h0 (by decide) (cl_5) rfl (Nat.le_of_ble_eq_true rfl) dX5_placeOf_2 rfl (fun r2 M1 => ?_)
  refine J_if_eq (tgt := 21) C dX5_placeOf_5 (by decide) (fun _ => ?_) (fun _ => ?_)
  · refine J_bipush C dX5_placeOf_21 kcb_m9 ?_
    exact J_iret C RT rfl dX5_placeOf_23
  · refine J_aload_n C dX5_placeOf_8 rfl 2 rfl ?_
    refine J_aload_n C dX5_placeOf_9 rfl 0 rfl ?_
    refine J_getr C fk5_0 W1_97 h0 dX5_placeOf_10 ?_
    refine J_iload_n C dX5_placeOf_13 rfl 1 rfl ?_
    refine J_aload_ C (tl_5_0 h0) dX5_placeOf_14 ?_
    refine J_cvi (As := [.int (M1 (link o0 0) x1.toNatClampNeg)]) C (c4_placeOfChair (gl g) w o2 h2 (M1 (link o0 0) x1.toNatClampNeg) M1) (gd_v W3_152 W3_153 W3_154 W1_4 W3_155) rfl (by decide) (hdX4_placeOfChair) h2 (by decide) (cl_4) rfl (Nat.le_of_ble_eq_true rfl) dX5_placeOf_15 rfl (fun r4 M3 => ?_)
    refine J_goto (tgt := 23) C dX5_placeOf_18 (by decide) ?_
    exact J_iret C RT rfl dX5_placeOf_23
theorem c5_placeOf (l : Launch) (w : WE) (o0 : Nat) (h0 : typ o0 = 5) (x1 : Int32) (o2 : Nat) (h2 : typ o2 = 4) (M : Mem) : MC l w yX5_placeOf (wz yX5_placeOf cX5_placeOf 3 (some .int)) rm5_placeOf [.ref (wa w o0), .int x1, .ref (wa w o2)] (s5_placeOf o0 x1 o2 M) M :=
  mc_of_J (own := RX5) rfl (by decide) rfl rfl (Nat.le_of_ble_eq_true rfl) (fun _ _ C RT => b5_placeOf C RT o0 h0 x1 o2 h2 M)
theorem hdX5_placeOf : yX5_placeOf.cls = RX5 ∧ yOK yX5_placeOf 2 := ⟨rfl, by decide, by decide, by decide⟩
abbrev rm0_sitsWhenHeld : Room := { frames := 4, cells := 0, slots := 0, locals := 92 }
def s0_sitsWhenHeld_106 (n : Nat) (k41 : Int32 → Int32 → Mem → Option Res) (o0 : Nat) (x1 : Int32) (x2 : Int32) (x3 : Int32) (o4 : Nat) (x5 : Int32) (x6 : Int32) (t0 : Int32) (M : Mem) : Option Res := if t0 = 0 then (cb (s5_isSeated (link (link o0 1) 2) x2 M) (fun r13 M12 => if r13 = 0 then (ilet (x6 + 1) (fun v14 => k41 x5 v14 M12)) else (ilet (x5 + 1) (fun v15 => ilet (x6 + 1) (fun v16 => k41 v15 v16 M12))))) else (ilet (x5 + 1) (fun v10 => ilet (x6 + 1) (fun v11 => k41 v10 v11 M)))
set_option maxRecDepth 100000 in
set_option maxHeartbeats 4000000 in
theorem b0_sitsWhenHeld_106 {w : WE} {g : GT} (C : CT w g RX0 cX0_sitsWhenHeld rm0_sitsWhenHeld 9) (RT : RTi w g cX0_sitsWhenHeld .int) (n : Nat) (k41 : Int32 → Int32 → Mem → Option Res) (o0 : Nat) (h0 : typ o0 = 0) (x1 : Int32) (x2 : Int32) (x3 : Int32) (o4 : Nat) (h4 : typ o4 = 7) (x5 : Int32) (x6 : Int32) (t0 : Int32) (hk41 : ∀ (z5 : Int32) (z6 : Int32) (M : Mem), J w g (k41 z5 z6 M) M 41 [(0, .ref (wa w o0)), (1, .int x1), (2, .int x2), (3, .int x3), (4, .ref (wa w o4)), (5, .int z5), (6, .int z6)] []) (M : Mem) : J w g (s0_sitsWhenHeld_106 n k41 o0 x1 x2 x3 o4 x5 x6 t0 M) M 106 [(0, .ref (wa w o0)), (1, .int x1), (2, .int x2), (3, .int x3), (4, .ref (wa w o4)), (5, .int x5), (6, .int x6)] [.int t0] := by
  rw [s0_sitsWhenHeld_106]
  refine J_istore (lv' := [(8, .int t0), (0, .ref (wa w o0)), (1, .int x1), (2, .int x2), (3, .int x3), (4, .ref (wa w o4)), (5, .int x5), (6, .int x6)]) C dX0_sitsWhenHeld_106 (by decide) rfl ?_
  refine J_iload C dX0_sitsWhenHeld_108 0 rfl ?_
  refine J_if_ne (tgt := 127) C dX0_sitsWhenHeld_110 (by decide) (fun _ => ?_) (fun _ => ?_)
  · refine J_iinc (lw := fun v10 => [(5, .int v10), (8, .int t0), (0, .ref (wa w o0)), (1, .int x1), (2, .int x2), (3, .int x3), (4, .ref (wa w o4)), (6, .int x6)]) (X := x5 + 1) C dX0_sitsWhenHeld_127 (q := 6) rfl (by rw [kci_1]) (by decide) (fun _ => rfl) (fun v10 => ?_)
    refine J_iinc (lw := fun v11 => [(6, .int v11), (5, .int v10), (8, .int t0), (0, .ref (wa w o0)), (1, .int x1), (2, .int x2), (3, .int x3), (4, .ref (wa w o4))]) (X := x6 + 1) C dX0_sitsWhenHeld_130 (q := 7) rfl (by rw [kci_1]) (by decide) (fun _ => rfl) (fun v11 => ?_)
    refine J_goto (tgt := 41) C dX0_sitsWhenHeld_133 (by decide) ?_
    refine J_lv [3, 4, 5, 6, 7, 1, 0] rfl ?_
    exact hk41 v10 v11 M
  · refine J_aload_n C dX0_sitsWhenHeld_113 rfl 1 rfl ?_
    refine J_getr C fk0_1 W1_217 h0 dX0_sitsWhenHeld_114 ?_
    refine J_getr C fk2_2 W1_172 (tl_0_1 h0) dX0_sitsWhenHeld_117 ?_
    refine J_iload_n C dX0_sitsWhenHeld_120 rfl 3 rfl ?_
    refine J_cvi (As := [.int x2]) C (c5_isSeated (gl g) w (link (link o0 1) 2) (tl_2_2 (tl_0_1 h0)) x2 M) (gd_v W4_1 W3_172 W3_173 W1_6 W3_174) rfl (by decide) (hdX5_isSeated) (tl_2_2 (tl_0_1 h0)) (by decide) (cl_5) rfl (Nat.le_of_ble_eq_true rfl) dX0_sitsWhenHeld_121 rfl (fun r13 M12 => ?_)
    refine J_if_eq (tgt := 130) C dX0_sitsWhenHeld_124 (by decide) (fun _ => ?_) (fun _ => ?_)
    · refine J_iinc (lw := fun v14 => [(6, .int v14), (8, .int t0), (0, .ref (wa w o0)), (1, .int x1), (2, .int x2), (3, .int x3), (4, .ref (wa w o4)), (5, .int x5)]) (X := x6 + 1) C dX0_sitsWhenHeld_130 (q := 7) rfl (by rw [kci_1]) (by decide) (fun _ => rfl) (fun v14 => ?_)
      refine J_goto (tgt := 41) C dX0_sitsWhenHeld_133 (by decide) ?_
      refine J_lv [2, 3, 4, 5, 6, 7, 0] rfl ?_
      exact hk41 x5 v14 M12
    · refine J_iinc (lw := fun v15 => [(5, .int v15), (8, .int t0), (0, .ref (wa w o0)), (1, .int x1), (2, .int x2), (3, .int x3), (4, .ref (wa w o4)), (6, .int x6)]) (X := x5 + 1) C dX0_sitsWhenHeld_127 (q := 6) rfl (by rw [kci_1]) (by decide) (fun _ => rfl) (fun v15 => ?_)
      refine J_iinc (lw := fun v16 => [(6, .int v16), (5, .int v15), (8, .int t0), (0, .ref (wa w o0)), (1, .int x1), (2, .int x2), (3, .int x3), (4, .ref (wa w o4))]) (X := x6 + 1) C dX0_sitsWhenHeld_130 (q := 7) rfl (by rw [kci_1]) (by decide) (fun _ => rfl) (fun v16 => ?_)
      refine J_goto (tgt := 41) C dX0_sitsWhenHeld_133 (by decide) ?_
      refine J_lv [3, 4, 5, 6, 7, 1, 0] rfl ?_
      exact hk41 v15 v16 M12
def s0_sitsWhenHeld_105 (n : Nat) (k41 : Int32 → Int32 → Mem → Option Res) (o0 : Nat) (x1 : Int32) (x2 : Int32) (x3 : Int32) (o4 : Nat) (x5 : Int32) (x6 : Int32) (M : Mem) : Option Res := s0_sitsWhenHeld_106 n k41 o0 x1 x2 x3 o4 x5 x6 (0 : Int32) M
set_option maxRecDepth 100000 in
set_option maxHeartbeats 4000000 in
theorem b0_sitsWhenHeld_105 {w : WE} {g : GT} (C : CT w g RX0 cX0_sitsWhenHeld rm0_sitsWhenHeld 9) (RT : RTi w g cX0_sitsWhenHeld .int) (n : Nat) (k41 : Int32 → Int32 → Mem → Option Res) (o0 : Nat) (h0 : typ o0 = 0) (x1 : Int32) (x2 : Int32) (x3 : Int32) (o4 : Nat) (h4 : typ o4 = 7) (x5 : Int32) (x6 : Int32) (hk41 : ∀ (z5 : Int32) (z6 : Int32) (M : Mem), J w g (k41 z5 z6 M) M 41 [(0, .ref (wa w o0)), (1, .int x1), (2, .int x2), (3, .int x3), (4, .ref (wa w o4)), (5, .int z5), (6, .int z6)] []) (M : Mem) : J w g (s0_sitsWhenHeld_105 n k41 o0 x1 x2 x3 o4 x5 x6 M) M 105 [(0, .ref (wa w o0)), (1, .int x1), (2, .int x2), (3, .int x3), (4, .ref (wa w o4)), (5, .int x5), (6, .int x6)] [] := by
  rw [s0_sitsWhenHeld_105]
  refine J_iconst C dX0_sitsWhenHeld_105 kci_0 ?_
  exact b0_sitsWhenHeld_106 C RT n k41 o0 h0 x1 x2 x3 o4 h4 x5 x6 (0 : Int32) hk41 M
def s0_sitsWhenHeld_41 (n : Nat) (o0 : Nat) (x1 : Int32) (x2 : Int32) (x3 : Int32) (o4 : Nat) : Nat → Int32 → Int32 → Mem → Option Res
  | 0, _, _, _ => none
  | f + 1, x5, x6, M => if x3 ≤ x6 then (some (x5, M)) else (cb (s0_seatBehindTenth n o0 M) (fun _ M6 => cb (s5_placeOf (link (link o0 1) 2) x1 (link (link o0 1) 0) M6) (fun r9 M8 => if r9 < 0 then (s0_sitsWhenHeld_105 n (s0_sitsWhenHeld_41 n o0 x1 x2 x3 o4 f) o0 x1 x2 x3 o4 x5 x6 M8) else (cb (s4_far n (link (link o0 1) 0) (M8 o4 0) r9 M8) (fun r18 M17 => if (M17 o4 6) < r18 then (s0_sitsWhenHeld_105 n (s0_sitsWhenHeld_41 n o0 x1 x2 x3 o4 f) o0 x1 x2 x3 o4 x5 x6 M17) else (s0_sitsWhenHeld_106 n (s0_sitsWhenHeld_41 n o0 x1 x2 x3 o4 f) o0 x1 x2 x3 o4 x5 x6 (1 : Int32) M17))))))
set_option maxRecDepth 100000 in
set_option maxHeartbeats 4000000 in
theorem b0_sitsWhenHeld_41 {w : WE} {g : GT} (C : CT w g RX0 cX0_sitsWhenHeld rm0_sitsWhenHeld 9) (RT : RTi w g cX0_sitsWhenHeld .int) (n : Nat) (o0 : Nat) (h0 : typ o0 = 0) (x1 : Int32) (x2 : Int32) (x3 : Int32) (o4 : Nat) (h4 : typ o4 = 7) : ∀ (f : Nat) (x5 : Int32) (x6 : Int32) (M : Mem), J w g (s0_sitsWhenHeld_41 n o0 x1 x2 x3 o4 f x5 x6 M) M 41 [(0, .ref (wa w o0)), (1, .int x1), (2, .int x2), (3, .int x3), (4, .ref (wa w o4)), (5, .int x5), (6, .int x6)] [] := by
  intro f
  induction f with
  | zero =>
    intro x5 x6 M
    rw [s0_sitsWhenHeld_41]
    exact J_none
  | succ f ih =>
    intro x5 x6 M
    rw [s0_sitsWhenHeld_41]
    refine J_iload C dX0_sitsWhenHeld_41 6 rfl ?_
    refine J_iload_n C dX0_sitsWhenHeld_43 rfl 3 rfl ?_
    refine J_icmp_ge (tgt := 136) C dX0_sitsWhenHeld_44 (by decide) (fun _ => ?_) (fun _ => ?_)
    · refine J_iload C dX0_sitsWhenHeld_136 5 rfl ?_
      exact J_iret C RT rfl dX0_sitsWhenHeld_138
    · refine J_aload_n C dX0_sitsWhenHeld_47 rfl 0 rfl ?_
      refine J_cvv (As := []) C (c0_seatBehindTenth (gl g) w n o0 h0 M) (gd_v W3_235 W3_237 WP_20 W1_2 W3_238) rfl (by decide) (hdX0_seatBehindTenth) h0 (by decide) (cl_0) rfl (Nat.le_of_ble_eq_true rfl) dX0_sitsWhenHeld_48 rfl (fun r7 M6 => ?_)
      refine J_aload_n C dX0_sitsWhenHeld_51 rfl 0 rfl ?_
      refine J_getr C fk0_1 W1_217 h0 dX0_sitsWhenHeld_52 ?_
      refine J_getr C fk2_2 W1_172 (tl_0_1 h0) dX0_sitsWhenHeld_55 ?_
      refine J_iload_n C dX0_sitsWhenHeld_58 rfl 1 rfl ?_
      refine J_aload_n C dX0_sitsWhenHeld_59 rfl 0 rfl ?_
      refine J_getr C fk0_1 W1_217 h0 dX0_sitsWhenHeld_60 ?_
      refine J_getr C fk2_0 W1_165 (tl_0_1 h0) dX0_sitsWhenHeld_63 ?_
      refine J_cvi (As := [.int x1, .ref (wa w (link (link o0 1) 0))]) C (c5_placeOf (gl g) w (link (link o0 1) 2) (tl_2_2 (tl_0_1 h0)) x1 (link (link o0 1) 0) (tl_2_0 (tl_0_1 h0)) M6) (gd_v W4_142 W3_215 W3_216 W1_6 W3_217) rfl (by decide) (hdX5_placeOf) (tl_2_2 (tl_0_1 h0)) (by decide) (cl_5) rfl (Nat.le_of_ble_eq_true rfl) dX0_sitsWhenHeld_66 rfl (fun r9 M8 => ?_)
      refine J_istore (lv' := [(7, .int r9), (0, .ref (wa w o0)), (1, .int x1), (2, .int x2), (3, .int x3), (4, .ref (wa w o4)), (5, .int x5), (6, .int x6)]) C dX0_sitsWhenHeld_69 (by decide) rfl ?_
      refine J_iload C dX0_sitsWhenHeld_71 0 rfl ?_
      refine J_if_lt (tgt := 105) C dX0_sitsWhenHeld_73 (by decide) (fun _ => ?_) (fun _ => ?_)
      · refine J_lv [1, 2, 3, 4, 5, 6, 7] rfl ?_
        exact b0_sitsWhenHeld_105 C RT n (s0_sitsWhenHeld_41 n o0 x1 x2 x3 o4 f) o0 h0 x1 x2 x3 o4 h4 x5 x6 ih M8
      · refine J_aload_n C dX0_sitsWhenHeld_76 rfl 1 rfl ?_
        refine J_getr C fk0_1 W1_217 h0 dX0_sitsWhenHeld_77 ?_
        refine J_getr C fk2_0 W1_165 (tl_0_1 h0) dX0_sitsWhenHeld_80 ?_
        refine J_aload C dX0_sitsWhenHeld_83 5 rfl ?_
        refine J_geti C fk7_0 W1_123 h4 dX0_sitsWhenHeld_85 ?_
        refine J_iload C dX0_sitsWhenHeld_88 0 rfl ?_
        refine J_cvi (As := [.int (M8 o4 0), .int r9]) C (c4_far (gl g) w n (link (link o0 1) 0) (tl_2_0 (tl_0_1 h0)) (M8 o4 0) r9 M8) (gd_v W4_143 W3_90 W3_91 W1_4 W3_92) rfl (by decide) (hdX4_far) (tl_2_0 (tl_0_1 h0)) (by decide) (cl_4) rfl (Nat.le_of_ble_eq_true rfl) dX0_sitsWhenHeld_90 rfl (fun r18 M17 => ?_)
        refine J_aload C dX0_sitsWhenHeld_93 5 rfl ?_
        refine J_geti C fk7_6 W1_140 h4 dX0_sitsWhenHeld_95 ?_
        refine J_icmp_gt (tgt := 105) C dX0_sitsWhenHeld_98 (by decide) (fun _ => ?_) (fun _ => ?_)
        · refine J_lv [1, 2, 3, 4, 5, 6, 7] rfl ?_
          exact b0_sitsWhenHeld_105 C RT n (s0_sitsWhenHeld_41 n o0 x1 x2 x3 o4 f) o0 h0 x1 x2 x3 o4 h4 x5 x6 ih M17
        · refine J_iconst C dX0_sitsWhenHeld_101 kci_1 ?_
          refine J_goto (tgt := 106) C dX0_sitsWhenHeld_102 (by decide) ?_
          refine J_lv [1, 2, 3, 4, 5, 6, 7] rfl ?_
          exact b0_sitsWhenHeld_106 C RT n (s0_sitsWhenHeld_41 n o0 x1 x2 x3 o4 f) o0 h0 x1 x2 x3 o4 h4 x5 x6 (1 : Int32) ih M17
def s0_sitsWhenHeld (n : Nat) (o0 : Nat) (x1 : Int32) (x2 : Int32) (x3 : Int32) (M : Mem) : Option Res := cb (s2_become n (link o0 1) (link o0 0) M) (fun _ M1 => cb (s2_knowsIn (link o0 1) x2 M1) (fun r4 M3 => if r4 = 0 then (some ((0 : Int32), M3)) else (if inB x2 (alen (link (link o0 1) 3)) then s0_sitsWhenHeld_41 n o0 x1 x2 x3 (link (link (link o0 1) 3) x2.toNatClampNeg) n (0 : Int32) (0 : Int32) M3 else none)))
set_option maxRecDepth 100000 in
set_option maxHeartbeats 4000000 in
theorem b0_sitsWhenHeld {w : WE} {g : GT} (C : CT w g RX0 cX0_sitsWhenHeld rm0_sitsWhenHeld 9) (RT : RTi w g cX0_sitsWhenHeld .int) (n : Nat) (o0 : Nat) (h0 : typ o0 = 0) (x1 : Int32) (x2 : Int32) (x3 : Int32) (M : Mem) : J w g (s0_sitsWhenHeld n o0 x1 x2 x3 M) M 0 [(0, .ref (wa w o0)), (1, .int x1), (2, .int x2), (3, .int x3)] [] := by
  rw [s0_sitsWhenHeld]
  refine J_aload_n C dX0_sitsWhenHeld_0 rfl 0 rfl ?_
  refine J_getr C fk0_1 W1_217 h0 dX0_sitsWhenHeld_1 ?_
  refine J_aload_n C dX0_sitsWhenHeld_4 rfl 0 rfl ?_
  refine J_getr C fk0_0 W1_215 h0 dX0_sitsWhenHeld_5 ?_
  refine J_cvv (As := [.ref (wa w (link o0 0))]) C (c2_become (gl g) w n (link o0 1) (tl_0_1 h0) (link o0 0) (tl_0_0 h0) M) (gd_v W2_170 W2_171 W2_172 W1_3 W2_173) rfl (by decide) (hdX2_become) (tl_0_1 h0) (by decide) (cl_2) rfl (Nat.le_of_ble_eq_true rfl) dX0_sitsWhenHeld_8 rfl (fun r2 M1 => ?_)
  refine J_aload_n C dX0_sitsWhenHeld_11 rfl 0 rfl ?_
  refine J_getr C fk0_1 W1_217 h0 dX0_sitsWhenHeld_12 ?_
  refine J_iload_n C dX0_sitsWhenHeld_15 rfl 2 rfl ?_
  refine J_cvi (As := [.int x2]) C (c2_knowsIn (gl g) w (link o0 1) (tl_0_1 h0) x2 M1) (gd_v W3_234 W3_110 W3_111 W1_3 W3_112) rfl (by decide) (hdX2_knowsIn) (tl_0_1 h0) (by decide) (cl_2) rfl (Nat.le_of_ble_eq_true rfl) dX0_sitsWhenHeld_16 rfl (fun r4 M3 => ?_)
  refine J_if_ne (tgt := 24) C dX0_sitsWhenHeld_19 (by decide) (fun _ => ?_) (fun _ => ?_)
  · refine J_aload_n C dX0_sitsWhenHeld_24 rfl 0 rfl ?_
    refine J_getr C fk0_1 W1_217 h0 dX0_sitsWhenHeld_25 ?_
    refine J_getr C fk2_3 W1_176 (tl_0_1 h0) dX0_sitsWhenHeld_28 ?_
    refine J_iload_n C dX0_sitsWhenHeld_31 rfl 2 rfl ?_
    refine J_aaload C (tl_2_3 (tl_0_1 h0)) dX0_sitsWhenHeld_32 (fun hb5 => ?_)
    refine J_astore (lv' := [(4, .ref (wa w (link (link (link o0 1) 3) x2.toNatClampNeg))), (0, .ref (wa w o0)), (1, .int x1), (2, .int x2), (3, .int x3)]) C dX0_sitsWhenHeld_33 (by decide) rfl ?_
    refine J_iconst C dX0_sitsWhenHeld_35 kci_0 ?_
    refine J_istore (lv' := [(5, .int (0 : Int32)), (4, .ref (wa w (link (link (link o0 1) 3) x2.toNatClampNeg))), (0, .ref (wa w o0)), (1, .int x1), (2, .int x2), (3, .int x3)]) C dX0_sitsWhenHeld_36 (by decide) rfl ?_
    refine J_iconst C dX0_sitsWhenHeld_38 kci_0 ?_
    refine J_istore (lv' := [(6, .int (0 : Int32)), (5, .int (0 : Int32)), (4, .ref (wa w (link (link (link o0 1) 3) x2.toNatClampNeg))), (0, .ref (wa w o0)), (1, .int x1), (2, .int x2), (3, .int x3)]) C dX0_sitsWhenHeld_39 (by decide) rfl ?_
    refine J_lv [3, 4, 5, 6, 2, 1, 0] rfl ?_
    exact b0_sitsWhenHeld_41 C RT n o0 h0 x1 x2 x3 (link (link (link o0 1) 3) x2.toNatClampNeg) (t_wk (tl_2_3 (tl_0_1 h0)) hb5) n (0 : Int32) (0 : Int32) M3
  · refine J_iconst C dX0_sitsWhenHeld_22 kci_0 ?_
    exact J_iret C RT rfl dX0_sitsWhenHeld_23
theorem c0_sitsWhenHeld (l : Launch) (w : WE) (n : Nat) (o0 : Nat) (h0 : typ o0 = 0) (x1 : Int32) (x2 : Int32) (x3 : Int32) (M : Mem) : MC l w yX0_sitsWhenHeld (wz yX0_sitsWhenHeld cX0_sitsWhenHeld 9 (some .int)) rm0_sitsWhenHeld [.ref (wa w o0), .int x1, .int x2, .int x3] (s0_sitsWhenHeld n o0 x1 x2 x3 M) M :=
  mc_of_J (own := RX0) rfl (by decide) rfl rfl (Nat.le_of_ble_eq_true rfl) (fun _ _ C RT => b0_sitsWhenHeld C RT n o0 h0 x1 x2 x3 M)
theorem hdX0_sitsWhenHeld : yX0_sitsWhenHeld.cls = RX0 ∧ yOK yX0_sitsWhenHeld 3 := ⟨rfl, by decide, by decide, by decide⟩
abbrev rm1_at : Room := { frames := 0, cells := 0, slots := 0, locals := 0 }
def s1_at (o0 : Nat) (x1 : Int32) (M : Mem) : Option Res := if x1 < 0 then (some ((-9 : Int32), M)) else (if (M o0 1) ≤ x1 then (some ((-9 : Int32), M)) else (if inB x1 (alen (link o0 0)) then some (M (link o0 0) x1.toNatClampNeg, M) else none))
set_option maxRecDepth 100000 in
set_option maxHeartbeats 4000000 in
theorem b1_at {w : WE} {g : GT} (C : CT w g RX1 cX1_at rm1_at 2) (RT : RTi w g cX1_at .int) (o0 : Nat) (h0 : typ o0 = 1) (x1 : Int32) (M : Mem) : J w g (s1_at o0 x1 M) M 0 [(0, .ref (wa w o0)), (1, .int x1)] [] := by
  rw [s1_at]
  refine J_iload_n C dX1_at_0 rfl 1 rfl ?_
  refine J_if_lt (tgt := 21) C dX1_at_1 (by decide) (fun _ => ?_) (fun _ => ?_)
  · refine J_bipush C dX1_at_21 kcb_m9 ?_
    exact J_iret C RT rfl dX1_at_23
  · refine J_iload_n C dX1_at_4 rfl 1 rfl ?_
    refine J_aload_n C dX1_at_5 rfl 0 rfl ?_
    refine J_geti C fk1_1 W2_1 h0 dX1_at_6 ?_
    refine J_icmp_ge (tgt := 21) C dX1_at_9 (by decide) (fun _ => ?_) (fun _ => ?_)
    · refine J_bipush C dX1_at_21 kcb_m9 ?_
      exact J_iret C RT rfl dX1_at_23
    · refine J_aload_n C dX1_at_12 rfl 0 rfl ?_
      refine J_getr C fk1_0 W2_0 h0 dX1_at_13 ?_
      refine J_iload_n C dX1_at_16 rfl 1 rfl ?_
      refine J_aload_ C (tl_1_0 h0) dX1_at_17 ?_
      refine J_goto (tgt := 23) C dX1_at_18 (by decide) ?_
      exact J_iret C RT rfl dX1_at_23
theorem c1_at (l : Launch) (w : WE) (o0 : Nat) (h0 : typ o0 = 1) (x1 : Int32) (M : Mem) : MC l w yX1_at (wz yX1_at cX1_at 2 (some .int)) rm1_at [.ref (wa w o0), .int x1] (s1_at o0 x1 M) M :=
  mc_of_J (own := RX1) rfl (by decide) rfl rfl (Nat.le_of_ble_eq_true rfl) (fun _ _ C RT => b1_at C RT o0 h0 x1 M)
theorem hdX1_at : yX1_at.cls = RX1 ∧ yOK yX1_at 1 := ⟨rfl, by decide, by decide, by decide⟩
abbrev rm0_firstWrong : Room := { frames := 3, cells := 0, slots := 0, locals := 83 }
def s0_firstWrong_27 (n : Nat) (o0 : Nat) (x1 : Int32) (o2 : Nat) : Nat → Int32 → Mem → Option Res
  | 0, _, _ => none
  | f + 1, x3, M => if (M o2 1) ≤ x3 then (some ((-9 : Int32), M)) else (cb (s2_walkAll n (link o0 1) M) (fun _ M5 => if inB x1 (alen (link (link o0 1) 3)) then cb (s1_at o2 x3 M5) (fun r9 M8 => if (M5 (link (link (link o0 1) 3) x1.toNatClampNeg) 0) = r9 then (ilet (x3 + 1) (fun v10 => s0_firstWrong_27 n o0 x1 o2 f v10 M8)) else (some (x3, M8))) else none))
set_option maxRecDepth 100000 in
set_option maxHeartbeats 4000000 in
theorem b0_firstWrong_27 {w : WE} {g : GT} (C : CT w g RX0 cX0_firstWrong rm0_firstWrong 4) (RT : RTi w g cX0_firstWrong .int) (n : Nat) (o0 : Nat) (h0 : typ o0 = 0) (x1 : Int32) (o2 : Nat) (h2 : typ o2 = 1) : ∀ (f : Nat) (x3 : Int32) (M : Mem), J w g (s0_firstWrong_27 n o0 x1 o2 f x3 M) M 27 [(0, .ref (wa w o0)), (1, .int x1), (2, .ref (wa w o2)), (3, .int x3)] [] := by
  intro f
  induction f with
  | zero =>
    intro x3 M
    rw [s0_firstWrong_27]
    exact J_none
  | succ f ih =>
    intro x3 M
    rw [s0_firstWrong_27]
    refine J_iload_n C dX0_firstWrong_27 rfl 3 rfl ?_
    refine J_aload_n C dX0_firstWrong_28 rfl 2 rfl ?_
    refine J_geti C fk1_1 W2_2 h2 dX0_firstWrong_29 ?_
    refine J_icmp_ge (tgt := 70) C dX0_firstWrong_32 (by decide) (fun _ => ?_) (fun _ => ?_)
    · refine J_bipush C dX0_firstWrong_70 kcb_m9 ?_
      exact J_iret C RT rfl dX0_firstWrong_72
    · refine J_aload_n C dX0_firstWrong_35 rfl 0 rfl ?_
      refine J_getr C fk0_1 W1_217 h0 dX0_firstWrong_36 ?_
      refine J_cvv (As := []) C (c2_walkAll (gl g) w n (link o0 1) (tl_0_1 h0) M) (gd_v W3_239 W3_118 W3_119 W1_3 W3_120) rfl (by decide) (hdX2_walkAll) (tl_0_1 h0) (by decide) (cl_2) rfl (Nat.le_of_ble_eq_true rfl) dX0_firstWrong_39 rfl (fun r6 M5 => ?_)
      refine J_aload_n C dX0_firstWrong_42 rfl 0 rfl ?_
      refine J_getr C fk0_1 W1_217 h0 dX0_firstWrong_43 ?_
      refine J_getr C fk2_3 W1_176 (tl_0_1 h0) dX0_firstWrong_46 ?_
      refine J_iload_n C dX0_firstWrong_49 rfl 1 rfl ?_
      refine J_aaload C (tl_2_3 (tl_0_1 h0)) dX0_firstWrong_50 (fun hb7 => ?_)
      refine J_geti C fk7_0 W1_123 (t_wk (tl_2_3 (tl_0_1 h0)) hb7) dX0_firstWrong_51 ?_
      refine J_aload_n C dX0_firstWrong_54 rfl 2 rfl ?_
      refine J_iload_n C dX0_firstWrong_55 rfl 3 rfl ?_
      refine J_cvi (As := [.int x3]) C (c1_at (gl g) w o2 h2 x3 M5) (gd_v W4_156 W4_115 W4_116 W1_8 W4_117) rfl (by decide) (hdX1_at) h2 (by decide) (cl_1) rfl (Nat.le_of_ble_eq_true rfl) dX0_firstWrong_56 rfl (fun r9 M8 => ?_)
      refine J_icmp_eq (tgt := 64) C dX0_firstWrong_59 (by decide) (fun _ => ?_) (fun _ => ?_)
      · refine J_iinc (lw := fun v10 => [(3, .int v10), (0, .ref (wa w o0)), (1, .int x1), (2, .ref (wa w o2))]) (X := x3 + 1) C dX0_firstWrong_64 (q := 3) rfl (by rw [kci_1]) (by decide) (fun _ => rfl) (fun v10 => ?_)
        refine J_goto (tgt := 27) C dX0_firstWrong_67 (by decide) ?_
        refine J_lv [1, 2, 3, 0] rfl ?_
        exact ih v10 M8
      · refine J_iload_n C dX0_firstWrong_62 rfl 3 rfl ?_
        exact J_iret C RT rfl dX0_firstWrong_63
def s0_firstWrong (n : Nat) (o0 : Nat) (x1 : Int32) (o2 : Nat) (M : Mem) : Option Res := cb (s2_become n (link o0 1) (link o0 0) M) (fun _ M1 => cb (s2_knowsIn (link o0 1) x1 M1) (fun r4 M3 => if r4 = 0 then (some ((-9 : Int32), M3)) else (s0_firstWrong_27 n o0 x1 o2 n (0 : Int32) M3)))
set_option maxRecDepth 100000 in
set_option maxHeartbeats 4000000 in
theorem b0_firstWrong {w : WE} {g : GT} (C : CT w g RX0 cX0_firstWrong rm0_firstWrong 4) (RT : RTi w g cX0_firstWrong .int) (n : Nat) (o0 : Nat) (h0 : typ o0 = 0) (x1 : Int32) (o2 : Nat) (h2 : typ o2 = 1) (M : Mem) : J w g (s0_firstWrong n o0 x1 o2 M) M 0 [(0, .ref (wa w o0)), (1, .int x1), (2, .ref (wa w o2))] [] := by
  rw [s0_firstWrong]
  refine J_aload_n C dX0_firstWrong_0 rfl 0 rfl ?_
  refine J_getr C fk0_1 W1_217 h0 dX0_firstWrong_1 ?_
  refine J_aload_n C dX0_firstWrong_4 rfl 0 rfl ?_
  refine J_getr C fk0_0 W1_215 h0 dX0_firstWrong_5 ?_
  refine J_cvv (As := [.ref (wa w (link o0 0))]) C (c2_become (gl g) w n (link o0 1) (tl_0_1 h0) (link o0 0) (tl_0_0 h0) M) (gd_v W2_170 W2_171 W2_172 W1_3 W2_173) rfl (by decide) (hdX2_become) (tl_0_1 h0) (by decide) (cl_2) rfl (Nat.le_of_ble_eq_true rfl) dX0_firstWrong_8 rfl (fun r2 M1 => ?_)
  refine J_aload_n C dX0_firstWrong_11 rfl 0 rfl ?_
  refine J_getr C fk0_1 W1_217 h0 dX0_firstWrong_12 ?_
  refine J_iload_n C dX0_firstWrong_15 rfl 1 rfl ?_
  refine J_cvi (As := [.int x1]) C (c2_knowsIn (gl g) w (link o0 1) (tl_0_1 h0) x1 M1) (gd_v W3_234 W3_110 W3_111 W1_3 W3_112) rfl (by decide) (hdX2_knowsIn) (tl_0_1 h0) (by decide) (cl_2) rfl (Nat.le_of_ble_eq_true rfl) dX0_firstWrong_16 rfl (fun r4 M3 => ?_)
  refine J_if_ne (tgt := 25) C dX0_firstWrong_19 (by decide) (fun _ => ?_) (fun _ => ?_)
  · refine J_iconst C dX0_firstWrong_25 kci_0 ?_
    refine J_istore_n (lv' := [(3, .int (0 : Int32)), (0, .ref (wa w o0)), (1, .int x1), (2, .ref (wa w o2))]) C dX0_firstWrong_26 rfl (by decide) rfl ?_
    refine J_lv [1, 2, 3, 0] rfl ?_
    exact b0_firstWrong_27 C RT n o0 h0 x1 o2 h2 n (0 : Int32) M3
  · refine J_bipush C dX0_firstWrong_22 kcb_m9 ?_
    exact J_iret C RT rfl dX0_firstWrong_24
theorem c0_firstWrong (l : Launch) (w : WE) (n : Nat) (o0 : Nat) (h0 : typ o0 = 0) (x1 : Int32) (o2 : Nat) (h2 : typ o2 = 1) (M : Mem) : MC l w yX0_firstWrong (wz yX0_firstWrong cX0_firstWrong 4 (some .int)) rm0_firstWrong [.ref (wa w o0), .int x1, .ref (wa w o2)] (s0_firstWrong n o0 x1 o2 M) M :=
  mc_of_J (own := RX0) rfl (by decide) rfl rfl (Nat.le_of_ble_eq_true rfl) (fun _ _ C RT => b0_firstWrong C RT n o0 h0 x1 o2 h2 M)
theorem hdX0_firstWrong : yX0_firstWrong.cls = RX0 ∧ yOK yX0_firstWrong 2 := ⟨rfl, by decide, by decide, by decide⟩
abbrev rm1_isFull : Room := { frames := 0, cells := 0, slots := 0, locals := 0 }
def s1_isFull (o0 : Nat) (M : Mem) : Option Res := if (M o0 1) < (Int32.ofNat (alen (link o0 0))) then (some ((0 : Int32), M)) else (some ((1 : Int32), M))
set_option maxRecDepth 100000 in
set_option maxHeartbeats 4000000 in
theorem b1_isFull {w : WE} {g : GT} (C : CT w g RX1 cX1_isFull rm1_isFull 1) (RT : RTi w g cX1_isFull .boolean) (o0 : Nat) (h0 : typ o0 = 1) (M : Mem) : J w g (s1_isFull o0 M) M 0 [(0, .ref (wa w o0))] [] := by
  rw [s1_isFull]
  refine J_aload_n C dX1_isFull_0 rfl 0 rfl ?_
  refine J_geti C fk1_1 W2_1 h0 dX1_isFull_1 ?_
  refine J_aload_n C dX1_isFull_4 rfl 0 rfl ?_
  refine J_getr C fk1_0 W2_0 h0 dX1_isFull_5 ?_
  refine J_alen C (tl_1_0 h0) dX1_isFull_8 ?_
  refine J_icmp_lt (tgt := 16) C dX1_isFull_9 (by decide) (fun _ => ?_) (fun _ => ?_)
  · refine J_iconst C dX1_isFull_16 kci_0 ?_
    exact J_iret C RT (by decide) dX1_isFull_17
  · refine J_iconst C dX1_isFull_12 kci_1 ?_
    refine J_goto (tgt := 17) C dX1_isFull_13 (by decide) ?_
    exact J_iret C RT (by decide) dX1_isFull_17
theorem c1_isFull (l : Launch) (w : WE) (o0 : Nat) (h0 : typ o0 = 1) (M : Mem) : MC l w yX1_isFull (wz yX1_isFull cX1_isFull 1 (some .boolean)) rm1_isFull [.ref (wa w o0)] (s1_isFull o0 M) M :=
  mc_of_J (own := RX1) rfl (by decide) rfl rfl (Nat.le_of_ble_eq_true rfl) (fun _ _ C RT => b1_isFull C RT o0 h0 M)
theorem hdX1_isFull : yX1_isFull.cls = RX1 ∧ yOK yX1_isFull 0 := ⟨rfl, by decide, by decide, by decide⟩
abbrev rm1_append : Room := { frames := 1, cells := 0, slots := 0, locals := 20 }
def s1_append (o0 : Nat) (x1 : Int32) (M : Mem) : Option Res := cb (s1_isFull o0 M) (fun r2 M1 => if r2 = 0 then (if inB (M1 o0 1) (alen (link o0 0)) then mlet (mset M1 (link o0 0) (M1 o0 1).toNatClampNeg x1) (fun M3 => mlet (mset M3 o0 1 ((M3 o0 1) + (1 : Int32))) (fun M4 => some (M4 o0 1, M4))) else none) else (some (M1 o0 1, M1)))
set_option maxRecDepth 100000 in
set_option maxHeartbeats 4000000 in
theorem b1_append {w : WE} {g : GT} (C : CT w g RX1 cX1_append rm1_append 2) (RT : RTi w g cX1_append .int) (o0 : Nat) (h0 : typ o0 = 1) (x1 : Int32) (M : Mem) : J w g (s1_append o0 x1 M) M 0 [(0, .ref (wa w o0)), (1, .int x1)] [] := by
  rw [s1_append]
  refine J_aload_n C dX1_append_0 rfl 0 rfl ?_
  refine J_cvi (As := []) C (c1_isFull (gl g) w o0 h0 M) (gd_v W4_105 W4_98 W4_99 W1_8 W4_100) rfl (by decide) (hdX1_isFull) h0 (by decide) (cl_1) rfl (Nat.le_of_ble_eq_true rfl) dX1_append_1 rfl (fun r2 M1 => ?_)
  refine J_if_ne (tgt := 27) C dX1_append_4 (by decide) (fun _ => ?_) (fun _ => ?_)
  · refine J_aload_n C dX1_append_27 rfl 0 rfl ?_
    refine J_geti C fk1_1 W2_1 h0 dX1_append_28 ?_
    exact J_iret C RT rfl dX1_append_31
  · refine J_aload_n C dX1_append_7 rfl 0 rfl ?_
    refine J_getr C fk1_0 W2_0 h0 dX1_append_8 ?_
    refine J_aload_n C dX1_append_11 rfl 0 rfl ?_
    refine J_geti C fk1_1 W2_1 h0 dX1_append_12 ?_
    refine J_iload_n C dX1_append_15 rfl 1 rfl ?_
    refine J_iastore C (tl_1_0 h0) dX1_append_16 ?_
    refine J_mlet (fun M3 => ?_)
    refine J_aload_n C dX1_append_17 rfl 0 rfl ?_
    refine J_dup C rfl dX1_append_18 ?_
    refine J_geti C fk1_1 W2_1 h0 dX1_append_19 ?_
    refine J_iconst C dX1_append_22 kci_1 ?_
    refine J_iadd C dX1_append_23 ?_
    refine J_puti C fk1_1 W2_1 fp1_1 h0 dX1_append_24 ?_
    refine J_mlet (fun M4 => ?_)
    refine J_aload_n C dX1_append_27 rfl 0 rfl ?_
    refine J_geti C fk1_1 W2_1 h0 dX1_append_28 ?_
    exact J_iret C RT rfl dX1_append_31
theorem c1_append (l : Launch) (w : WE) (o0 : Nat) (h0 : typ o0 = 1) (x1 : Int32) (M : Mem) : MC l w yX1_append (wz yX1_append cX1_append 2 (some .int)) rm1_append [.ref (wa w o0), .int x1] (s1_append o0 x1 M) M :=
  mc_of_J (own := RX1) rfl (by decide) rfl rfl (Nat.le_of_ble_eq_true rfl) (fun _ _ C RT => b1_append C RT o0 h0 x1 M)
theorem hdX1_append : yX1_append.cls = RX1 ∧ yOK yX1_append 1 := ⟨rfl, by decide, by decide, by decide⟩
abbrev rm1_hundredthsUpTo : Room := { frames := 0, cells := 0, slots := 0, locals := 0 }
def s1_hundredthsUpTo_4 (n : Nat) (o0 : Nat) (x1 : Int32) : Nat → Int32 → Int32 → Mem → Option Res
  | 0, _, _, _ => none
  | f + 1, x2, x3, M => if (M o0 1) ≤ x3 then (if (M o0 1) ≤ 0 then (some ((0 : Int32), M)) else (if (M o0 1) = 0 then none else some ((x2 * (100 : Int32)) / (M o0 1), M))) else (if inB x3 (alen (link o0 0)) then if x1 < (M (link o0 0) x3.toNatClampNeg) then (ilet (x3 + 1) (fun v1 => s1_hundredthsUpTo_4 n o0 x1 f x2 v1 M)) else (ilet (x2 + 1) (fun v2 => ilet (x3 + 1) (fun v3 => s1_hundredthsUpTo_4 n o0 x1 f v2 v3 M))) else none)
set_option maxRecDepth 100000 in
set_option maxHeartbeats 4000000 in
theorem b1_hundredthsUpTo_4 {w : WE} {g : GT} (C : CT w g RX1 cX1_hundredthsUpTo rm1_hundredthsUpTo 4) (RT : RTi w g cX1_hundredthsUpTo .int) (n : Nat) (o0 : Nat) (h0 : typ o0 = 1) (x1 : Int32) : ∀ (f : Nat) (x2 : Int32) (x3 : Int32) (M : Mem), J w g (s1_hundredthsUpTo_4 n o0 x1 f x2 x3 M) M 4 [(0, .ref (wa w o0)), (1, .int x1), (2, .int x2), (3, .int x3)] [] := by
  intro f
  induction f with
  | zero =>
    intro x2 x3 M
    rw [s1_hundredthsUpTo_4]
    exact J_none
  | succ f ih =>
    intro x2 x3 M
    rw [s1_hundredthsUpTo_4]
    refine J_iload_n C dX1_hundredthsUpTo_4 rfl 3 rfl ?_
    refine J_aload_n C dX1_hundredthsUpTo_5 rfl 0 rfl ?_
    refine J_geti C fk1_1 W2_1 h0 dX1_hundredthsUpTo_6 ?_
    refine J_icmp_ge (tgt := 31) C dX1_hundredthsUpTo_9 (by decide) (fun _ => ?_) (fun _ => ?_)
    · refine J_aload_n C dX1_hundredthsUpTo_31 rfl 0 rfl ?_
      refine J_geti C fk1_1 W2_1 h0 dX1_hundredthsUpTo_32 ?_
      refine J_if_le (tgt := 50) C dX1_hundredthsUpTo_35 (by decide) (fun _ => ?_) (fun _ => ?_)
      · refine J_iconst C dX1_hundredthsUpTo_50 kci_0 ?_
        exact J_iret C RT rfl dX1_hundredthsUpTo_51
      · refine J_iload_n C dX1_hundredthsUpTo_38 rfl 2 rfl ?_
        refine J_bipush C dX1_hundredthsUpTo_39 kcb_100 ?_
        refine J_imul C dX1_hundredthsUpTo_41 ?_
        refine J_aload_n C dX1_hundredthsUpTo_42 rfl 0 rfl ?_
        refine J_geti C fk1_1 W2_1 h0 dX1_hundredthsUpTo_43 ?_
        refine J_idiv C dX1_hundredthsUpTo_46 ?_
        refine J_goto (tgt := 51) C dX1_hundredthsUpTo_47 (by decide) ?_
        exact J_iret C RT rfl dX1_hundredthsUpTo_51
    · refine J_aload_n C dX1_hundredthsUpTo_12 rfl 0 rfl ?_
      refine J_getr C fk1_0 W2_0 h0 dX1_hundredthsUpTo_13 ?_
      refine J_iload_n C dX1_hundredthsUpTo_16 rfl 3 rfl ?_
      refine J_aload_ C (tl_1_0 h0) dX1_hundredthsUpTo_17 ?_
      refine J_iload_n C dX1_hundredthsUpTo_18 rfl 1 rfl ?_
      refine J_icmp_gt (tgt := 25) C dX1_hundredthsUpTo_19 (by decide) (fun _ => ?_) (fun _ => ?_)
      · refine J_iinc (lw := fun v1 => [(3, .int v1), (0, .ref (wa w o0)), (1, .int x1), (2, .int x2)]) (X := x3 + 1) C dX1_hundredthsUpTo_25 (q := 3) rfl (by rw [kci_1]) (by decide) (fun _ => rfl) (fun v1 => ?_)
        refine J_goto (tgt := 4) C dX1_hundredthsUpTo_28 (by decide) ?_
        refine J_lv [1, 2, 3, 0] rfl ?_
        exact ih x2 v1 M
      · refine J_iinc (lw := fun v2 => [(2, .int v2), (0, .ref (wa w o0)), (1, .int x1), (3, .int x3)]) (X := x2 + 1) C dX1_hundredthsUpTo_22 (q := 2) rfl (by rw [kci_1]) (by decide) (fun _ => rfl) (fun v2 => ?_)
        refine J_iinc (lw := fun v3 => [(3, .int v3), (2, .int v2), (0, .ref (wa w o0)), (1, .int x1)]) (X := x3 + 1) C dX1_hundredthsUpTo_25 (q := 3) rfl (by rw [kci_1]) (by decide) (fun _ => rfl) (fun v3 => ?_)
        refine J_goto (tgt := 4) C dX1_hundredthsUpTo_28 (by decide) ?_
        refine J_lv [2, 3, 1, 0] rfl ?_
        exact ih v2 v3 M
def s1_hundredthsUpTo (n : Nat) (o0 : Nat) (x1 : Int32) (M : Mem) : Option Res := s1_hundredthsUpTo_4 n o0 x1 n (0 : Int32) (0 : Int32) M
set_option maxRecDepth 100000 in
set_option maxHeartbeats 4000000 in
theorem b1_hundredthsUpTo {w : WE} {g : GT} (C : CT w g RX1 cX1_hundredthsUpTo rm1_hundredthsUpTo 4) (RT : RTi w g cX1_hundredthsUpTo .int) (n : Nat) (o0 : Nat) (h0 : typ o0 = 1) (x1 : Int32) (M : Mem) : J w g (s1_hundredthsUpTo n o0 x1 M) M 0 [(0, .ref (wa w o0)), (1, .int x1)] [] := by
  rw [s1_hundredthsUpTo]
  refine J_iconst C dX1_hundredthsUpTo_0 kci_0 ?_
  refine J_istore_n (lv' := [(2, .int (0 : Int32)), (0, .ref (wa w o0)), (1, .int x1)]) C dX1_hundredthsUpTo_1 rfl (by decide) rfl ?_
  refine J_iconst C dX1_hundredthsUpTo_2 kci_0 ?_
  refine J_istore_n (lv' := [(3, .int (0 : Int32)), (2, .int (0 : Int32)), (0, .ref (wa w o0)), (1, .int x1)]) C dX1_hundredthsUpTo_3 rfl (by decide) rfl ?_
  refine J_lv [2, 3, 1, 0] rfl ?_
  exact b1_hundredthsUpTo_4 C RT n o0 h0 x1 n (0 : Int32) (0 : Int32) M
theorem c1_hundredthsUpTo (l : Launch) (w : WE) (n : Nat) (o0 : Nat) (h0 : typ o0 = 1) (x1 : Int32) (M : Mem) : MC l w yX1_hundredthsUpTo (wz yX1_hundredthsUpTo cX1_hundredthsUpTo 4 (some .int)) rm1_hundredthsUpTo [.ref (wa w o0), .int x1] (s1_hundredthsUpTo n o0 x1 M) M :=
  mc_of_J (own := RX1) rfl (by decide) rfl rfl (Nat.le_of_ble_eq_true rfl) (fun _ _ C RT => b1_hundredthsUpTo C RT n o0 h0 x1 M)
theorem hdX1_hundredthsUpTo : yX1_hundredthsUpTo.cls = RX1 ∧ yOK yX1_hundredthsUpTo 1 := ⟨rfl, by decide, by decide, by decide⟩
abbrev rm2_canGoOn : Room := { frames := 2, cells := 0, slots := 0, locals := 43 }
def s2_canGoOn (n : Nat) (o0 : Nat) (M : Mem) : Option Res := if (M o0 9) = 0 then (cb (s2_countIn n o0 M) (fun r2 M1 => if r2 < (2 : Int32) then (some ((0 : Int32), M1)) else (if (M1 (link o0 0) 1) ≤ 0 then (some ((0 : Int32), M1)) else (some ((1 : Int32), M1))))) else (some ((0 : Int32), M))
set_option maxRecDepth 100000 in
set_option maxHeartbeats 4000000 in
theorem b2_canGoOn {w : WE} {g : GT} (C : CT w g RX2 cX2_canGoOn rm2_canGoOn 1) (RT : RTi w g cX2_canGoOn .boolean) (n : Nat) (o0 : Nat) (h0 : typ o0 = 2) (M : Mem) : J w g (s2_canGoOn n o0 M) M 0 [(0, .ref (wa w o0))] [] := by
  rw [s2_canGoOn]
  refine J_aload_n C dX2_canGoOn_0 rfl 0 rfl ?_
  refine J_geti C fk2_9 W1_191 h0 dX2_canGoOn_1 ?_
  refine J_if_ne (tgt := 29) C dX2_canGoOn_4 (by decide) (fun _ => ?_) (fun _ => ?_)
  · refine J_iconst C dX2_canGoOn_29 kci_0 ?_
    exact J_iret C RT (by decide) dX2_canGoOn_30
  · refine J_aload_n C dX2_canGoOn_7 rfl 0 rfl ?_
    refine J_cvi (As := []) C (c2_countIn (gl g) w n o0 h0 M) (gd_v W3_105 W3_106 W3_107 W1_3 W3_108) rfl (by decide) (hdX2_countIn) h0 (by decide) (cl_2) rfl (Nat.le_of_ble_eq_true rfl) dX2_canGoOn_8 rfl (fun r2 M1 => ?_)
    refine J_iconst C dX2_canGoOn_11 kci_2 ?_
    refine J_icmp_lt (tgt := 29) C dX2_canGoOn_12 (by decide) (fun _ => ?_) (fun _ => ?_)
    · refine J_iconst C dX2_canGoOn_29 kci_0 ?_
      exact J_iret C RT (by decide) dX2_canGoOn_30
    · refine J_aload_n C dX2_canGoOn_15 rfl 0 rfl ?_
      refine J_getr C fk2_0 W1_162 h0 dX2_canGoOn_16 ?_
      refine J_geti C fk4_1 W1_50 (tl_2_0 h0) dX2_canGoOn_19 ?_
      refine J_if_le (tgt := 29) C dX2_canGoOn_22 (by decide) (fun _ => ?_) (fun _ => ?_)
      · refine J_iconst C dX2_canGoOn_29 kci_0 ?_
        exact J_iret C RT (by decide) dX2_canGoOn_30
      · refine J_iconst C dX2_canGoOn_25 kci_1 ?_
        refine J_goto (tgt := 30) C dX2_canGoOn_26 (by decide) ?_
        exact J_iret C RT (by decide) dX2_canGoOn_30
theorem c2_canGoOn (l : Launch) (w : WE) (n : Nat) (o0 : Nat) (h0 : typ o0 = 2) (M : Mem) : MC l w yX2_canGoOn (wz yX2_canGoOn cX2_canGoOn 1 (some .boolean)) rm2_canGoOn [.ref (wa w o0)] (s2_canGoOn n o0 M) M :=
  mc_of_J (own := RX2) rfl (by decide) rfl rfl (Nat.le_of_ble_eq_true rfl) (fun _ _ C RT => b2_canGoOn C RT n o0 h0 M)
theorem hdX2_canGoOn : yX2_canGoOn.cls = RX2 ∧ yOK yX2_canGoOn 0 := ⟨rfl, by decide, by decide, by decide⟩
